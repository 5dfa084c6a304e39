/-! THE CLASS, 15: any part is read -/
theorem alk_dec (tp : List Nat) (s : Nat) : decide (alk tp s = 0) = isW tp s (wd 6) := by
  unfold alk
  cases isW tp s (wd 6) <;> rfl
section QP
variable {d : Nat} {M : ZM} {tp : List Nat} {s e : Nat} {r : Nat → Nat}
theorem msk_no : msk 36 (fun _ => false) = 0 := msk0 36
theorem mostT_le (t : Nat) : mostT t ≤ 999999 := by
  unfold mostT
  split
  · omega
  · split <;> omega
theorem q_readCage (hC : CK tp (s + 4) r M) (hV : PV r) (hB : PB r) (h3 : r 3 < 12) : ∃ M', zEv (d + 7) zmT_readCage [.ref 65] M = some (none, M') ∧ fr pTB (pBd 67) M M' ∧ CPt tp M' (rdCg tp s r) := by
  have hs := hC.1.2
  have hl := hC.1.1.1.2
  have h36 := hV.n36
  unfold rdCg
  rw [if_neg (by omega)]
  obtain ⟨M1, a1, a2, a3⟩ := q_readTotal (d := d) hC hV
  cases hT : rdT tp (s + 4) with
  | error e1 =>
    rw [hT] at a3
    have a3' : CF tp e1 M1 := a3
    obtain ⟨M2, b1, b2, b3⟩ := q_takeWord_f (d := d + 1) a3' (j := 6) (by omega)
    refine ⟨M2, e_T_readCage ?_, (frD_B a2).trans (fr5_B (frT_5 b2)), b3⟩
    rw [a1, zC0_some, b1, zC1_some]
    refine e_T_readCage_16 ?_
    rw [if_pos (by decide), b3.2.1, if_neg (n_nem1 (by have := b3.2.2; omega))]
    exact q_cage_124f (d := d + 5) b3
  | ok q =>
    rw [hT] at a3
    have a3' : CK tp q.2.2 r M1 ∧ M1.1 65 6 = nI q.1 ∧ M1.1 65 7 = nI q.2.1 := a3
    obtain ⟨t1, t2, t3⟩ := rdT_ok hs hT
    obtain ⟨M2, b1, b2, b3⟩ := q_takeWord_k (d := d + 1) a3'.1 hV.1.2.2.2 h36 (j := 6) (by omega)
    have hle := tkW_le t3 (show 6 < 17 by omega)
    have hsk := skp_le t3
    have n67 : ∀ k, 6 ≤ k → M2.1 65 k = M1.1 65 k := fun k hk => b2.1 65 k (fun z => by unfold pTc at z; omega)
    have hmo := mostT_le q.1
    have eM : rdMem tp (cagR r (148 + 10 * r 3) q.1 q.2.1 (alk tp q.2.2)) 400 (tkW tp q.2.2 (wd 6)) (fun _ => false) = rdMem tp r 400 (tkW tp q.2.2 (wd 6)) (fun _ => false) := rdMem_congr hB (fun k hk => cagR_ne (by omega)) 400 _ _
    obtain ⟨M', c1, c2, c3⟩ := q_readCage_16 (d := d + 2) hV hB (t := q.1) (n := q.2.1) (u := alk tp q.2.2) h3 t1.1 (by omega) (alk_le _ _) 400 0 (tkW tp q.2.2 (wd 6)) (fun _ => false) M2 (by omega) (by omega) (by rw [cOf_no]; rfl) (by omega) b3 (fun x z => by cases z) ((n67 6 (by omega)).trans a3'.2.1) ((n67 7 (by omega)).trans a3'.2.2)
    rw [alk_dec, msk_no] at c1
    dsimp only
    rw [eM]
    refine ⟨M', e_T_readCage ?_, ((frD_B a2).trans (fr5_B (frT_5 b2))).trans c2, c3⟩
    rw [a1, zC0_some, b1, zC1_some]
    exact c1
theorem q_lineFrom_62 (hB : BRep (mkR r) 67 M) (hV : PV r) {st en : Nat} (hen : en ≤ r 0 * r 1) (hst : st ≤ 6) : ∀ f k S, en ≤ k + f * st → k ≤ 100 → h_T_lineFrom_62 (d + 2) (nJ (msk 36 S)) (nI st) (nI en) (nI k) M = some (some (.long (nJ (msk 36 (lnS r st en f k S)))), M) := by
  have h36 := hV.n36
  have hW := pv_wk hV
  have stop : ∀ k S, ¬ (k < en ∧ r (4 + k) = 0) → k ≤ 100 → h_T_lineFrom_62 (d + 2) (nJ (msk 36 S)) (nI st) (nI en) (nI k) M = some (some (.long (nJ (msk 36 S))), M) := by
    intro k S hx hk
    refine e_T_lineFrom_62 ?_
    by_cases e : k < en
    · rw [if_pos ((n_lt (by omega) (by omega)).mpr e), q_isOpen (d := d) zk67 hB.sc hW, zC1_some, oI_n (by omega), mkR_isO hV]
      have : isO r k = false := by
        unfold isO
        rw [decide_eq_false (fun z => hx ⟨e, z⟩), Bool.and_false]
      rw [this, if_pos (show nB false = nI 0 from rfl)]
    · rw [if_neg (by rw [n_lt (by omega) (by omega)]; exact e)]
  intro f
  induction f with
  | zero =>
    intro k S h hk
    rw [Nat.zero_mul, Nat.add_zero] at h
    exact stop k S (by omega) hk
  | succ f ih =>
    intro k S h hk
    by_cases hx : k < en ∧ r (4 + k) = 0
    · have eL : lnS r st en (f + 1) k S = lnS r st en f (k + st) (upB S k) := if_pos hx
      rw [eL]
      refine e_T_lineFrom_62 ?_
      have hO : isO r k = true := by
        unfold isO
        rw [decide_eq_true (by omega), decide_eq_true hx.2]
        rfl
      rw [if_pos ((n_lt (by omega) (by omega)).mpr hx.1), q_isOpen (d := d) zk67 hB.sc hW, zC1_some, oI_n (by omega), mkR_isO hV, hO, if_neg (by decide), l_one (by omega), l_or, msk_up (by omega), n_add]
      rw [Nat.succ_mul] at h
      exact ih (k + st) (upB S k) (by omega) (by omega)
    · have eL : lnS r st en (f + 1) k S = S := if_neg hx
      rw [eL]
      exact stop k S hx hk
theorem q_lineFrom (hB : BRep (mkR r) 67 M) (hV : PV r) (hB2 : PB r) {c : Nat} (hc : c < r 0 * r 1) (down : Bool) : zEv (d + 3) zmT_lineFrom [.ref 65, .int (nI c), .int (nB down)] M = some (some (.long (nJ (msk 36 (lnS r (lnST r down) (lnEN r down c) 6 c (fun _ => false))))), M) := by
  have h36 := hV.n36
  obtain ⟨⟨x1, x2⟩, x3, x4, x5, x6, x7⟩ := cell_split hB2 hc
  have e0 : M.1 67 0 = nI (r 0) := by rw [hB.1.1.1, mkR_low h36 (by omega)]
  have e1 : M.1 67 1 = nI (r 1) := by rw [hB.1.1.2, mkR_low h36 (by omega)]
  refine e_T_lineFrom ?_
  rw [e0, e1, if_neg (by rw [n_lt (by omega) (by omega)]; omega)]
  cases down with
  | true =>
    have h := q_lineFrom_62 (d := d) hB hV (st := r 0) (en := r 0 * r 1) (Nat.le_refl _) (by omega) 6 c (fun _ => false) (by omega) (by omega)
    rw [msk_no] at h
    rw [if_neg (by decide), if_neg (by decide), n_mul]
    exact h
  | false =>
    have h := q_lineFrom_62 (d := d) hB hV (st := 1) (en := c - c % r 0 + r 0) x4 (by omega) 6 c (fun _ => false) (by omega) (by omega)
    rw [msk_no] at h
    rw [if_pos (show nB false = nI 0 from rfl), if_pos (show nB false = nI 0 from rfl), if_neg (by rw [n_eq (by omega) (by omega)]; omega), n_rem (by omega) (by omega), n_sub (Nat.mod_le _ _), n_add]
    exact h
theorem q_readLine (down : Bool) {len : Nat} (hC : CK tp (s + len) r M) (hV : PV r) (hB : PB r) (h3 : r 3 < 12) : ∃ M', zEv (d + 7) zmT_readLine [.ref 65, .int (nB down)] M = some (none, M') ∧ fr pTB (pBd 67) M M' ∧ CPt tp M' (rdLn tp s r down len) := by
  have hs := hC.1.2
  have hl := hC.1.1.1.2
  have h36 := hV.n36
  obtain ⟨v, M1, a1, a2, a3, a4⟩ := q_readOpenCell (d := d + 2) hC hV hB
  have failL : ∀ {M1 : ZM} {e1 : Nat} {v : Int32}, CF tp e1 M1 → ∃ M', (zC0 (zEv (d + 6) zmT_readTotal [.ref 65] M1) (fun M5 => zC1 (zEv (d + 6) zmT_takeWord [.ref 65, .ref 7] M5) (fun v8 M7 => (if (M7.1 65 4) = (-1 : Int32) then zC2 (zEv (d + 6) zmT_lineFrom [.ref 65, .int v, .int (nB down)] M7) (fun v12 M11 => zC0 (zEv (d + 6) zmB_addCage [.ref 67, .int (M7.1 65 6), .int (M7.1 65 7), .int v8, .long v12] M11) (fun M14 => some (none, M14))) else some (none, M7))))) = some (none, M') ∧ frI pTd M1 M' ∧ CF tp e1 M' := by
    intro M1 e1 v hF
    obtain ⟨M2, b1, b2, b3⟩ := q_readTotal_f (d := d) hF
    obtain ⟨M3, c1, c2, c3⟩ := q_takeWord_f (d := d + 1) b3 (j := 6) (by omega)
    refine ⟨M3, ?_, b2.trans (frT_D c2), c3⟩
    rw [b1, zC0_some, c1, zC1_some, c3.2.1, if_neg (n_nem1 (by have := c3.2.2; omega))]
  unfold rdLn
  rw [if_neg (by omega)]
  cases hE : rdC tp (s + len) r false with
  | error e1 =>
    rw [hE] at a3
    obtain ⟨M', b1, b2, b3⟩ := failL (v := v) (show CF tp e1 M1 from a3)
    refine ⟨M', e_T_readLine ?_, (fr5_B a2).trans (frD_B b2), b3⟩
    rw [a1, zC1_some]
    exact b1
  | ok c =>
    rw [hE] at a3
    have a3' : v = nI c.1 ∧ CK tp c.2.2 r M1 ∧ M1.1 65 5 = nI c.2.1 := a3
    obtain ⟨hv, k1, e5⟩ := a3'
    obtain ⟨g1, g2, g3, -⟩ := rdC_ok hB hs hE
    dsimp only
    obtain ⟨M2, b1, b2, b3⟩ := q_readTotal (d := d) k1 hV
    cases hT : rdT tp c.2.2 with
    | error e1 =>
      rw [hT] at b3
      have b3' : CF tp e1 M2 := b3
      obtain ⟨M3, c1, c2, c3⟩ := q_takeWord_f (d := d + 1) b3' (j := 6) (by omega)
      refine ⟨M3, e_T_readLine ?_, ((fr5_B a2).trans (frD_B b2)).trans (fr5_B (frT_5 c2)), c3⟩
      rw [a1, zC1_some, b1, zC0_some, c1, zC1_some, c3.2.1, if_neg (n_nem1 (by have := c3.2.2; omega))]
    | ok q =>
      rw [hT] at b3
      have b3' : CK tp q.2.2 r M2 ∧ M2.1 65 6 = nI q.1 ∧ M2.1 65 7 = nI q.2.1 := b3
      obtain ⟨t1, t2, t3⟩ := rdT_ok g3.2 hT
      obtain ⟨M3, c1, c2, c3⟩ := q_takeWord_k (d := d + 1) b3'.1 hV.1.2.2.2 h36 (j := 6) (by omega)
      have n67 : ∀ k, 6 ≤ k → M3.1 65 k = M2.1 65 k := fun k hk => c2.1 65 k (fun z => by unfold pTc at z; omega)
      have hmo := mostT_le q.1
      have hlf := q_lineFrom (d := d + 3) c3.2.2 hV hB g1.1 down
      obtain ⟨⟨l1, l2⟩, l3⟩ := lnEN_le hB g1.1 down
      have h4 := (hV.2.1 c.1 g1.2).1.1
      obtain ⟨m1, m2, m3⟩ := lnS_ok (r := r) (st := lnST r down) (en := lnEN r down c.1) l2 h36 l3 6 c.1 (fun _ => false) (fun x z => by cases z) (fun _ _ => rfl)
      rw [cOf_no] at m3
      have m3' : (cOf (lnS r (lnST r down) (lnEN r down c.1) 6 c.1 fun _ => false)).length ≤ 0 + 6 := m3
      have m4 : 1 ≤ (cOf (lnS r (lnST r down) (lnEN r down c.1) 6 c.1 fun _ => false)).length := by
        have eL : lnS r (lnST r down) (lnEN r down c.1) 6 c.1 (fun _ => false) = lnS r (lnST r down) (lnEN r down c.1) 5 (c.1 + lnST r down) (upB (fun _ => false) c.1) := if_pos ⟨l1, by omega⟩
        rw [eL]
        have h7 := cOf_up (S := fun _ => false) g1.2 rfl
        have hO : isO r c.1 = true := by
          unfold isO
          rw [decide_eq_true g1.1, decide_eq_true (by omega)]
          rfl
        have k := (lnS_ok (r := r) (st := lnST r down) (en := lnEN r down c.1) l2 h36 l3 5 (c.1 + lnST r down) (upB (fun _ => false) c.1) (fun x z => by
          unfold upB at z
          rw [Bool.false_or] at z
          rw [of_decide_eq_true z]; exact hO) (fun x z => by
          unfold upB
          rw [Bool.false_or]
          exact decide_eq_false (by omega))).2.1
        omega
      obtain ⟨M', p1, p2, p3⟩ := q_addCage_b (d := d + 5) zk67 c3.2.2 hV (t := q.1) (n := q.2.1) (u := alk tp q.2.2) (S := lnS r (lnST r down) (lnEN r down c.1) 6 c.1 (fun _ => false)) h3 t1.1 (by omega) (alk_le _ _) m1 m4 (by omega)
      rw [alk_dec] at p1
      refine ⟨M', e_T_readLine ?_, (((fr5_B a2).trans (frD_B b2)).trans (fr5_B (frT_5 c2))).trans (fr67_B p3), Or.inl (c3.bd p3 p2)⟩
      rw [a1, zC1_some, b1, zC0_some, c1, zC1_some, c3.2.1.2, if_pos rfl, hv, hlf, zC2_some, (n67 6 (by omega)).trans b3'.2.1, (n67 7 (by omega)).trans b3'.2.2, p1, zC0_some]
theorem q_hasRoom (hC : CK tp s r M) (hV : PV r) {p : Nat} (hp : p ≤ 1000) : (r 3 < 12 → zEv (d + 2) zmT_hasRoomForCage [.ref 65, .int (nI p)] M = some (some (.int (nI 1)), M)) ∧ (r 3 = 12 → ∃ M', zEv (d + 2) zmT_hasRoomForCage [.ref 65, .int (nI p)] M = some (some (.int (nI 0)), M') ∧ frI pTc M M' ∧ CF tp (8 * p + 3) M') := by
  have e3 : M.1 67 3 = nI (r 3) := by rw [hC.2.2.1.2.2, mkR_low hV.n36 (by omega)]
  refine ⟨fun h => e_T_hasRoomForCage ?_, fun h => ?_⟩
  · rw [e3, if_pos ((n_lt (by omega) (by omega)).mpr h), hC.2.1.2, if_pos rfl]
  · obtain ⟨M', b1, b2, b3⟩ := q_fail_k (d := d) hC (p := p) (k := 3) hp (by omega)
    refine ⟨M', e_T_hasRoomForCage ?_, b3, b2⟩
    rw [e3, if_neg (by rw [n_lt (by omega) (by omega)]; omega), b1, zC0_some, b2.2.1, if_neg (n_nem1 (by have := b2.2; omega))]
end QP
