/-! THE CLASS, 17: the sides are read, and all of it -/
def CK0 (tp : List Nat) (s : Nat) (M : ZM) : Prop := (CTp tp M ∧ s ≤ tp.length) ∧ (M.1 65 3 = nI s ∧ M.1 65 4 = (-1 : Int32))
theorem CK0.frT {tp : List Nat} {s s' : Nat} {M M' : ZM} (h : CK0 tp s M) (hf : frI pTc M M') (hs : s' ≤ tp.length) (ha : M'.1 65 3 = nI s') (h4 : M'.1 65 4 = M.1 65 4) : CK0 tp s' M' :=
  ⟨⟨h.1.1.frT hf, hs⟩, ha, h4.trans h.2.2⟩
section QR
variable {d : Nat} {M : ZM} {tp : List Nat} {s e : Nat}
theorem q_fail_0 (h : CK0 tp s M) {p k : Nat} (hp : p ≤ 1000) (hk : k < 8) : ∃ M', zEv (d + 1) zmT_fail [.ref 65, .int (nI p), .int (nI k)] M = some (none, M') ∧ CF tp (8 * p + k) M' ∧ frI pTc M M' := by
  have f1 : frI pTc M (zpi M 65 4 (nI (8 * p + k))) := fr.refl.pi ⟨rfl, by omega⟩
  refine ⟨zpi M 65 4 (nI (8 * p + k)), e_T_fail ?_, ⟨⟨h.1.1.frT f1, s, h.1.2, by rw [m_pi, if_neg (by omega)]; exact h.2.1⟩, by rw [m_pi, if_pos ⟨rfl, rfl⟩], by omega⟩, f1⟩
  rw [h.2.2, if_pos rfl, n_mul, n_add]
theorem q_readNumber_0 (h : CK0 tp s M) {lo hi : Nat} (hlo : lo < 10000000) (hhi : hi < 10000000) : ∃ v M', zEv (d + 3) zmT_readNumber [.ref 65, .int (nI lo), .int (nI hi)] M = some (some (.int v), M') ∧ frI pTc M M' ∧ CE tp (fun q => v = nI q.1 ∧ CK0 tp q.2 M') M' (rdN tp s lo hi) := by
  have hs := h.1.2
  have hl := h.1.1.1.2
  have hle := skp_le hs
  obtain ⟨M1, a1, a2, a3⟩ := q_skip (d := d + 1) h.1.1 hs h.2.1
  have k1 : CK0 tp (skp tp s) M1 := h.frT (fr_a3 a3) hle.2 a2 (a3.1 65 4 (by omega))
  unfold rdN
  cases hB : inB tp (skp tp s) 48 57 with
  | false =>
    rw [if_neg (by simp)]
    obtain ⟨M2, b1, b2, b3⟩ := q_fail_0 (d := d + 1) k1 (p := skp tp s) (k := 1) (by omega) (by omega)
    refine ⟨nI lo, M2, e_T_readNumber ?_, (fr_a3 a3).trans b3, b2⟩
    rw [a1, zC0_some, a2, q_isDigitAt (d := d + 1) k1.1.1 (by omega), zC1_some, hB, if_pos (show nB false = nI 0 from rfl), a2, b1, zC0_some]
  | true =>
    rw [if_pos rfl]
    obtain ⟨M2, w, g1, g2, g3, g4⟩ := q_readNum_l (d := d) (x1 := nI lo) (x2 := nI hi) (x3 := nI (skp tp s)) (tp.length - skp tp s) (skp tp s) 0 0 M1 (by omega) k1.1.1 (Or.inl ⟨by omega, rfl⟩) a2
    have hd := dgl_le (tp := tp) (tp.length - skp tp s) (skp tp s) 0 (by omega)
    have hw : w ≤ 10000000 := by unfold Cq at g1; omega
    have k2 : CK0 tp (dgl tp (tp.length - skp tp s) (skp tp s) 0).2 M2 := k1.frT (fr_a3 g3) hd.2 g2 (g3.1 65 4 (by omega))
    have go : ∀ {R : ZR}, h_T_readNumber_34 (d + 2) (nI lo) (nI hi) (nI (skp tp s)) (nI 0) M1 = some R → zEv (d + 3) zmT_readNumber [.ref 65, .int (nI lo), .int (nI hi)] M = some R := fun hR => e_T_readNumber (by
      rw [a1, zC0_some, a2, q_isDigitAt (d := d + 1) k1.1.1 (by omega), zC1_some, hB, if_neg (by decide)]
      exact hR)
    unfold rdD
    by_cases hin : lo ≤ (dgl tp (tp.length - skp tp s) (skp tp s) 0).1 ∧ (dgl tp (tp.length - skp tp s) (skp tp s) 0).1 ≤ hi
    · rw [if_pos hin]
      have hww : w = (dgl tp (tp.length - skp tp s) (skp tp s) 0).1 := by unfold Cq at g1; omega
      refine ⟨nI w, M2, go (g4 _ ?_), (fr_a3 a3).trans (fr_a3 g3), by rw [hww], k2⟩
      rw [if_neg (by rw [n_lt (by omega) (by omega)]; omega), if_neg (by rw [n_lt (by omega) (by omega)]; omega)]
    · rw [if_neg hin]
      obtain ⟨M3, b1, b2, b3⟩ := q_fail_0 (d := d + 1) k2 (p := skp tp s) (k := 2) (by omega) (by omega)
      refine ⟨nI lo, M3, go (g4 _ ?_), ((fr_a3 a3).trans (fr_a3 g3)).trans b3, b2⟩
      by_cases c1 : w < lo
      · rw [if_pos ((n_lt (by omega) (by omega)).mpr c1), b1, zC0_some]
      · have c2 : hi < w := by unfold Cq at g1; omega
        rw [if_neg (by rw [n_lt (by omega) (by omega)]; exact c1), if_pos ((n_lt (by omega) (by omega)).mpr c2), b1, zC0_some]
theorem q_takeWord_0 (h : CK0 tp s M) {j : Nat} (hj : j < 17) : ∃ M', zEv (d + 5) zmT_takeWord [.ref 65, .ref (j + 1)] M = some (some (.int (nB (isW tp s (wd j)))), M') ∧ frI pTc M M' ∧ CK0 tp (tkW tp s (wd j)) M' := by
  have hs := h.1.2
  have hl := h.1.1.1.2
  have hle := skp_le hs
  have h7 := ztx_le j hj
  have h0 := ztx_0 j hj
  rw [← wd_len] at h7 h0
  obtain ⟨M1, a1, a2, a3⟩ := q_skip (d := d + 3) h.1.1 hs h.2.1
  have k1 : CK0 tp (skp tp s) M1 := h.frT (fr_a3 a3) hle.2 a2 (a3.1 65 4 (by omega))
  have go : ∀ {R : ZR}, (if nI tp.length < nI (skp tp s + (wd j).length) then some (some (.int (nI 0)), M1) else zC1 (zEv (d + 4) zmT_isLetterAt [.ref 65, .int (nI (skp tp s + (wd j).length))] M1) (fun v10 M9 => (if v10 = (nI 0) then h_T_takeWord_42 (d + 4) (j + 1) (nI (skp tp s + (wd j).length)) (nI 0) M9 else some (some (.int (nI 0)), M9)))) = some R → zEv (d + 5) zmT_takeWord [.ref 65, .ref (j + 1)] M = some R := fun hR => e_T_takeWord (zkS j hj).1 (by
    rw [a1, zC0_some, s_length (d := d + 2) hj, zC1_some, k1.2.2, if_pos rfl, k1.1.1.1.1, a2, n_add]
    exact hR)
  cases hW : isW tp s (wd j) with
  | true =>
    have hlen := isW_le hs h0 hW
    have hW2 := hW
    unfold isW at hW2
    rw [Bool.and_eq_true] at hW2
    have hall := hW2.1
    rw [List.range_eq_range'] at hall
    have hlt : inB tp (skp tp s + (wd j).length) 97 122 = false := by
      have := hW2.2
      cases hb : inB tp (skp tp s + (wd j).length) 97 122 with
      | false => rfl
      | true => rw [hb] at this; cases this
    have f2 : frI pTc M1 (zpi M1 65 3 (nI (skp tp s + (wd j).length))) := fr.refl.pi ⟨rfl, by omega⟩
    rw [tkW_t hW]
    refine ⟨zpi M1 65 3 (nI (skp tp s + (wd j).length)), go ?_, (fr_a3 a3).trans f2, k1.frT f2 hlen (by rw [m_pi, if_pos ⟨rfl, rfl⟩]) (by rw [m_pi, if_neg (by omega)])⟩
    rw [if_neg (by rw [n_lt (by omega) (by omega)]; omega), q_isLetterAt (d := d + 3) k1.1.1 (by omega), zC1_some, hlt, if_pos (show nB false = nI 0 from rfl)]
    exact (q_takeWord_42 (d := d) hj k1.1.1 a2 hlen (wd j).length 0 (by omega)).1 hall
  | false =>
    rw [tkW_f hW]
    refine ⟨M1, go ?_, fr_a3 a3, k1⟩
    by_cases hlen : skp tp s + (wd j).length ≤ tp.length
    · rw [if_neg (by rw [n_lt (by omega) (by omega)]; omega), q_isLetterAt (d := d + 3) k1.1.1 (by omega), zC1_some]
      cases hb : inB tp (skp tp s + (wd j).length) 97 122 with
      | true => rw [if_neg (by decide)]; rfl
      | false =>
        rw [if_pos (show nB false = nI 0 from rfl)]
        have hall : ((List.range' 0 (wd j).length).all fun i => decide (skp tp s + i < tp.length) && decide (tq tp (skp tp s + i) = (wd j).getD i 0)) = false := by
          unfold isW at hW
          rw [hb, List.range_eq_range'] at hW
          rw [← hW, Bool.not_false, Bool.and_true]
        exact (q_takeWord_42 (d := d) hj k1.1.1 a2 hlen (wd j).length 0 (by omega)).2 hall
    · rw [if_pos ((n_lt (by omega) (by omega)).mpr (by omega))]
      rfl
theorem q_expect_0 (h : CK0 tp s M) {j : Nat} (hj : j < 17) : ∃ M', zEv (d + 6) zmT_expect [.ref 65, .ref (j + 1)] M = some (none, M') ∧ frI pTc M M' ∧ CE tp (fun s' => CK0 tp s' M') M' (if isW tp s (wd j) = true then .ok (skp tp s + (wd j).length) else .error (8 * skp tp s + 1)) := by
  have hle := skp_le h.1.2
  have hl := h.1.1.1.2
  obtain ⟨M1, a1, a2, a3⟩ := q_takeWord_0 (d := d) h hj
  cases hW : isW tp s (wd j) with
  | true =>
    rw [hW] at a1
    rw [tkW_t hW] at a3
    rw [if_pos rfl]
    refine ⟨M1, e_T_expect (zkS j hj).1 ?_, a2, a3⟩
    rw [a1, zC1_some, if_neg (by decide)]
  | false =>
    rw [hW] at a1
    rw [tkW_f hW] at a3
    rw [if_neg (by simp)]
    obtain ⟨M2, b1, b2, b3⟩ := q_fail_0 (d := d + 4) a3 (p := skp tp s) (k := 1) (by omega) (by omega)
    refine ⟨M2, e_T_expect (zkS j hj).1 ?_, a2.trans b3, b2⟩
    rw [a1, zC1_some, if_pos (show nB false = nI 0 from rfl), a3.2.1, b1, zC0_some]
theorem q_expect_f (h : CF tp e M) {j : Nat} (hj : j < 17) : ∃ M', zEv (d + 6) zmT_expect [.ref 65, .ref (j + 1)] M = some (none, M') ∧ frI pTc M M' ∧ CF tp e M' := by
  obtain ⟨M1, a1, a2, a3⟩ := q_takeWord_f (d := d) h hj
  refine ⟨M1, e_T_expect (zkS j hj).1 ?_, a2, a3⟩
  rw [a1, zC1_some, if_pos rfl, q_fail_f (d := d + 4) a3, zC0_some]
/-- the sides, as they are read -/
def rdSd (tp : List Nat) : Except Nat (Nat × (Nat → Nat)) :=
  if isW tp 0 (wd 9) = true then
    match rdN tp (skp tp 0 + 5) 1 6 with
    | .error e => .error e
    | .ok q0 => match rdN tp q0.2 1 6 with
      | .error e => .error e
      | .ok q1 => if isW tp q1.2 (wd 16) = true then
          match rdN tp (skp tp q1.2 + 3) 2 7 with
          | .error e => .error e
          | .ok q2 => .ok (q2.2, sidR q0.1 q1.1 q2.1)
        else .error (8 * skp tp q1.2 + 1)
  else .error (8 * skp tp 0 + 1)
theorem rdAll_sd : rdAll tp = match rdSd tp with
    | Except.error e => Except.error e
    | Except.ok p => rdRest tp 401 p.1 p.2 := by
  unfold rdAll rdSd
  by_cases h9 : isW tp 0 (wd 9) = true
  · rw [if_pos h9, if_pos h9]
    cases rdN tp (skp tp 0 + 5) 1 6 with
    | error e => rfl
    | ok q0 =>
      dsimp only
      cases rdN tp q0.2 1 6 with
      | error e => rfl
      | ok q1 =>
        dsimp only
        by_cases h16 : isW tp q1.2 (wd 16) = true
        · rw [if_pos h16, if_pos h16]
          cases rdN tp (skp tp q1.2 + 3) 2 7 with
          | error e => rfl
          | ok q2 => rfl
        · rw [if_neg h16, if_neg h16]
  · rw [if_neg h9, if_neg h9]
theorem q_readSides (h : CK0 tp 0 M) : ∃ M', zEv (d + 7) zmT_readSides [.ref 65] M = some (none, M') ∧ fr pTB (pBd 67) M M' ∧ CE tp (fun q => CK tp q.1 q.2 M' ∧ PV q.2 ∧ PB q.2) M' (rdSd tp) := by
  have hl := h.1.1.1.2
  have wl := wd_l9
  -- from a fault on nothing is told
  have fin : ∀ {M1 : ZM} {e : Nat} {v1 v2 v3 : Int32}, CF tp e M1 → (if (M1.1 65 4) = (-1 : Int32) then zC0 (zEv (d + 6) zmB_lay [.ref 67, .int v1, .int v2, .int v3] M1) (fun M16 => some (none, M16)) else some (none, M1)) = some (none, M1) := fun hF => if_neg (by rw [hF.2.1]; exact n_nem1 (by have := hF.2.2; omega))
  have num_f : ∀ {M1 : ZM} {e : Nat} (x y : Int32), CF tp e M1 → ∃ v M2, zEv (d + 6) zmT_readNumber [.ref 65, .int x, .int y] M1 = some (some (.int v), M2) ∧ frI pTc M1 M2 ∧ CF tp e M2 := fun x y hF => q_readNumber_f (d := d + 3) hF x y
  have exp_f : ∀ {M1 : ZM} {e : Nat}, CF tp e M1 → ∃ M2, zEv (d + 6) zmT_expect [.ref 65, .ref 17] M1 = some (none, M2) ∧ frI pTc M1 M2 ∧ CF tp e M2 := fun hF => q_expect_f (d := d) hF (j := 16) (by omega)
  have B : ∀ {M M' : ZM}, frI pTc M M' → fr pTB (pBd 67) M M' := fun h => fr5_B (frT_5 h)
  obtain ⟨M1, a1, a2, a3⟩ := q_expect_0 (d := d) h (j := 9) (by omega)
  rw [wl.1] at a3
  unfold rdSd
  cases h9 : isW tp 0 (wd 9) with
  | false =>
    rw [h9, if_neg (by simp)] at a3
    have F1 : CF tp (8 * skp tp 0 + 1) M1 := a3
    obtain ⟨v1, M2, b1, b2, b3⟩ := num_f (nI 1) (nI 6) F1
    obtain ⟨v2, M3, c1, c2, c3⟩ := num_f (nI 1) (nI 6) b3
    obtain ⟨M4, p1, p2, p3⟩ := exp_f c3
    obtain ⟨v3, M5, q1, q2, q3⟩ := num_f (nI 2) (nI 7) p3
    rw [if_neg (by simp)]
    refine ⟨M5, e_T_readSides ?_, ((((B a2).trans (B b2)).trans (B c2)).trans (B p2)).trans (B q2), q3⟩
    rw [a1, zC0_some, b1, zC1_some, c1, zC1_some, p1, zC0_some, q1, zC1_some]
    exact fin q3
  | true =>
    rw [h9, if_pos rfl] at a3
    have K1 : CK0 tp (skp tp 0 + 5) M1 := a3
    rw [if_pos rfl]
    obtain ⟨v1, M2, b1, b2, b3⟩ := q_readNumber_0 (d := d + 3) K1 (lo := 1) (hi := 6) (by omega) (by omega)
    cases h0 : rdN tp (skp tp 0 + 5) 1 6 with
    | error e0 =>
      rw [h0] at b3
      have F2 : CF tp e0 M2 := b3
      obtain ⟨v2, M3, c1, c2, c3⟩ := num_f (nI 1) (nI 6) F2
      obtain ⟨M4, p1, p2, p3⟩ := exp_f c3
      obtain ⟨v3, M5, q1, q2, q3⟩ := num_f (nI 2) (nI 7) p3
      refine ⟨M5, e_T_readSides ?_, ((((B a2).trans (B b2)).trans (B c2)).trans (B p2)).trans (B q2), q3⟩
      rw [a1, zC0_some, b1, zC1_some, c1, zC1_some, p1, zC0_some, q1, zC1_some]
      exact fin q3
    | ok q0 =>
      rw [h0] at b3
      obtain ⟨hv1, K2⟩ : v1 = nI q0.1 ∧ CK0 tp q0.2 M2 := b3
      obtain ⟨l1, -⟩ := rdN_ok K1.1.2 h0
      dsimp only
      obtain ⟨v2, M3, c1, c2, c3⟩ := q_readNumber_0 (d := d + 3) K2 (lo := 1) (hi := 6) (by omega) (by omega)
      cases h1 : rdN tp q0.2 1 6 with
      | error e0 =>
        rw [h1] at c3
        have F3 : CF tp e0 M3 := c3
        obtain ⟨M4, p1, p2, p3⟩ := exp_f F3
        obtain ⟨v3, M5, q1, q2, q3⟩ := num_f (nI 2) (nI 7) p3
        refine ⟨M5, e_T_readSides ?_, ((((B a2).trans (B b2)).trans (B c2)).trans (B p2)).trans (B q2), q3⟩
        rw [a1, zC0_some, b1, zC1_some, c1, zC1_some, p1, zC0_some, q1, zC1_some]
        exact fin q3
      | ok q1x =>
        rw [h1] at c3
        obtain ⟨hv2, K3⟩ : v2 = nI q1x.1 ∧ CK0 tp q1x.2 M3 := c3
        obtain ⟨l2, -⟩ := rdN_ok K2.1.2 h1
        dsimp only
        obtain ⟨M4, p1, p2, p3⟩ := q_expect_0 (d := d) K3 (j := 16) (by omega)
        rw [wl.2] at p3
        cases h16 : isW tp q1x.2 (wd 16) with
        | false =>
          rw [h16, if_neg (by simp)] at p3
          have F4 : CF tp (8 * skp tp q1x.2 + 1) M4 := p3
          obtain ⟨v3, M5, q1, q2, q3⟩ := num_f (nI 2) (nI 7) F4
          rw [if_neg (by simp)]
          refine ⟨M5, e_T_readSides ?_, ((((B a2).trans (B b2)).trans (B c2)).trans (B p2)).trans (B q2), q3⟩
          rw [a1, zC0_some, b1, zC1_some, c1, zC1_some, p1, zC0_some, q1, zC1_some]
          exact fin q3
        | true =>
          rw [h16, if_pos rfl] at p3
          have K4 : CK0 tp (skp tp q1x.2 + 3) M4 := p3
          rw [if_pos rfl]
          obtain ⟨v3, M5, q1, q2, q3⟩ := q_readNumber_0 (d := d + 3) K4 (lo := 2) (hi := 7) (by omega) (by omega)
          have f5 : fr pTB (pBd 67) M M5 := ((((B a2).trans (B b2)).trans (B c2)).trans (B p2)).trans (B q2)
          cases h2 : rdN tp (skp tp q1x.2 + 3) 2 7 with
          | error e0 =>
            rw [h2] at q3
            have F5 : CF tp e0 M5 := q3
            refine ⟨M5, e_T_readSides ?_, f5, F5⟩
            rw [a1, zC0_some, b1, zC1_some, c1, zC1_some, p1, zC0_some, q1, zC1_some]
            exact fin F5
          | ok q2x =>
            rw [h2] at q3
            obtain ⟨hv3, K5⟩ : v3 = nI q2x.1 ∧ CK0 tp q2x.2 M5 := q3
            obtain ⟨l3, -⟩ := rdN_ok K4.1.2 h2
            obtain ⟨M6, g1, g2, g3⟩ := q_lay (d := d + 2) (M := M5) l1 l2 l3
            refine ⟨M6, e_T_readSides ?_, f5.trans (fr67_B g3), ⟨⟨K5.1.1.fr g3 (fun a k z => by unfold pBd at z; omega), K5.1.2⟩, ⟨(g3.1 65 3 (fun z => by unfold pBd at z; omega)).trans K5.2.1, (g3.1 65 4 (fun z => by unfold pBd at z; omega)).trans K5.2.2⟩, g2⟩, sidR_v l1 l2 l3, sidR_b l1.2 l2.2 l3.2⟩
            rw [a1, zC0_some, b1, zC1_some, c1, zC1_some, p1, zC0_some, q1, zC1_some, K5.2.2, if_pos rfl, hv1, hv2, hv3, g1, zC0_some]
theorem q_readBoard (hT : CTp tp M) : ∃ M', zEv (d + 10) zmT_readBoard [.ref 65] M = some (some (.int (ansE (rdAll tp))), M') ∧ fr pTB (pBd 67) M M' ∧ CEnd tp M' (rdAll tp) := by
  have hl := hT.1.2
  have f0 : frI pTc M (zpi (zpi M 65 3 (nI 0)) 65 4 (-1)) := (fr.refl.pi ⟨rfl, by omega⟩).pi ⟨rfl, by omega⟩
  have k0 : CK0 tp 0 (zpi (zpi M 65 3 (nI 0)) 65 4 (-1)) := ⟨⟨hT.frT f0, Nat.zero_le _⟩, by rw [m_pi, if_neg (by omega), m_pi, if_pos ⟨rfl, rfl⟩], by rw [m_pi, if_pos ⟨rfl, rfl⟩]⟩
  obtain ⟨M1, a1, a2, a3⟩ := q_readSides (d := d + 2) k0
  have f1 : fr pTB (pBd 67) M M1 := (fr5_B (frT_5 f0)).trans a2
  rw [rdAll_sd]
  cases hS : rdSd tp with
  | error e1 =>
    rw [hS] at a3
    have F : CF tp e1 M1 := a3
    refine ⟨M1, e_T_readBoard ?_, f1, F.1.1, F.2.2⟩
    rw [a1, zC0_some]
    refine e_T_readBoard_16 ?_
    rw [if_pos (by decide), F.2.1, if_neg (n_nem1 (by have := F.2.2; omega))]
    exact q_rb_84f F
  | ok p =>
    rw [hS] at a3
    obtain ⟨k1, hV, hB⟩ : CK tp p.1 p.2 M1 ∧ PV p.2 ∧ PB p.2 := a3
    dsimp only
    have hp : 0 < p.1 ∨ True := Or.inr trivial
    obtain ⟨M', b1, b2, b3⟩ := q_rb_16 (d := d) 401 0 p.1 p.2 M1 (by omega) (by have := k1.1.2; omega) k1 hV hB
    refine ⟨M', e_T_readBoard ?_, f1.trans b2, b3⟩
    rw [a1, zC0_some]
    exact b1
def pCt : Nat → Nat → Prop := fun a k => pTB a k ∨ pCf a k ∨ pBd 86 a k ∨ (a = 64 ∧ k = 5)
def pCt2 : Nat → Nat → Prop := fun a k => pBd 67 a k ∨ pBd 86 a k
/-- what tell leaves of the class -/
def CTe (b : Nat → Nat) (M M' : ZM) : Option (Nat → Nat) → Prop
  | none => BRep b 86 M' ∧ M'.1 64 5 = M.1 64 5
  | some b' => BRep b' 86 M' ∧ M'.1 64 5 = nI 0
theorem c_tell {b : Nat → Nat} (hB : BRep b 86 M) (h12 : b 3 ≤ 12) (hT : CTp tp M) : ∃ M', zEv (d + 11) zmC_tell [.ref 64] M = some (some (.int (spTell tp).1), M') ∧ CTp [] M' ∧ fr pCt pCt2 M M' ∧ CTe b M M' (spTell tp).2 := by
  obtain ⟨M1, a1, a2, a3⟩ := q_readBoard (d := d) hT
  have c1 : CTp tp M1 := by
    cases hE : rdAll tp with
    | error e => rw [hE] at a3; exact a3.1
    | ok r => rw [hE] at a3; exact a3.2
  obtain ⟨M2, b1, b2, b3⟩ := q_cut (d := d + 9) c1 (nI 0)
  have hi : iI (nI 0) (tp.length + 1) = true := by rw [iI_n (by omega), decide_eq_true (by omega)]
  rw [hi] at b1 b2
  have b2' : CTp [] M2 := by
    have e : tp.take (nI 0).toInt.toNat = [] := by rw [n_toInt (by omega)]; exact List.take_zero
    have b22 : CTp (tp.take (nI 0).toInt.toNat) M2 := b2
    rw [e] at b22
    exact b22
  have f2 : fr pCt pCt2 M M2 := (a2.mono (fun _ _ z => Or.inl z) (fun _ _ z => Or.inl z)).trans (b3.mono (fun _ _ z => Or.inr (Or.inl z)) (fun _ _ z => z.elim))
  have hB2 : BRep b 86 M2 := (hB.fr a2 h12 (fun a k z => by unfold pTB pBd at z; omega) (fun a k z => by unfold pBd at z; omega)).fr b3 h12 (fun a k z => by unfold pCf at z; omega) (fun _ _ z => z.elim)
  have e645 : M2.1 64 5 = M.1 64 5 := (b3.1 64 5 (fun z => by unfold pCf at z; omega)).trans (a2.1 64 5 (fun z => by unfold pTB pBd at z; omega))
  unfold spTell
  cases hE : rdAll tp with
  | error e =>
    rw [hE] at a1 a3
    refine ⟨M2, e_C_tell ?_, b2', f2, hB2, e645⟩
    have he : e < 1000000 := a3.2
    rw [a1, zC1_some, b1, zC1_some]
    show (if nI e = (-1 : Int32) then _ else _) = _
    rw [if_neg (n_nem1 (by omega))]
    rfl
  | ok r =>
    rw [hE] at a1 a3
    obtain ⟨g1, g2, g3⟩ := rdAll_ok hE
    have hW := mkR_w g1 g3 (fun _ _ => trivial)
    have k1 : BRep (mkR r) 67 M2 := a3.1.fr b3 hW.1.1.2.2.2 (fun a k z => by unfold pCf at z; omega) (fun _ _ z => z.elim)
    obtain ⟨M3, p1, p2, p3⟩ := q_copyFrom (d := d + 9) zk86 zk67 (by omega) k1 hW.1
    have f4 : frI (fun a k => a = 64 ∧ k = 5) M3 (zpi M3 64 5 (nI 0)) := fr.refl.pi ⟨rfl, rfl⟩
    have k4 : BRep (mkR r) 86 (zpi M3 64 5 (nI 0)) := p2.fr f4 hW.1.1.2.2.2 (fun a k z => by omega) (fun _ _ z => z.elim)
    refine ⟨zpi M3 64 5 (nI 0), e_C_tell ?_, (b2'.fr p3 (fun a k z => by unfold pBd at z; omega)).fr f4 (fun a k z => by omega), (f2.trans (p3.mono (fun _ _ z => Or.inr (Or.inr (Or.inl z))) (fun _ _ z => Or.inr z))).trans (f4.mono (fun a k z => Or.inr (Or.inr (Or.inr z))) (fun _ _ z => z.elim)), k4, by rw [m_pi, if_pos ⟨rfl, rfl⟩]⟩
    have e3 : mkR r 3 = r 3 := mkR_low g1.n36 (by omega)
    rw [a1, zC1_some, b1, zC1_some]
    show (if (-1 : Int32) = (-1 : Int32) then _ else _) = _
    rw [if_pos rfl, p1, zC0_some, k4.1.2.2, e3]
end QR
