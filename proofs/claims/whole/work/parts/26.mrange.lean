/-! THE MODEL, 15: range, count -/
/-- the best so far, and one more -/
def rngF (x : Int32) (o : Option Nat) (v : Nat) : Option Nat := match o with
  | none => some v
  | some w => if x = nI 0 then (if v < w then some v else some w) else if w < v then some v else some w
def rngO (b : Nat → Nat) (k : Nat) (x : Int32) : Option Nat := (ext (b 2) (cgU b k) (cgM b k) []).foldl (fun o w => rngF x o (tot (b (148 + 10 * k)) w)) none
def spRange (b : Nat → Nat) (y x : Int32) : Int32 := bif iI y (b 3) then pO (rngO b y.toInt.toNat x) else -1
def pG (i : Nat) : Nat → Nat → Prop := fun a k => (a = 872 ∧ i ≤ k) ∨ (a = 866 ∧ k = 23)
def Bd (o : Option Nat) : Prop := ∀ v, o = some v → v ≤ 117649
theorem Bd.step {x : Int32} {o : Option Nat} {v : Nat} (h : Bd o) (hv : v ≤ 117649) : Bd (rngF x o v) := by
  intro u hu
  unfold rngF at hu
  cases o with
  | none => cases hu; exact hv
  | some w =>
    have := h w rfl
    dsimp only at hu
    repeat' split at hu
    all_goals cases hu; assumption
section MG
variable {d : Nat} {M : ZM} {b : Nat → Nat}
theorem s_goesRange (hW : Wf b) {k : Nat} (hk : k < b 3) (x : Int32) : ∀ (j i : Nat) (pre : List Nat) (M : ZM) (o : Option Nat), i + j = cgN b k → pre.length = i → (∀ x ∈ pre, x ≤ 7) → MR b M → Laid pre M → M.1 866 23 = pO o → Bd o →
    ∃ M', zEv (j + (d + 3)) zmM_goesRange [.ref 866, .int (nI k), .int (nI i), .int x] M = some (none, M') ∧ frI (pG i) M M' ∧ M'.1 866 23 = pO ((ext (b 2) (cgU b k) ((cgM b k).drop i) pre).foldl (fun o w => rngF x o (tot (b (148 + 10 * k)) w)) o) ∧ Bd ((ext (b 2) (cgU b k) ((cgM b k).drop i) pre).foldl (fun o w => rngF x o (tot (b (148 + 10 * k)) w)) o) := by
  have h12 := cg_12 hW hk
  have hg := hW.2.2.2.2.2 k hk
  have h6 := hg.2.1.2
  have h61 := hg.2.1.1
  have htop := hW.1.2.2.1
  have g1 := hg.1.1
  intro j
  induction j with
  | zero =>
    intro i pre M o hij hpl h7 hR hL h23 hB
    have hd : (cgM b k).drop i = [] := List.drop_eq_nil_of_le (by unfold cgM; simp; omega)
    have hne : pre ≠ [] := by
      intro e
      rw [e] at hpl
      simp at hpl
      omega
    have ht := tot_lt (sort := b (148 + 10 * k)) h7 (by omega)
    have hT := s_totalBy (d := d + 1) hL h7 (by omega) g1 hne
    rw [hpl] at hT
    have e23 := pO_m2 (o := o) fun v hv => by have := hB v hv; omega
    have fin : ∀ v : Nat, rngF x o (tot (b (148 + 10 * k)) pre) = some v → frI (pG i) M (zpi M 866 23 (nI v)) ∧ (zpi M 866 23 (nI v)).1 866 23 = pO (some v) := fun v _ => ⟨fr.refl.pi (Or.inr ⟨rfl, rfl⟩), by rw [m_pi, if_pos ⟨rfl, rfl⟩]; rfl⟩
    rw [hd]
    show ∃ M' : ZM, _ ∧ _ ∧ M'.1 866 23 = pO (rngF x o (tot (b (148 + 10 * k)) pre)) ∧ Bd (rngF x o (tot (b (148 + 10 * k)) pre))
    have hB2 : Bd (rngF x o (tot (b (148 + 10 * k)) pre)) := hB.step ht
    rw [Nat.zero_add]
    have run : ∀ r, (if M.1 866 23 = (-2 : Int32) then some (none, (zpi M 866 23 (nI (tot (b (148 + 10 * k)) pre)))) else (if x = nI 0 then (if nI (tot (b (148 + 10 * k)) pre) < M.1 866 23 then some (none, (zpi M 866 23 (nI (tot (b (148 + 10 * k)) pre)))) else some (none, M)) else (if M.1 866 23 < nI (tot (b (148 + 10 * k)) pre) then some (none, (zpi M 866 23 (nI (tot (b (148 + 10 * k)) pre)))) else some (none, M)))) = some r → zEv (d + 3) zmM_goesRange [.ref 866, .int (nI k), .int (nI i), .int x] M = some r := by
      intro r hr
      refine e_M_goesRange ?_
      simp only [s_ofN hR h12, zC1_some, n_eq (show i < 2147483648 by omega) (show cgN b k < 2147483648 by omega), s_of hR h12 (show 0 < 10 by omega), Nat.add_zero, hT]
      rw [if_pos (by omega)]
      exact hr
    cases o with
    | none =>
      refine ⟨zpi M 866 23 (nI (tot (b (148 + 10 * k)) pre)), run _ ?_, (fin _ rfl).1, (fin _ rfl).2, hB2⟩
      rw [if_pos (by rw [h23]; rfl)]
    | some w =>
      have hw := hB w rfl
      have h23' : M.1 866 23 = nI w := h23
      have hn : ¬ M.1 866 23 = (-2 : Int32) := by rw [h23]; exact fun z => by cases e23.mp z
      unfold rngF at fin ⊢
      dsimp only at fin ⊢
      by_cases ex : x = nI 0
      · by_cases ev : tot (b (148 + 10 * k)) pre < w
        · refine ⟨zpi M 866 23 (nI (tot (b (148 + 10 * k)) pre)), run _ ?_, (fr.refl.pi (Or.inr ⟨rfl, rfl⟩)), ?_, ?_⟩
          · rw [if_neg hn, if_pos ex, if_pos (by rw [h23', n_lt (by omega) (by omega)]; exact ev)]
          · rw [if_pos ex, if_pos ev, m_pi, if_pos ⟨rfl, rfl⟩]; rfl
          · unfold rngF at hB2; exact hB2
        · refine ⟨M, run _ ?_, fr.refl, ?_, ?_⟩
          · rw [if_neg hn, if_pos ex, if_neg (by rw [h23', n_lt (by omega) (by omega)]; exact ev)]
          · rw [if_pos ex, if_neg ev, h23]
          · unfold rngF at hB2; exact hB2
      · by_cases ev : w < tot (b (148 + 10 * k)) pre
        · refine ⟨zpi M 866 23 (nI (tot (b (148 + 10 * k)) pre)), run _ ?_, (fr.refl.pi (Or.inr ⟨rfl, rfl⟩)), ?_, ?_⟩
          · rw [if_neg hn, if_neg ex, if_pos (by rw [h23', n_lt (by omega) (by omega)]; exact ev)]
          · rw [if_neg ex, if_pos ev, m_pi, if_pos ⟨rfl, rfl⟩]; rfl
          · unfold rngF at hB2; exact hB2
        · refine ⟨M, run _ ?_, fr.refl, ?_, ?_⟩
          · rw [if_neg hn, if_neg ex, if_neg (by rw [h23', n_lt (by omega) (by omega)]; exact ev)]
          · rw [if_neg ex, if_neg ev, h23]
          · unfold rngF at hB2; exact hB2
  | succ j ih =>
    intro i pre M o hij hpl h7 hR hL h23 hB
    have hi : i < cgN b k := by omega
    have hc36 := cgC_lt hW hk hi
    have hm3 := mk_lt hW hc36
    rw [cgM_drop hi, show (j + 1) + (d + 3) = (j + (d + 3)) + 1 by omega]
    have loop : ∀ (r dg : Nat) (M1 : ZM) (o : Option Nat), 1 ≤ dg → dg + r = b 2 + 1 → MR b M1 → Laid pre M1 → M1.1 866 23 = pO o → Bd o → ∃ M', h_M_goesRange_67 (j + (d + 3)) (nI k) (nI i) x (nI dg) M1 = some (none, M') ∧ frI (pG i) M1 M' ∧ M'.1 866 23 = pO (((List.range' dg r).flatMap fun y => if (b (112 + cgC b k i)).testBit y && !(cgU b k && pre.contains y) then ext (b 2) (cgU b k) ((cgM b k).drop (i + 1)) (pre ++ [y]) else []).foldl (fun o w => rngF x o (tot (b (148 + 10 * k)) w)) o) ∧ Bd (((List.range' dg r).flatMap fun y => if (b (112 + cgC b k i)).testBit y && !(cgU b k && pre.contains y) then ext (b 2) (cgU b k) ((cgM b k).drop (i + 1)) (pre ++ [y]) else []).foldl (fun o w => rngF x o (tot (b (148 + 10 * k)) w)) o) := by
      intro r
      induction r with
      | zero =>
        intro dg M1 o h1 hdr hR1 hL1 h231 hB1
        refine ⟨M1, ?_, fr.refl, h231, hB1⟩
        refine e_M_goesRange_67 ?_
        rw [show j + (d + 3) = (j + (d + 2)) + 1 by omega]
        simp only [s_top hR1, zC1_some, n_lt (show b 2 < 2147483648 by omega) (show dg < 2147483648 by omega)]
        rw [if_pos (by omega)]
      | succ r ihr =>
        intro dg M1 o h1 hdr hR1 hL1 h231 hB1
        have hcell := s_cellOf (d := j + (d + 1)) hR1 h12 (show i < 6 by omega)
        have hof := s_of (d := j + (d + 2)) hR1 h12 (show 2 < 10 by omega)
        rw [show 148 + 10 * k + 2 = 150 + 10 * k by omega] at hof
        have hlaid := s_isLaid (d := j + (d + 2)) hL1 (by omega) h7 (show dg < 2147483648 by omega)
        have htp := s_top (d := j + (d + 2)) hR1
        have hmk := s_marks (d := j + (d + 2)) hR1 hc36
        have hho := s_holds (d := j + (d + 2)) (M := M1) (show b (112 + cgC b k i) < 2147483648 by omega) (show dg < 32 by omega)
        rw [hpl] at hlaid
        rw [show j + (d + 1) + 2 = j + (d + 3) by omega] at hcell
        rw [show j + (d + 2) + 1 = j + (d + 3) by omega] at hof hlaid htp hmk hho
        have hu2 := hg.1.2.2
        rw [List.range'_succ, List.flatMap_cons, List.foldl_append]
        -- not laid
        have skip : ((b (112 + cgC b k i)).testBit dg && !(cgU b k && pre.contains dg)) = false → (∀ r, h_M_goesRange_67 (j + (d + 3)) (nI k) (nI i) x (nI (dg + 1)) M1 = some r → h_M_goesRange_67 (j + (d + 3)) (nI k) (nI i) x (nI dg) M1 = some r) → ∃ M', h_M_goesRange_67 (j + (d + 3)) (nI k) (nI i) x (nI dg) M1 = some (none, M') ∧ frI (pG i) M1 M' ∧ M'.1 866 23 = pO (((List.range' (dg + 1) r).flatMap fun y => if (b (112 + cgC b k i)).testBit y && !(cgU b k && pre.contains y) then ext (b 2) (cgU b k) ((cgM b k).drop (i + 1)) (pre ++ [y]) else []).foldl (fun o w => rngF x o (tot (b (148 + 10 * k)) w)) ((if (b (112 + cgC b k i)).testBit dg && !(cgU b k && pre.contains dg) then ext (b 2) (cgU b k) ((cgM b k).drop (i + 1)) (pre ++ [dg]) else []).foldl (fun o w => rngF x o (tot (b (148 + 10 * k)) w)) o)) ∧ Bd (((List.range' (dg + 1) r).flatMap fun y => if (b (112 + cgC b k i)).testBit y && !(cgU b k && pre.contains y) then ext (b 2) (cgU b k) ((cgM b k).drop (i + 1)) (pre ++ [y]) else []).foldl (fun o w => rngF x o (tot (b (148 + 10 * k)) w)) ((if (b (112 + cgC b k i)).testBit dg && !(cgU b k && pre.contains dg) then ext (b 2) (cgU b k) ((cgM b k).drop (i + 1)) (pre ++ [dg]) else []).foldl (fun o w => rngF x o (tot (b (148 + 10 * k)) w)) o)) := by
          intro q1 q2
          rw [q1]
          obtain ⟨M', a1, a2⟩ := ihr (dg + 1) M1 o (by omega) (by omega) hR1 hL1 h231 hB1
          exact ⟨M', q2 _ a1, a2⟩
        -- laid
        have go : ((b (112 + cgC b k i)).testBit dg && !(cgU b k && pre.contains dg)) = true → (∀ r, zC0 (zEv (j + (d + 3)) zmM_goesRange [.ref 866, .int (nI k), .int (nI (i + 1)), .int x] (zpi M1 872 i (nI dg))) (fun M2 => h_M_goesRange_67 (j + (d + 3)) (nI k) (nI i) x (nI (dg + 1)) M2) = some r → h_M_goesRange_67 (j + (d + 3)) (nI k) (nI i) x (nI dg) M1 = some r) → ∃ M', h_M_goesRange_67 (j + (d + 3)) (nI k) (nI i) x (nI dg) M1 = some (none, M') ∧ frI (pG i) M1 M' ∧ M'.1 866 23 = pO (((List.range' (dg + 1) r).flatMap fun y => if (b (112 + cgC b k i)).testBit y && !(cgU b k && pre.contains y) then ext (b 2) (cgU b k) ((cgM b k).drop (i + 1)) (pre ++ [y]) else []).foldl (fun o w => rngF x o (tot (b (148 + 10 * k)) w)) ((if (b (112 + cgC b k i)).testBit dg && !(cgU b k && pre.contains dg) then ext (b 2) (cgU b k) ((cgM b k).drop (i + 1)) (pre ++ [dg]) else []).foldl (fun o w => rngF x o (tot (b (148 + 10 * k)) w)) o)) ∧ Bd (((List.range' (dg + 1) r).flatMap fun y => if (b (112 + cgC b k i)).testBit y && !(cgU b k && pre.contains y) then ext (b 2) (cgU b k) ((cgM b k).drop (i + 1)) (pre ++ [y]) else []).foldl (fun o w => rngF x o (tot (b (148 + 10 * k)) w)) ((if (b (112 + cgC b k i)).testBit dg && !(cgU b k && pre.contains dg) then ext (b 2) (cgU b k) ((cgM b k).drop (i + 1)) (pre ++ [dg]) else []).foldl (fun o w => rngF x o (tot (b (148 + 10 * k)) w)) o)) := by
          intro q1 q2
          rw [q1, if_pos rfl]
          have hR2 : MR b (zpi M1 872 i (nI dg)) := hR1.fr (fr.refl.pi (p := pL i) (q := fun _ _ => False) ⟨rfl, Nat.le_refl i⟩) fun k _ z => by have := z.1; omega
          have hL2 : Laid (pre ++ [dg]) (zpi M1 872 i (nI dg)) := by rw [← hpl]; exact hL1.push
          have f2 : frI (pG i) M1 (zpi M1 872 i (nI dg)) := fr.refl.pi (Or.inl ⟨rfl, Nat.le_refl i⟩)
          have h72 : ∀ x ∈ pre ++ [dg], x ≤ 7 := by
            intro x hx
            rcases List.mem_append.mp hx with e | e
            · exact h7 x e
            · rw [List.mem_singleton.mp e]; omega
          obtain ⟨M2, w1, w2, w3, w4⟩ := ih (i + 1) (pre ++ [dg]) _ o (by omega) (by simp [hpl]) h72 hR2 hL2 (by rw [m_pi, if_neg (by omega)]; exact h231) hB1
          have w5 : frI (pG i) M1 M2 := f2.trans (w2.mono (fun a k z => by unfold pG at z ⊢; omega) (fun _ _ z => z))
          have hL3 : Laid pre M2 := fun y hy => (w5.1 872 y (fun z => by unfold pG at z; omega)).trans (hL1 y hy)
          have hR3 : MR b M2 := hR1.fr w5 fun k _ z => by unfold pG at z; omega
          obtain ⟨M', a1, a2, a3⟩ := ihr (dg + 1) M2 _ (by omega) (by omega) hR3 hL3 w3 w4
          refine ⟨M', q2 _ ?_, w5.trans a2, a3⟩
          rw [w1]
          exact a1
        cases hbit : (b (112 + cgC b k i)).testBit dg with
        | false =>
          rw [hbit] at skip
          refine skip (by rw [Bool.false_and]) fun r hr => ?_
          refine e_M_goesRange_67 ?_
          simp only [htp, zC1_some, n_lt (show b 2 < 2147483648 by omega) (show dg < 2147483648 by omega), hcell, hmk, hho, hbit, nB0, if_true, n_add1]
          rw [if_neg (by omega)]
          exact hr
        | true =>
          rw [hbit] at skip go
          cases hu : cgU b k with
          | true =>
            have hu' : b (150 + 10 * k) = 1 := of_decide_eq_true hu
            rw [hu] at skip go
            cases hcon : pre.contains dg with
            | true =>
              rw [hcon] at skip
              refine skip rfl fun r hr => ?_
              refine e_M_goesRange_67 ?_
              simp only [htp, zC1_some, n_lt (show b 2 < 2147483648 by omega) (show dg < 2147483648 by omega), hcell, hmk, hho, hbit, nB0, hof, hu', if_true, hlaid, hcon, n_add1]
              rw [if_neg (by omega)]
              rw [if_neg (show ¬ (true = false) by simp), if_neg (show ¬ (true = false) by simp)]
              exact hr
            | false =>
              rw [hcon] at go
              refine go rfl fun r hr => ?_
              refine e_M_goesRange_67 ?_
              simp only [htp, zC1_some, n_lt (show b 2 < 2147483648 by omega) (show dg < 2147483648 by omega), hcell, hmk, hho, hbit, nB0, hof, hu', if_true, hlaid, hcon, n_add1, n_zin (show i < 2147483648 by omega), n_clamp (show i < 2147483648 by omega)]
              rw [if_neg (by omega)]
              rw [if_neg (show ¬ (true = false) by simp), if_pos (by omega)]
              exact hr
          | false =>
            have hu' : ¬ b (150 + 10 * k) = 1 := of_decide_eq_false hu
            rw [hu] at go
            refine go rfl fun r hr => ?_
            refine e_M_goesRange_67 ?_
            simp only [htp, zC1_some, n_lt (show b 2 < 2147483648 by omega) (show dg < 2147483648 by omega), hcell, hmk, hho, hbit, nB0, hof, n_eq (show b (150 + 10 * k) < 2147483648 by omega) (show 1 < 2147483648 by omega), hu', if_false, n_add1, n_zin (show i < 2147483648 by omega), n_clamp (show i < 2147483648 by omega)]
            rw [if_neg (by omega)]
            rw [if_neg (show ¬ (true = false) by simp), if_pos (by omega)]
            exact hr
    obtain ⟨M', a1, a2, a3⟩ := loop (b 2) 1 M o (Nat.le_refl 1) (by omega) hR hL h23 hB
    refine ⟨M', ?_, a2, a3⟩
    refine e_M_goesRange ?_
    have hofN := s_ofN (d := j + (d + 2)) hR h12
    rw [show j + (d + 2) + 1 = j + (d + 3) by omega] at hofN
    simp only [hofN, zC1_some, n_eq (show i < 2147483648 by omega) (show cgN b k < 2147483648 by omega), a1]
    rw [if_neg (by omega)]
theorem s_range (hR : MR b M) (hW : Wf b) (y x : Int32) : ∃ M', zEv (d + 10) zmM_range [.ref 866, .int y, .int x] M = some (some (.int (spRange b y x)), M') ∧ frI pS M M' := by
  unfold spRange
  cases hy : iI y (b 3) with
  | false =>
    refine ⟨M, ?_, fr.refl⟩
    refine e_M_range ?_
    simp only [s_isCage hR hW, zC1_some, nB0, hy, if_true]
    rfl
  | true =>
    have h12 := hW.1.2.2.2
    obtain ⟨k, hk, rfl⟩ := iI_ex (by omega) hy
    have h6 := cgN_le hW hk
    have f1 : frI (pG 0) M (zpi M 866 23 (-2)) := fr.refl.pi (Or.inr ⟨rfl, rfl⟩)
    have r1 : MR b (zpi M 866 23 (-2)) := hR.fr f1 fun k _ z => by unfold pG at z; omega
    obtain ⟨M', a1, a2, a3, a4⟩ := s_goesRange (d := 6 - cgN b k + d) hW hk x (cgN b k) 0 [] _ none (by omega) rfl (fun _ z => by cases z) r1 (fun _ z => by cases z) (by rw [m_pi, if_pos ⟨rfl, rfl⟩]; rfl) (fun _ z => by cases z)
    rw [show cgN b k + (6 - cgN b k + d + 3) = d + 9 by omega] at a1
    refine ⟨M', ?_, (f1.trans a2).mono (fun a k z => by unfold pG at z; unfold pS; omega) (fun _ _ z => z)⟩
    refine e_M_range ?_
    simp only [s_isCage hR hW, zC1_some, nB0, hy, a1, zC0_some, n_toInt (show k < 2147483648 by omega), Int.toNat_natCast]
    rw [if_neg (show ¬ (true = false) by simp), a3]
    rfl
end MG
