/-! THE MODEL, 6: what is asked of cells and cages -/
/-- all that is no state -/
def pS : Nat → Nat → Prop := fun a k => (a = 866 ∧ k ≠ 2 ∧ k ≠ 35) ∨ (871 ≤ a ∧ a ≤ 881) ∨ a = 883
theorem frL_S {i : Nat} {M M' : ZM} (h : frI (pL i) M M') : frI pS M M' := h.mono (fun a k z => by unfold pL at z; unfold pS; omega) (fun _ _ z => z)
theorem frW_S {i : Nat} {M M' : ZM} (h : frI (pW i) M M') : frI pS M M' := h.mono (fun a k z => by unfold pW at z; unfold pS; omega) (fun _ _ z => z)
theorem MR.frS {b : Nat → Nat} {M M' : ZM} (h : MR b M) (hf : frI pS M M') : MR b M' := h.fr hf fun k _ z => by unfold pS at z; omega
def doneN (b : Nat → Nat) (k : Nat) : Nat := (List.range (cgN b k)).countP fun i => decide (0 < b (40 + cgC b k i))
/-- what is asked -/
def spCell (b : Nat → Nat) (x y : Int32) : Int32 :=
  bif !iI x (b 0 * b 1) then -1 else
  if y = nI 0 then nI (1 - b (4 + x.toInt.toNat)) else if y = nI 1 then nI (b (40 + x.toInt.toNat)) else if y = nI 2 then nI (b (76 + x.toInt.toNat)) else if y = nI 3 then nI (b (112 + x.toInt.toNat)) else if y = nI 4 then nI (cagesM b x.toInt.toNat) else -1
def spCage (b : Nat → Nat) (x y : Int32) : Int32 :=
  bif !iI x (b 3) then -1 else
  if y = nI 0 then nI (b (148 + 10 * x.toInt.toNat)) else if y = nI 1 then nI (b (149 + 10 * x.toInt.toNat)) else if y = nI 2 then nI (cgN b x.toInt.toNat) else if y = nI 3 then nI (b (150 + 10 * x.toInt.toNat)) else if y = nI 4 then nI (doneN b x.toInt.toNat) else if y = nI 5 then nI (ways b x.toInt.toNat).length else
  if 10 ≤ y.toInt ∧ y.toInt < 10 + cgN b x.toInt.toNat then nI (cgC b x.toInt.toNat (y.toInt.toNat - 10)) else -1
def spHas (b : Nat → Nat) (x y : Int32) : Int32 := bif iI x (b 3) && iD y (b 2) then nI (hasD (ways b x.toInt.toNat) y.toInt.toNat) else -1
/-- a cell's place in a cage, of any number -/
def plI (b : Nat → Nat) (k : Nat) (y : Int32) : Option Nat := if 0 ≤ y.toInt then plc b k y.toInt.toNat else none
def spCould (b : Nat → Nat) (x y : Int32) : Int32 := bif iI x (b 3) then (match plI b x.toInt.toNat y with | some i => nI (couldD (ways b x.toInt.toNat) i) | none => -1) else -1
def spMust (b : Nat → Nat) (x : Int32) : Int32 := bif iI x (b 3) then nI (mustD b (ways b x.toInt.toNat)) else -1
/-- sets of digits that ways have, rising -/
def setsL (Wl : List (List Nat)) : List Nat := (List.range 256).filter fun s => Wl.any fun w => setOf w == s
def spSets (b : Nat → Nat) (x y : Int32) : Int32 :=
  bif !iI x (b 3) then -1 else if y.toInt < -1 then -1 else if y = -1 then nI (setsL (ways b x.toInt.toNat)).length else
  match (setsL (ways b x.toInt.toNat))[y.toInt.toNat]? with
  | some s => nI s
  | none => -2
def spShared (b : Nat → Nat) (x y : Int32) : Int64 :=
  bif iI x (b 3) && iI y (b 3) then (if x = y then -1 else nJ (msk 36 fun c => inC b x.toInt.toNat c && inC b y.toInt.toNat c)) else -1
theorem n_ex (y : Int32) : (∃ c, c < 2147483648 ∧ y = nI c) ∨ y.toInt < 0 := by
  rcases Int.lt_or_le y.toInt 0 with h | h
  · exact Or.inr h
  · have := Int32.toInt_lt y
    refine Or.inl ⟨y.toInt.toNat, by omega, ?_⟩
    rw [← Int32.toInt_inj, n_toInt (by omega)]
    omega
section MQ
variable {d : Nat} {M : ZM} {b : Nat → Nat}
theorem inC_iff (hW : Wf b) {k c : Nat} : inC b k c = true ↔ ∃ i, i < cgN b k ∧ cgC b k i = c := by
  unfold inC plc
  rw [List.find?_isSome]
  constructor
  · rintro ⟨i, h1, h2⟩
    exact ⟨i, List.mem_range.mp h1, beq_iff_eq.mp h2⟩
  · rintro ⟨i, h1, h2⟩
    exact ⟨i, List.mem_range.mpr h1, beq_iff_eq.mpr h2⟩
theorem s_placeInI (hR : MR b M) (hW : Wf b) {k : Nat} (hk : k < b 3) (y : Int32) : zEv (d + 3) zmM_placeIn [.ref 866, .int (nI k), .int y] M = some (some (.int (pI (plI b k y))), M) := by
  unfold plI
  rcases n_ex y with ⟨c, hc, rfl⟩ | h
  · rw [s_placeIn hR hW hk hc, n_toInt hc, if_pos (by omega)]
    rfl
  · rw [s_placeIn_neg hR hW hk h, if_neg (by omega)]
    rfl
theorem plI_lt {k i : Nat} {y : Int32} (h : plI b k y = some i) : i < cgN b k := by
  unfold plI at h
  split at h
  · exact (plc_lt h).1
  · cases h
theorem s_doneIn_l (hR : MR b M) (hW : Wf b) {k : Nat} (hk : k < b 3) : ∀ j i, i + j = cgN b k → h_M_doneIn_4 (d + 2) (nI k) (nI ((List.range i).countP fun i => decide (0 < b (40 + cgC b k i)))) (nI i) M = some (some (.int (nI (doneN b k))), M) := by
  have h12 := cg_12 hW hk
  have h6 := cgN_le hW hk
  intro j
  induction j with
  | zero =>
    intro i h
    refine e_M_doneIn_4 ?_
    simp only [s_ofN hR h12, zC1_some, n_lt (show i < 2147483648 by omega) (show cgN b k < 2147483648 by omega)]
    rw [if_neg (by omega)]
    obtain rfl : i = cgN b k := by omega
    rfl
  | succ j ih =>
    intro i h
    refine e_M_doneIn_4 ?_
    have ih' := ih (i + 1) (by omega)
    rw [List.range_succ, List.countP_append] at ih'
    simp only [s_ofN hR h12, zC1_some, n_lt (show i < 2147483648 by omega) (show cgN b k < 2147483648 by omega), s_cellOf hR h12 (show i < 6 by omega), s_isDone hR hW (cgC_lt hW hk (show i < cgN b k by omega)), nB0, n_add]
    rw [if_pos (by omega)]
    cases hq : decide (0 < b (40 + cgC b k i)) with
    | false => simpa [List.countP_cons, hq] using ih'
    | true => simpa [List.countP_cons, hq] using ih'
theorem s_doneIn (hR : MR b M) (hW : Wf b) {k : Nat} (hk : k < b 3) : zEv (d + 3) zmM_doneIn [.ref 866, .int (nI k)] M = some (some (.int (nI (doneN b k))), M) := by
  refine e_M_doneIn ?_
  exact s_doneIn_l hR hW hk (cgN b k) 0 (by omega)
theorem s_cell (hR : MR b M) (hW : Wf b) (x y : Int32) : zEv (d + 5) zmM_cell [.ref 866, .int x, .int y] M = some (some (.int (spCell b x y)), M) := by
  refine e_M_cell ?_
  unfold spCell
  cases hi : iI x (b 0 * b 1) with
  | false =>
    simp only [s_isCell hR hW, zC1_some, nB0, hi, if_true]
    rfl
  | true =>
    have h36 := hW.n36
    obtain ⟨c, hc, rfl⟩ := iI_ex (by omega) hi
    have hb := (hW.2.2.2.1 c (by omega)).1.1
    simp only [s_isCell hR hW, zC1_some, nB0, hi, n_add, n_zin (show 4 + c < 2147483648 by omega), n_clamp (show 4 + c < 2147483648 by omega), hR (4 + c) (by omega), n_sub hb, n_zin (show 40 + c < 2147483648 by omega), n_clamp (show 40 + c < 2147483648 by omega), hR (40 + c) (by omega), n_zin (show 76 + c < 2147483648 by omega), n_clamp (show 76 + c < 2147483648 by omega), hR (76 + c) (by omega), s_marks hR (show c < 36 by omega), s_cagesOf hR hW (show c < 2147483648 by omega), n_toInt (show c < 2147483648 by omega), Int.toNat_natCast, Bool.not_true, cond_false]
    rw [if_neg (by simp)]
    simp only [if_pos (show 4 + c < 268 by omega), if_pos (show 40 + c < 268 by omega), if_pos (show 76 + c < 268 by omega)]
    repeat' split
    all_goals rfl
theorem s_cage (hR : MR b M) (hW : Wf b) (x y : Int32) : ∃ M', zEv (d + 15) zmM_cage [.ref 866, .int x, .int y] M = some (some (.int (spCage b x y)), M') ∧ frI pS M M' := by
  unfold spCage
  cases hi : iI x (b 3) with
  | false =>
    refine ⟨M, ?_, fr.refl⟩
    refine e_M_cage ?_
    simp only [s_isCage hR hW, zC1_some, nB0, hi, if_true]
    rfl
  | true =>
    have h12 := hW.1.2.2.2
    obtain ⟨k, hk, rfl⟩ := iI_ex (by omega) hi
    have hk12 := cg_12 hW hk
    have h6 := cgN_le hW hk
    obtain ⟨Mw, hw1, hw2, hw3⟩ := s_laysWays (d := d + 2) hR hW hk
    by_cases h5 : y = nI 5
    · subst h5
      refine ⟨Mw, ?_, frW_S hw3⟩
      refine e_M_cage ?_
      have hwo : zEv (d + 14) zmM_waysOf [.ref 866, .int (nI k)] M = some (some (.int (Mw.1 866 7)), Mw) := by
        refine e_M_waysOf ?_
        rw [hw1]; rfl
      simp only [s_isCage hR hW, zC1_some, nB0, hi, hwo, hw2.1, n_toInt (show k < 2147483648 by omega), Int.toNat_natCast, Bool.not_true, cond_false]
      rw [if_neg (by simp)]
      simp only [n_eq (show 5 < 2147483648 by omega) (show 0 < 2147483648 by omega), n_eq (show 5 < 2147483648 by omega) (show 1 < 2147483648 by omega), n_eq (show 5 < 2147483648 by omega) (show 2 < 2147483648 by omega), n_eq (show 5 < 2147483648 by omega) (show 3 < 2147483648 by omega), n_eq (show 5 < 2147483648 by omega) (show 4 < 2147483648 by omega)]
      simp
    · refine ⟨M, ?_, fr.refl⟩
      refine e_M_cage ?_
      have hin : Int32.toInt (nI 9 + nI (cgN b k)) = 9 + (cgN b k : Int) := by rw [n_add, n_toInt (by omega)]; omega
      simp only [s_isCage hR hW, zC1_some, nB0, hi, s_of hR hk12 (show 0 < 10 by omega), s_of hR hk12 (show 1 < 10 by omega), s_ofN hR hk12, s_of hR hk12 (show 2 < 10 by omega), s_doneIn hR hW hk, s_in, Int32.toInt_toInt64, hin, j_toInt (show 10 < 9223372036854775808 by omega), n_toInt (show k < 2147483648 by omega), Int.toNat_natCast, Bool.not_true, cond_false, if_neg h5, Nat.add_zero, show 148 + 10 * k + 1 = 149 + 10 * k by omega, show 148 + 10 * k + 2 = 150 + 10 * k by omega]
      rw [if_neg (by simp)]
      by_cases hy : 10 ≤ y.toInt ∧ y.toInt < 10 + (cgN b k : Int)
      · obtain ⟨c, hc, rfl⟩ : ∃ c : Nat, c < 2147483648 ∧ y = nI c := by
          rcases n_ex y with h | h
          · exact h
          · omega
        rw [n_toInt hc] at hy ⊢
        have hsub : nI c - nI 10 = nI (c - 10) := n_sub (by omega)
        simp only [hsub, s_cellOf hR hk12 (show c - 10 < 6 by omega), zC1_some, Int.toNat_natCast, if_pos hy, n_eq hc (show 0 < 2147483648 by omega), n_eq hc (show 1 < 2147483648 by omega), n_eq hc (show 2 < 2147483648 by omega), n_eq hc (show 3 < 2147483648 by omega), n_eq hc (show 4 < 2147483648 by omega)]
        have ht : (decide (((10 : Nat) : Int) ≤ (c : Int)) && decide ((c : Int) ≤ 9 + (cgN b k : Int))) = true := by
          rw [Bool.and_eq_true, decide_eq_true_eq, decide_eq_true_eq]
          omega
        simp only [if_neg (show ¬ c = 0 by omega), if_neg (show ¬ c = 1 by omega), if_neg (show ¬ c = 2 by omega), if_neg (show ¬ c = 3 by omega), if_neg (show ¬ c = 4 by omega), ht]
        simp
      · have hf : (decide (((10 : Nat) : Int) ≤ y.toInt) && decide (y.toInt ≤ 9 + (cgN b k : Int))) = false := by
          rw [Bool.and_eq_false_iff, decide_eq_false_iff_not, decide_eq_false_iff_not]
          omega
        simp only [hf, if_true, if_neg hy]
        repeat' split
        all_goals rfl
end MQ
