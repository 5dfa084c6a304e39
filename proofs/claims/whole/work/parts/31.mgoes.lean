/-! THE MODEL, 20: a step is gone -/
theorem lst_bit {m : Nat} (h : ∃ z, 1 ≤ z ∧ z < 8 ∧ m.testBit z = true) : 1 ≤ lst m ∧ lst m < 8 ∧ m.testBit (lst m) = true := by
  obtain ⟨z, h1, h2, h3⟩ := h
  unfold lst
  cases e : (List.range' 1 7).find? fun i => m.testBit i with
  | none =>
    have := List.find?_eq_none.mp e z (List.mem_range'_1.mpr ⟨h1, by omega⟩)
    exact absurd h3 this
  | some i =>
    have g1 := List.mem_range'_1.mp (List.mem_of_find?_eq_some e)
    have g2 := List.find?_some e
    exact ⟨g1.1, by show i < 8; omega, g2⟩
/-- a digit is put -/
def putR (b : Nat → Nat) (c x : Nat) : Nat → Nat := fun k => if k = 112 + c then 2 ^ x else if k = 40 + c then x else b k
theorem putR_ne {b : Nat → Nat} {c x k : Nat} (h1 : k ≠ 112 + c) (h2 : k ≠ 40 + c) : putR b c x k = b k := by
  unfold putR
  rw [if_neg h1, if_neg h2]
theorem putR_isO {b : Nat → Nat} {c x : Nat} (hN : b 0 * b 1 ≤ 36) (hc : c < 36) : isO (putR b c x) = isO b := funext fun y => by
  unfold isO
  rw [putR_ne (k := 0) (by omega) (by omega), putR_ne (k := 1) (by omega) (by omega)]
  by_cases h : y < b 0 * b 1
  · rw [putR_ne (k := 4 + y) (by omega) (by omega)]
  · rw [decide_eq_false h, Bool.false_and, Bool.false_and]
theorem putR_w {b : Nat → Nat} (h : Wf b) (hD : WfD b) {c x : Nat} (hO : isO b c = true) (hx : 1 ≤ x) (hx2 : x ≤ b 2) : Wf (putR b c x) ∧ WfD (putR b c x) := by
  have hc := isO_lt h hO
  have eO := putR_isO (c := c) (x := x) h.n36 hc
  have e112 : putR b c x (112 + c) = 2 ^ x := if_pos rfl
  have e40 : putR b c x (40 + c) = x := by
    unfold putR
    rw [if_neg (by omega), if_pos rfl]
  refine ⟨?_, fun y hy => ?_⟩
  · unfold Wf
    rw [putR_ne (k := 0) (by omega) (by omega), putR_ne (k := 1) (by omega) (by omega), putR_ne (k := 2) (by omega) (by omega), putR_ne (k := 3) (by omega) (by omega)]
    refine ⟨h.1, h.2.1, h.2.2.1, fun y hy => ?_, ?_, fun k hk => ?_⟩
    · have g := h.2.2.2.1 y hy
      unfold WfC at g ⊢
      rw [eO, putR_ne (k := 4 + y) (by omega) (by omega), putR_ne (k := 76 + y) (by omega) (by omega), putR_ne (k := 2) (by omega) (by omega)]
      by_cases e : y = c
      · subst e
        rw [e112, e40]
        refine ⟨g.1, ⟨hx2, (Nat.pow_lt_pow_iff_right (by omega)).mpr (by omega), ?_⟩, fun z => by rw [hO] at z; cases z⟩
        rw [Nat.testBit_two_pow]
        exact decide_eq_false (by omega)
      · rw [putR_ne (k := 112 + y) (by omega) (by omega), putR_ne (k := 40 + y) (by omega) (by omega)]
        exact g
    · unfold openN
      rw [eO]
      exact h.2.2.2.2.1
    · have g := h.2.2.2.2.2 k hk
      have eN : cgN (putR b c x) k = cgN b k := putR_ne (by omega) (by omega)
      have eC : cgC (putR b c x) k = cgC b k := funext fun i => putR_ne (by omega) (by omega)
      unfold WfG at g ⊢
      rw [eO, eN, eC, putR_ne (k := 148 + 10 * k) (by omega) (by omega), putR_ne (k := 149 + 10 * k) (by omega) (by omega), putR_ne (k := 150 + 10 * k) (by omega) (by omega)]
      exact g
  · rw [putR_ne (k := 76 + y) (by omega) (by omega)]
    by_cases e : y = c
    · subst e
      rw [e112, e40]
      exact ⟨fun _ => by omega, fun _ => rfl⟩
    · rw [putR_ne (k := 112 + y) (by omega) (by omega), putR_ne (k := 40 + y) (by omega) (by omega)]
      exact hD y hy
/-- a mark is struck -/
def strR (b : Nat → Nat) (c x : Nat) : Nat → Nat := setK b c (b (112 + c) ^^^ (b (112 + c) &&& 2 ^ x))
theorem clr_bit {m x z : Nat} : (m ^^^ (m &&& 2 ^ x)).testBit z = (m.testBit z && !decide (x = z)) := by
  rw [Nat.testBit_xor, Nat.testBit_and, Nat.testBit_two_pow]
  cases m.testBit z <;> cases decide (x = z) <;> rfl
theorem clr_le (m x : Nat) : m ^^^ (m &&& 2 ^ x) ≤ m := by
  refine Nat.le_of_testBit ?_
  intro i h
  rw [clr_bit, Bool.and_eq_true] at h
  exact h.1
