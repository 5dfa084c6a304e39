/-! THE MODEL, 30: an act's row is well made -/
theorem cell_w {b b' : Nat → Nat} (h : Wf b) (hD : WfD b) {c : Nat} (hO : isO b c = true) (hne : ∀ k, k ≠ 40 + c → k ≠ 76 + c → k ≠ 112 + c → b' k = b k) (h40 : b' (40 + c) ≤ b 2) (h76 : b' (76 + c) ≤ 1) (hm : b' (112 + c) < 2 ^ (b 2 + 1)) (hm0 : (b' (112 + c)).testBit 0 = false) (hg : b' (76 + c) = 1 → 0 < b' (40 + c)) (hd : 0 < b' (40 + c) → b' (112 + c) = 2 ^ b' (40 + c)) : Wf b' ∧ WfD b' := by
  have hc := isO_lt h hO
  have h36 := h.n36
  have eO : isO b' = isO b := funext fun y => by
    unfold isO
    rw [hne 0 (by omega) (by omega) (by omega), hne 1 (by omega) (by omega) (by omega)]
    by_cases e : y < b 0 * b 1
    · rw [hne (4 + y) (by omega) (by omega) (by omega)]
    · rw [decide_eq_false e, Bool.false_and, Bool.false_and]
  refine ⟨?_, fun y hy => ?_⟩
  · unfold Wf
    rw [hne 0 (by omega) (by omega) (by omega), hne 1 (by omega) (by omega) (by omega), hne 2 (by omega) (by omega) (by omega), hne 3 (by omega) (by omega) (by omega)]
    refine ⟨h.1, h.2.1, h.2.2.1, fun y hy => ?_, ?_, fun k hk => ?_⟩
    · have g := h.2.2.2.1 y hy
      unfold WfC at g ⊢
      rw [eO, hne (4 + y) (by omega) (by omega) (by omega), hne 2 (by omega) (by omega) (by omega)]
      by_cases e : y = c
      · subst e
        exact ⟨⟨g.1.1, h76⟩, ⟨h40, hm, hm0⟩, fun z => by rw [hO] at z; cases z⟩
      · rw [hne (112 + y) (by omega) (by omega) (by omega), hne (40 + y) (by omega) (by omega) (by omega), hne (76 + y) (by omega) (by omega) (by omega)]
        exact g
    · unfold openN
      rw [eO]
      exact h.2.2.2.2.1
    · have g := h.2.2.2.2.2 k hk
      have eN : cgN b' k = cgN b k := hne _ (by omega) (by omega) (by omega)
      have eC : cgC b' k = cgC b k := funext fun i => hne _ (by omega) (by omega) (by omega)
      unfold WfG at g ⊢
      rw [eO, eN, eC, hne (148 + 10 * k) (by omega) (by omega) (by omega), hne (149 + 10 * k) (by omega) (by omega) (by omega), hne (150 + 10 * k) (by omega) (by omega) (by omega)]
      exact g
  · by_cases e : y = c
    · subst e
      exact ⟨hg, hd⟩
    · rw [hne (112 + y) (by omega) (by omega) (by omega), hne (40 + y) (by omega) (by omega) (by omega), hne (76 + y) (by omega) (by omega) (by omega)]
      exact hD y hy
theorem givR_w {b : Nat → Nat} (h : Wf b) (hD : WfD b) {c x : Nat} (hO : isO b c = true) (hx : 1 ≤ x) (hx2 : x ≤ b 2) : Wf (givR b c x) ∧ WfD (givR b c x) := by
  have e112 : givR b c x (112 + c) = 2 ^ x := by unfold givR; rw [if_neg (by omega)]; exact if_pos rfl
  have e40 : givR b c x (40 + c) = x := by unfold givR putR; rw [if_neg (by omega), if_neg (by omega), if_pos rfl]
  have e76 : givR b c x (76 + c) = 1 := if_pos rfl
  refine cell_w h hD hO (fun k h1 h2 h3 => ?_) (by rw [e40]; exact hx2) (by rw [e76]; exact Nat.le_refl 1) (by rw [e112]; exact (Nat.pow_lt_pow_iff_right (by omega)).mpr (by omega)) ?_ (fun _ => by rw [e40]; omega) (fun _ => by rw [e112, e40])
  · unfold givR
    rw [if_neg h2]
    exact putR_ne h3 h1
  · rw [e112, Nat.testBit_two_pow]
    exact decide_eq_false (by omega)
theorem lftR_w {b : Nat → Nat} (h : Wf b) (hD : WfD b) {c : Nat} (hO : isO b c = true) (hG : b (76 + c) ≠ 1) : Wf (lftR b c) ∧ WfD (lftR b c) := by
  have hc := isO_lt h hO
  have hg1 := (h.2.2.2.1 c hc).1.2
  have e112 : lftR b c (112 + c) = allM b := if_pos rfl
  have e40 : lftR b c (40 + c) = 0 := by unfold lftR; rw [if_neg (by omega), if_pos rfl]
  have e76 : lftR b c (76 + c) = b (76 + c) := by unfold lftR; rw [if_neg (by omega), if_neg (by omega)]
  refine cell_w h hD hO (fun k h1 h2 h3 => ?_) (by rw [e40]; omega) (by rw [e76]; exact hg1) ?_ ?_ (fun z => by rw [e76] at z; exact absurd z hG) (fun z => by rw [e40] at z; omega)
  · unfold lftR
    rw [if_neg h3, if_neg h1]
  · rw [e112]
    have := Nat.one_le_two_pow (n := b 2 + 1)
    unfold allM
    omega
  · have h3 : 2 ^ (b 2 + 1) = 2 * 2 ^ b 2 := by rw [Nat.pow_succ, Nat.mul_comm]
    rw [e112, Nat.testBit_zero]
    unfold allM
    exact decide_eq_false (by omega)
theorem totR_w {b : Nat → Nat} (h : Wf b) (hD : WfD b) {k n : Nat} (hk : k < b 3) (hn : n ≤ 999999) : Wf (totR b k n) ∧ WfD (totR b k n) := by
  have ne : ∀ i, i ≠ 149 + 10 * k → totR b k n i = b i := fun i hi => if_neg hi
  have hk12 := cg_12 h hk
  have h36 := h.n36
  have eO : isO (totR b k n) = isO b := funext fun y => by
    unfold isO
    rw [ne 0 (by omega), ne 1 (by omega)]
    by_cases e : y < b 0 * b 1
    · rw [ne (4 + y) (by omega)]
    · rw [decide_eq_false e, Bool.false_and, Bool.false_and]
  refine ⟨?_, fun y hy => by rw [ne _ (by omega), ne _ (by omega), ne _ (by omega)]; exact hD y hy⟩
  unfold Wf
  rw [ne 0 (by omega), ne 1 (by omega), ne 2 (by omega), ne 3 (by omega)]
  refine ⟨h.1, h.2.1, h.2.2.1, fun y hy => ?_, ?_, fun q hq => ?_⟩
  · have g := h.2.2.2.1 y hy
    unfold WfC at g ⊢
    rw [eO, ne (4 + y) (by omega), ne 2 (by omega), ne (112 + y) (by omega), ne (40 + y) (by omega), ne (76 + y) (by omega)]
    exact g
  · unfold openN
    rw [eO]
    exact h.2.2.2.2.1
  · have g := h.2.2.2.2.2 q hq
    have h6 := cgN_le h hq
    have eN : cgN (totR b k n) q = cgN b q := ne _ (by omega)
    have eC : ∀ i, i < 6 → cgC (totR b k n) q i = cgC b q i := fun i hi => ne _ (by omega)
    unfold WfG at g ⊢
    rw [eO, eN, ne (148 + 10 * q) (by omega), ne (150 + 10 * q) (by omega)]
    refine ⟨⟨g.1.1, ?_, g.1.2.2⟩, g.2.1, fun i hi => by rw [eC i (by omega)]; exact g.2.2.1 i hi, fun i j hij hj => by rw [eC i (by omega), eC j (by omega)]; exact g.2.2.2 i j hij hj⟩
    by_cases e : q = k
    · rw [e]
      show (if 149 + 10 * k = 149 + 10 * k then n else _) ≤ _
      rw [if_pos rfl]
      exact hn
    · rw [ne (149 + 10 * q) (by omega)]
      exact g.1.2.1
