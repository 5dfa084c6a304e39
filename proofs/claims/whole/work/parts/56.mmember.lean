/-! THE MODEL, 45: cells come into a cage -/
def cOf (S : Nat → Bool) : List Nat := (List.range 36).filter S
def upB (S : Nat → Bool) (c : Nat) : Nat → Bool := fun x => S x || decide (x = c)
def memR (r : Nat → Nat) (w : Nat) (L : List Nat) : Nat → Nat := fun k => if k = w + 3 then L.length else if w + 4 ≤ k ∧ k < w + 4 + L.length then L.getD (k - (w + 4)) 0 else r k
def shR (r : Nat → Nat) (w : Nat) (L : List Nat) (p : Nat) : Nat → Nat := fun k => if w + 4 + p < k ∧ k ≤ w + 4 + L.length then L.getD (k - (w + 4) - 1) 0 else memR r w L k
theorem cOf_mem {S : Nat → Bool} {c : Nat} : c ∈ cOf S ↔ c < 36 ∧ S c = true := by
  unfold cOf
  rw [List.mem_filter, List.mem_range]
theorem range_split {c : Nat} (hc : c < 36) : List.range 36 = List.range c ++ c :: List.range' (c + 1) (35 - c) := by
  rw [List.range_eq_range', List.range_eq_range', ← List.range'_succ, show 35 - c + 1 = 36 - c by omega]
  have := List.range'_append_1 (s := 0) (m := c) (n := 36 - c)
  rw [Nat.zero_add, show c + (36 - c) = 36 by omega] at this
  exact this.symm
theorem cOf_split {S : Nat → Bool} {c : Nat} (hc : c < 36) (hS : S c = false) : ∃ X Y : List Nat, cOf S = X ++ Y ∧ cOf (upB S c) = X ++ c :: Y ∧ (∀ x ∈ X, x < c) ∧ ∀ y ∈ Y, c < y ∧ y < 36 := by
  refine ⟨(List.range c).filter S, (List.range' (c + 1) (35 - c)).filter S, ?_, ?_, fun x hx => List.mem_range.mp (List.mem_filter.mp hx).1, fun y hy => ?_⟩
  · unfold cOf
    rw [range_split hc, List.filter_append, List.filter_cons_of_neg (by rw [hS]; simp)]
  · unfold cOf
    rw [range_split hc, List.filter_append, List.filter_cons_of_pos (by unfold upB; rw [decide_eq_true rfl, Bool.or_true])]
    congr 1
    · refine List.filter_congr fun x hx => ?_
      have := List.mem_range.mp hx
      unfold upB
      rw [decide_eq_false (by omega), Bool.or_false]
    · congr 1
      refine List.filter_congr fun x hx => ?_
      have := List.mem_range'_1.mp hx
      unfold upB
      rw [decide_eq_false (by omega), Bool.or_false]
  · have := List.mem_range'_1.mp (List.mem_filter.mp hy).1
    omega
theorem getD_a {X Y : List Nat} {i : Nat} (h : i < X.length) : (X ++ Y).getD i 0 = X.getD i 0 := by
  rw [List.getD_eq_getElem?_getD, List.getElem?_append_left h, ← List.getD_eq_getElem?_getD]
theorem getD_b {X Y : List Nat} {i : Nat} (h : X.length ≤ i) : (X ++ Y).getD i 0 = Y.getD (i - X.length) 0 := by
  rw [List.getD_eq_getElem?_getD, List.getElem?_append_right h, ← List.getD_eq_getElem?_getD]
theorem getD_mem {X : List Nat} {i : Nat} (h : i < X.length) : X.getD i 0 ∈ X := by
  rw [getD_el h]
  exact List.getElem_mem h
theorem shR_step {r : Nat → Nat} {w : Nat} {L : List Nat} {p : Nat} (hp : p < L.length) : upN (shR r w L (p + 1)) (w + 4 + (p + 1)) (L.getD p 0) = shR r w L p := funext fun k => by
  by_cases e : k = w + 4 + (p + 1)
  · rw [e, upN_at]
    unfold shR
    rw [if_pos (by omega), show w + 4 + (p + 1) - (w + 4) - 1 = p by omega]
  · rw [upN_ne e]
    unfold shR
    by_cases e2 : w + 4 + (p + 1) < k ∧ k ≤ w + 4 + L.length
    · rw [if_pos e2, if_pos (by omega)]
    · rw [if_neg e2, if_neg (by omega)]
theorem shR_end {r : Nat → Nat} {w c : Nat} {X Y : List Nat} : upN (upN (shR r w (X ++ Y) X.length) (w + 4 + X.length) c) (w + 3) ((X ++ Y).length + 1) = memR r w (X ++ c :: Y) := funext fun k => by
  have hl : (X ++ c :: Y).length = X.length + Y.length + 1 := by rw [List.length_append]; rfl
  have hl2 : (X ++ Y).length = X.length + Y.length := List.length_append
  by_cases e3 : k = w + 3
  · rw [e3, upN_at]
    unfold memR
    rw [if_pos rfl, hl, hl2]
  · rw [upN_ne e3]
    by_cases e : k = w + 4 + X.length
    · rw [e, upN_at]
      unfold memR
      rw [if_neg (by omega), if_pos (by omega), getD_b (by omega), show w + 4 + X.length - (w + 4) - X.length = 0 by omega]
      rfl
    · rw [upN_ne e]
      unfold shR memR
      rw [if_neg e3, if_neg e3, hl, hl2]
      by_cases e4 : w + 4 + X.length < k ∧ k ≤ w + 4 + (X.length + Y.length)
      · rw [if_pos e4, if_pos (by omega), getD_b (by omega), getD_b (by omega), show k - (w + 4) - X.length = (k - (w + 4) - 1 - X.length) + 1 by omega]
        rfl
      · rw [if_neg e4]
        by_cases e5 : w + 4 ≤ k ∧ k < w + 4 + (X.length + Y.length)
        · rw [if_pos e5, if_pos (by omega), getD_a (by omega), getD_a (by omega)]
        · rw [if_neg e5, if_neg (by omega)]
section MS
variable {d : Nat} {M : ZM} {tp : List Nat} {s : Nat} {r : Nat → Nat}
theorem s_comesInto_57 {M : ZM} {w c : Nat} {X Y : List Nat} (hw : w + 10 ≤ 268) (hc : c < 36) (h6 : X.length + Y.length < 6) (hP : Ps tp s (shR r w (X ++ Y) X.length) M) : ∃ M', h_M_comesInto_57 d (nI w) (nI c) (nI X.length) M = some (none, M') ∧ frI pRd M M' ∧ Ps tp s (memR r w (X ++ c :: Y)) M' := by
  have hl2 : (X ++ Y).length = X.length + Y.length := List.length_append
  have P1 := hP.wr (w + 4 + X.length) c
  have P2 := P1.wr (w + 3) ((X ++ Y).length + 1)
  rw [shR_end] at P2
  refine ⟨_, e_M_comesInto_57 ?_, fr_wr.trans fr_wr, P2⟩
  have e3 : upN (shR r w (X ++ Y) X.length) (w + 4 + X.length) c (w + 3) = (X ++ Y).length := by
    rw [upN_ne (by omega)]
    unfold shR memR
    rw [if_neg (by omega), if_pos rfl]
  rw [n_add, n_add, if_pos ((n_zin (by omega)).mpr (by omega)), n_clamp (by omega), n_add, if_pos ((n_zin (by omega)).mpr (by omega)), n_clamp (by omega), zLr, P1.2 (w + 3) (by omega), e3, n_add1]
theorem s_comesInto_9 {w c : Nat} {X Y : List Nat} (hw : w + 10 ≤ 268) (hc : c < 36) (h6 : X.length + Y.length < 6) (hX : ∀ x ∈ X, x < c) (hY : ∀ y ∈ Y, c < y ∧ y < 36) : ∀ j (M : ZM), j ≤ Y.length → Ps tp s (shR r w (X ++ Y) (X.length + j)) M → ∃ M', h_M_comesInto_9 d (nI w) (nI c) (nI (X.length + j)) M = some (none, M') ∧ frI pRd M M' ∧ Ps tp s (memR r w (X ++ c :: Y)) M' := by
  have hl2 : (X ++ Y).length = X.length + Y.length := List.length_append
  have hat : ∀ p, p < (X ++ Y).length → shR r w (X ++ Y) (p + 1) (w + 4 + p) = (X ++ Y).getD p 0 := fun p hp => by
    unfold shR memR
    rw [if_neg (by omega), if_neg (by omega), if_pos (by omega), show w + 4 + p - (w + 4) = p by omega]
  intro j
  induction j with
  | zero =>
    intro M hj hP
    obtain ⟨M', a1, a2, a3⟩ := s_comesInto_57 (d := d) hw hc h6 hP
    refine ⟨M', e_M_comesInto_9 ?_, a2, a3⟩
    rw [Nat.add_zero]
    by_cases e : 0 < X.length
    · have e1 := hat (X.length - 1) (by omega)
      rw [show X.length - 1 + 1 = X.length by omega, getD_a (by omega)] at e1
      have hx := hX _ (getD_mem (show X.length - 1 < X.length by omega))
      rw [if_pos ((n_lt (by omega) (by omega)).mpr e), n_add, n_add, n_sub (by omega), show w + 4 + X.length - 1 = w + 4 + (X.length - 1) by omega, if_pos ((n_zin (by omega)).mpr (by omega)), n_clamp (by omega), hP.2 _ (by omega), Nat.add_zero, e1, if_neg (by rw [n_lt (by omega) (by omega)]; omega)]
      exact a1
    · rw [if_neg (by rw [n_lt (by omega) (by omega)]; exact e)]
      exact a1
  | succ j ih =>
    intro M hj hP
    have e1 := hat (X.length + j) (by omega)
    have hy := hY _ (getD_mem (show j < Y.length by omega))
    have e2 : (X ++ Y).getD (X.length + j) 0 = Y.getD j 0 := by rw [getD_b (by omega), Nat.add_sub_cancel_left]
    have P1 := hP.wr (w + 4 + (X.length + j + 1)) ((X ++ Y).getD (X.length + j) 0)
    rw [show X.length + (j + 1) = X.length + j + 1 by omega, shR_step (by omega)] at P1
    obtain ⟨M', a1, a2, a3⟩ := ih _ (by omega) P1
    refine ⟨M', e_M_comesInto_9 ?_, fr_wr.trans a2, a3⟩
    rw [show X.length + (j + 1) = X.length + j + 1 by omega] at hP ⊢
    rw [if_pos ((n_lt (by omega) (by omega)).mpr (by omega)), n_add, n_add, n_sub (by omega), show w + 4 + (X.length + j + 1) - 1 = w + 4 + (X.length + j) by omega, if_pos ((n_zin (by omega)).mpr (by omega)), n_clamp (by omega), hP.2 _ (by omega), e1, e2, if_pos ((n_lt (by omega) (by omega)).mpr hy.1), if_pos ((n_zin (by omega)).mpr (by omega)), n_clamp (by omega), n_dec (by omega), show X.length + j + 1 - 1 = X.length + j by omega, ← e2]
    exact a1
theorem s_comesInto {S : Nat → Bool} {w c : Nat} (hw : w + 10 ≤ 268) (hc : c < 36) (hS : S c = false) (h6 : (cOf S).length < 6) (hP : Ps tp s (memR r w (cOf S)) M) : ∃ M', zEv (d + 1) zmM_comesInto [.ref 866, .int (nI w), .int (nI c)] M = some (none, M') ∧ frI pRd M M' ∧ Ps tp s (memR r w (cOf (upB S c))) M' := by
  obtain ⟨X, Y, eX, eY, hX, hY⟩ := cOf_split hc hS
  rw [eX] at hP h6
  rw [List.length_append] at h6
  rw [eY]
  have e0 : shR r w (X ++ Y) (X.length + Y.length) = memR r w (X ++ Y) := funext fun k => by
    unfold shR
    rw [if_neg (by rw [List.length_append]; omega)]
  have e3 : memR r w (X ++ Y) (w + 3) = X.length + Y.length := by
    unfold memR
    rw [if_pos rfl, List.length_append]
  have h3 := hP.2 (w + 3) (by omega)
  rw [e3] at h3
  rw [← e0] at hP
  obtain ⟨M', a1, a2⟩ := s_comesInto_9 (d := d) hw hc h6 hX hY Y.length M (Nat.le_refl _) hP
  refine ⟨M', e_M_comesInto ?_, a2⟩
  rw [n_add, if_pos ((n_zin (by omega)).mpr (by omega)), n_clamp (by omega), h3]
  exact a1
theorem s_isInRow_l {w c : Nat} (hw : w + 10 ≤ 268) {L : List Nat} (h6 : L.length ≤ 6) (hc : c < 36) (hL : ∀ x ∈ L, x < 36) (hP : Ps tp s (memR r w L) M) (h41 : M.1 866 41 = nI c) : ∀ j i, i + j = L.length → h_M_isInRow_2 d (nI w) (nI i) M = some (some (.int (nB ((L.drop i).any fun x => decide (x = c)))), M) := by
  have e3 : memR r w L (w + 3) = L.length := if_pos rfl
  have h3 := hP.2 (w + 3) (by omega)
  rw [e3] at h3
  intro j
  induction j with
  | zero =>
    intro i h
    refine e_M_isInRow_2 ?_
    rw [n_add, if_pos ((n_zin (by omega)).mpr (by omega)), n_clamp (by omega), h3, if_neg (by rw [n_lt (by omega) (by omega)]; omega), List.drop_of_length_le (by omega)]
    rfl
  | succ j ih =>
    intro i h
    have hi : i < L.length := by omega
    have ei : memR r w L (w + 4 + i) = L[i] := by
      unfold memR
      rw [if_neg (by omega), if_pos (by omega), show w + 4 + i - (w + 4) = i by omega, getD_el hi]
    have hx := hL _ (List.getElem_mem hi)
    refine e_M_isInRow_2 ?_
    rw [n_add, if_pos ((n_zin (by omega)).mpr (by omega)), n_clamp (by omega), h3, if_pos ((n_lt (by omega) (by omega)).mpr hi), n_add, n_add, if_pos ((n_zin (by omega)).mpr (by omega)), n_clamp (by omega), hP.2 _ (by omega), ei, h41, List.drop_eq_getElem_cons hi, List.any_cons]
    by_cases e : L[i] = c
    · rw [if_pos (by rw [e]), decide_eq_true e]
      rfl
    · rw [if_neg (by rw [n_eq (by omega) (by omega)]; exact e), decide_eq_false e, Bool.false_or, n_add1]
      exact ih (i + 1) (by omega)
theorem s_isInRow {S : Nat → Bool} {w c : Nat} (hw : w + 10 ≤ 268) (h6 : (cOf S).length ≤ 6) (hc : c < 36) (hP : Ps tp s (memR r w (cOf S)) M) (h41 : M.1 866 41 = nI c) : zEv (d + 1) zmM_isInRow [.ref 866, .int (nI w)] M = some (some (.int (nB (S c))), M) := by
  refine e_M_isInRow ?_
  rw [s_isInRow_l (d := d) hw h6 hc (fun x hx => (cOf_mem.mp hx).1) hP h41 (cOf S).length 0 (by omega), List.drop_zero]
  congr 5
  rw [Bool.eq_iff_iff, List.any_eq_true]
  constructor
  · rintro ⟨x, h1, h2⟩
    have := of_decide_eq_true h2
    subst this
    exact (cOf_mem.mp h1).2
  · intro h
    exact ⟨c, cOf_mem.mpr ⟨hc, h⟩, decide_eq_true rfl⟩
end MS
