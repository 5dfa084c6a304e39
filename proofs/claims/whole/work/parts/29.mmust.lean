/-! THE MODEL, 18: where ways strike nothing, must and twins find nothing -/
theorem ext_all {t : Nat} {un : Bool} : ∀ {ms pre w : List Nat}, w ∈ ext t un ms pre → ∃ s, w = pre ++ s ∧ s.length = ms.length ∧ (∀ j, j < ms.length → (ms.getD j 0).testBit (s.getD j 0) = true) ∧ (un = true → ∀ j, j < ms.length → ¬ s.getD j 0 ∈ pre ∧ ∀ l, l < j → s.getD l 0 ≠ s.getD j 0)
  | [], pre, w, h => by
    simp only [ext, List.mem_singleton] at h
    exact ⟨[], by simp [h], rfl, fun j z => absurd z (Nat.not_lt_zero j), fun _ j z => absurd z (Nat.not_lt_zero j)⟩
  | m :: ms, pre, w, h => by
    simp only [ext, List.mem_flatMap] at h
    obtain ⟨d, hd, h⟩ := h
    split at h
    · rename_i hc
      rw [Bool.and_eq_true] at hc
      obtain ⟨s, e1, e2, e3, e4⟩ := ext_all h
      refine ⟨d :: s, by rw [e1]; simp, by simp [e2], fun j hj => ?_, fun hu j hj => ?_⟩
      · cases j with
        | zero => exact hc.1
        | succ j => exact e3 j (by rw [List.length_cons] at hj; omega)
      · cases j with
        | zero =>
          refine ⟨fun z => ?_, fun l hl => absurd hl (Nat.not_lt_zero l)⟩
          have h2 := hc.2
          rw [hu, Bool.true_and] at h2
          have z' : d ∈ pre := z
          rw [List.contains_iff_mem.mpr z'] at h2
          cases h2
        | succ j =>
          obtain ⟨q1, q2⟩ := e4 hu j (by rw [List.length_cons] at hj; omega)
          refine ⟨fun z => q1 (List.mem_append.mpr (Or.inl z)), fun l hl => ?_⟩
          cases l with
          | zero => exact fun z => q1 (List.mem_append.mpr (Or.inr (List.mem_singleton.mpr z.symm)))
          | succ l => exact q2 l (by omega)
    · cases h
theorem wy_all {b : Nat → Nat} {k : Nat} {w : List Nat} (h : w ∈ ways b k) : w.length = cgN b k ∧ (∀ j, j < cgN b k → (b (112 + cgC b k j)).testBit (w.getD j 0) = true) ∧ (cgU b k = true → ∀ j, j < cgN b k → ∀ l, l < j → w.getD l 0 ≠ w.getD j 0) := by
  unfold ways at h
  obtain ⟨s, e1, e2, e3, e4⟩ := ext_all (List.mem_filter.mp h).1
  rw [List.nil_append] at e1
  subst e1
  have hl : (cgM b k).length = cgN b k := by unfold cgM; simp
  rw [hl] at e2 e3 e4
  refine ⟨e2, fun j hj => ?_, fun hu j hj => (e4 hu j hj).2⟩
  have := e3 j hj
  have eg : (cgM b k).getD j 0 = b (112 + cgC b k j) := by
    rw [List.getD_eq_getElem?_getD]
    unfold cgM
    rw [List.getElem?_map, List.getElem?_range hj]
    rfl
  rw [eg] at this
  exact this
theorem cnt1 {p : Nat → Bool} {x : Nat} (h : ∀ z, p z = true → z = x) : ∀ n, (List.range n).countP p ≤ if x < n then 1 else 0
  | 0 => by simp
  | n + 1 => by
    have ih := cnt1 h n
    rw [List.range_succ, List.countP_append, List.countP_singleton]
    by_cases hp : p n = true
    · have e := h n hp
      rw [if_pos hp]
      rw [if_neg (by omega)] at ih
      rw [if_pos (by omega)]
      omega
    · rw [if_neg hp]
      refine Nat.le_trans ih ?_
      split
      · rw [if_pos (by omega)]; omega
      · omega
theorem popc_one {m x : Nat} (h : ∀ z, m.testBit z = true → z = x) : popc m ≤ 1 := by
  have := cnt1 (p := fun z => m.testBit z) h 32
  unfold popc
  split at this <;> omega
theorem cnt3 {p : Nat → Bool} {x y z : Nat} (hx : p x = true) (hy : p y = true) (hz : p z = true) (h1 : x ≠ y) (h2 : x ≠ z) (h3 : y ≠ z) : ∀ n, (if x < n then 1 else 0) + (if y < n then 1 else 0) + (if z < n then 1 else 0) ≤ (List.range n).countP p
  | 0 => by simp
  | n + 1 => by
    have ih := cnt3 hx hy hz h1 h2 h3 n
    rw [List.range_succ, List.countP_append, List.countP_singleton]
    by_cases ex : x = n
    · subst ex
      rw [if_pos hx]
      rw [if_neg (Nat.lt_irrefl x)] at ih
      rw [if_pos (Nat.lt_succ_self x)]
      have e1 : (if y < x + 1 then 1 else 0) = if y < x then 1 else 0 := by
        by_cases e : y < x
        · rw [if_pos e, if_pos (by omega)]
        · rw [if_neg e, if_neg (by omega)]
      have e2 : (if z < x + 1 then 1 else 0) = if z < x then 1 else 0 := by
        by_cases e : z < x
        · rw [if_pos e, if_pos (by omega)]
        · rw [if_neg e, if_neg (by omega)]
      omega
    · have e0 : (if x < n + 1 then 1 else 0) = if x < n then 1 else 0 := by
        by_cases e : x < n
        · rw [if_pos e, if_pos (by omega)]
        · rw [if_neg e, if_neg (by omega)]
      by_cases ey : y = n
      · subst ey
        rw [if_pos hy]
        have e2 : (if z < y + 1 then 1 else 0) = if z < y then 1 else 0 := by
          by_cases e : z < y
          · rw [if_pos e, if_pos (by omega)]
          · rw [if_neg e, if_neg (by omega)]
        have e3 : (if y < y + 1 then 1 else 0) = 1 := if_pos (Nat.lt_succ_self y)
        have e4 : (if y < y then 1 else 0) = 0 := if_neg (Nat.lt_irrefl y)
        omega
      · have e1 : (if y < n + 1 then 1 else 0) = if y < n then 1 else 0 := by
          by_cases e : y < n
          · rw [if_pos e, if_pos (by omega)]
          · rw [if_neg e, if_neg (by omega)]
        by_cases ez : z = n
        · subst ez
          rw [if_pos hz]
          have e3 : (if z < z + 1 then 1 else 0) = 1 := if_pos (Nat.lt_succ_self z)
          have e4 : (if z < z then 1 else 0) = 0 := if_neg (Nat.lt_irrefl z)
          omega
        · have e2 : (if z < n + 1 then 1 else 0) = if z < n then 1 else 0 := by
            by_cases e : z < n
            · rw [if_pos e, if_pos (by omega)]
            · rw [if_neg e, if_neg (by omega)]
          omega
theorem popc_two {m x y z : Nat} (hp : popc m = 2) (hm : m < 2 ^ 32) (hx : m.testBit x = true) (hy : m.testBit y = true) (hz : m.testBit z = true) (h1 : x ≠ y) (h2 : x ≠ z) (h3 : y ≠ z) : False := by
  have g := cnt3 (p := fun i => m.testBit i) hx hy hz h1 h2 h3 32
  have hlt : ∀ i, m.testBit i = true → i < 32 := fun i hi => (Nat.pow_lt_pow_iff_right (a := 2) (by omega)).mp (Nat.lt_of_le_of_lt (Nat.ge_two_pow_of_testBit hi) hm)
  rw [if_pos (hlt x hx), if_pos (hlt y hy), if_pos (hlt z hz)] at g
  unfold popc at hp
  omega
/-- no way strikes a mark -/
theorem no_out {b : Nat → Nat} (h : fdW b = none) {k i z : Nat} (hk : k < b 3) (hi : i < cgN b k) (hz : (b (112 + cgC b k i)).testBit z = true) : ∃ w ∈ ways b k, w.getD i 0 = z := by
  unfold fdW at h
  have h1 := List.find?_eq_none.mp h k (List.mem_range.mpr hk)
  have h2 : fdI b k = none := by
    cases e : fdI b k with
    | none => rfl
    | some _ => rw [e] at h1; exact absurd rfl h1
  unfold fdI at h2
  have h3 := List.find?_eq_none.mp h2 i (List.mem_range.mpr hi)
  have h4 : outM b k i = 0 := by
    by_cases e : outM b k i = 0
    · exact e
    · rw [decide_eq_false e] at h3; exact absurd rfl h3
  have h5 := outM_bit (b := b) (k := k) (i := i) (z := z)
  rw [h4, Nat.zero_testBit, hz, Bool.true_and] at h5
  have h6 : (couldD (ways b k) i).testBit z = true := by
    cases e : (couldD (ways b k) i).testBit z with
    | true => rfl
    | false => rw [e] at h5; cases h5
  unfold couldD at h6
  rw [msk_bit, Bool.and_eq_true] at h6
  obtain ⟨w, hw1, hw2⟩ := List.any_eq_true.mp h6.2
  rw [Bool.and_eq_true] at hw2
  exact ⟨w, hw1, beq_iff_eq.mp hw2.2⟩
theorem getD_of_contains {w : List Nat} {x : Nat} (h : w.contains x = true) : ∃ j, j < w.length ∧ w.getD j 0 = x := by
  obtain ⟨j, hj, e⟩ := List.mem_iff_getElem.mp (List.contains_iff_mem.mp h)
  refine ⟨j, hj, ?_⟩
  rw [List.getD_eq_getElem?_getD, List.getElem?_eq_getElem hj]
  exact e
theorem must_one {b : Nat → Nat} (h : fdW b = none) {k i x : Nat} (hk : k < b 3) (hi : i < cgN b k) (hx : (mustD b (ways b k)).testBit x = true) (hu : ∀ j, j < cgN b k → j ≠ i → (b (112 + cgC b k j)).testBit x = false) : popc (b (112 + cgC b k i)) ≤ 1 := by
  refine popc_one (x := x) fun z hz => ?_
  obtain ⟨w, hw1, hw2⟩ := no_out h hk hi hz
  obtain ⟨g1, g2, g3⟩ := wy_all hw1
  have hc : w.contains x = true := by
    unfold mustD at hx
    cases e : (ways b k).isEmpty with
    | true => rw [e, cond_true, Nat.zero_testBit] at hx; cases hx
    | false =>
      rw [e, cond_false, msk_bit, Bool.and_eq_true, Bool.and_eq_true] at hx
      exact List.all_eq_true.mp hx.2.2 w hw1
  obtain ⟨j, hj, ej⟩ := getD_of_contains hc
  by_cases e : j = i
  · rw [← hw2, ← e, ej]
  · have := hu j (by omega) e
    rw [← ej, g2 j (by omega)] at this
    cases this
theorem twin_none {b : Nat → Nat} (hW : Wf b) (h : fdW b = none) {k i j l : Nat} (hk : k < b 3) (hi : i < cgN b k) (hj : j < cgN b k) (hl : l < cgN b k) (hu : cgU b k = true) (hij : i ≠ j) (hli : l ≠ i) (hlj : l ≠ j) (hp : popc (b (112 + cgC b k i)) = 2) (he : b (112 + cgC b k i) = b (112 + cgC b k j)) : b (112 + cgC b k l) &&& b (112 + cgC b k i) = 0 := by
  refine Nat.eq_of_testBit_eq fun z => ?_
  rw [Nat.zero_testBit, Nat.testBit_and]
  cases h1 : (b (112 + cgC b k l)).testBit z with
  | false => rfl
  | true =>
    cases h2 : (b (112 + cgC b k i)).testBit z with
    | false => rfl
    | true =>
      exfalso
      obtain ⟨w, hw1, hw2⟩ := no_out h hk hl h1
      obtain ⟨g1, g2, g3⟩ := wy_all hw1
      have hne : ∀ p q, p < cgN b k → q < cgN b k → p ≠ q → w.getD p 0 ≠ w.getD q 0 := by
        intro p q hp hq hpq
        rcases Nat.lt_or_ge p q with e | e
        · exact g3 hu q hq p e
        · exact fun z => g3 hu p hp q (by omega) z.symm
      have hlt := mk_lt hW (cgC_lt hW hk hi)
      exact popc_two hp (by omega) (g2 i hi) (by rw [he]; exact g2 j hj) h2 (hne i j hi hj hij) (by rw [← hw2]; exact hne i l hi hl (fun e => hli e.symm)) (by rw [← hw2]; exact hne j l hj hl (fun e => hlj e.symm))
