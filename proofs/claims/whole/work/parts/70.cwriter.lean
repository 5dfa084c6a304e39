/-! THE CLASS, 4: a board written -/
def Wr (l : List Nat) (M : ZM) : Prop := (M.1 630 1 = nI l.length ∧ l.length ≤ 1024) ∧ ∀ i, i < l.length → M.1 631 i = nI (l.getD i 0)
def pWr : Nat → Nat → Prop := fun a k => (a = 630 ∧ k = 1) ∨ a = 631
/-- ends with something else than a semicolon -/
def Ends (l : List Nat) : Prop := ∃ l' x, l = l' ++ [x] ∧ x ≠ 59 ∧ x < 128
theorem Ends.app {l m : List Nat} (h : Ends m) : Ends (l ++ m) := by
  obtain ⟨l', x, rfl, h1, h2⟩ := h
  exact ⟨l ++ l', x, by rw [List.append_assoc], h1, h2⟩
theorem decN_ends (v : Nat) : ∀ k, Ends (decN k v)
  | 0 => ⟨[], 48 + v % 10, rfl, by omega, by omega⟩
  | k + 1 => Ends.app (l := [48 + v / 10 ^ (k + 1) % 10]) (decN_ends v k)
theorem dec_ends (v : Nat) : Ends (dec v) := decN_ends v _
theorem dlen_f : ∀ j k, k + j = 7 → ∀ v, v < 10000000 → ∀ z, ((List.range' k j).find? fun k => decide (v / 10 ^ k < 10)).getD 6 = z → (k = 0 ∨ 10 ^ k ≤ v) → k ≤ 6 → v < 10 ^ (z + 1) ∧ (z = 0 ∨ 10 ^ z ≤ v) ∧ z ≤ 6 := by
  intro j
  induction j with
  | zero => intro k h; omega
  | succ j ih =>
    intro k h v hv z hz h0 h6
    have h10 := ten_le k (by omega)
    rw [List.range'_succ, List.find?_cons] at hz
    by_cases e : v / 10 ^ k < 10
    · rw [decide_eq_true e] at hz
      have hz2 : k = z := hz
      subst hz2
      refine ⟨?_, h0, h6⟩
      have h9 := (Nat.div_lt_iff_lt_mul (show 0 < 10 ^ k by omega)).mp e
      rw [Nat.pow_succ, Nat.mul_comm]
      exact h9
    · rw [decide_eq_false e] at hz
      by_cases h7 : k = 6
      · exfalso
        rw [h7] at e
        omega
      · refine ih (k + 1) (by omega) v hv z hz (Or.inr ?_) (by omega)
        rw [Nat.pow_succ]
        have := Nat.div_mul_le_self v (10 ^ k)
        have h3 : 10 * 10 ^ k ≤ v / 10 ^ k * 10 ^ k := Nat.mul_le_mul_right _ (by omega)
        rw [Nat.mul_comm]
        omega
theorem dlen_ok {v : Nat} (hv : v < 10000000) : v < 10 ^ (dlen v + 1) ∧ (dlen v = 0 ∨ 10 ^ dlen v ≤ v) ∧ dlen v ≤ 6 := dlen_f 7 0 (by omega) v hv _ rfl (Or.inl rfl) (by omega)
theorem dec_len6 {v : Nat} (hv : v ≤ 999999) : (dec v).length ≤ 6 := by
  obtain ⟨h1, h2, h3⟩ := dlen_ok (show v < 10000000 by omega)
  unfold dec
  rw [decN_len]
  rcases Nat.lt_or_ge (dlen v) 6 with g | g
  · omega
  · rw [show dlen v = 6 by omega] at h2
    rcases h2 with z | z
    · omega
    · have : (10 : Nat) ^ 6 = 1000000 := rfl
      omega
theorem dec_one {v : Nat} (hv : v < 10) : dec v = [48 + v] := by
  obtain ⟨h1, h2, h3⟩ := dlen_ok (show v < 10000000 by omega)
  have : dlen v = 0 := by
    rcases h2 with z | z
    · exact z
    · rcases Nat.eq_zero_or_pos (dlen v) with g | g
      · exact g
      · have h4 : 10 ^ 1 ≤ 10 ^ dlen v := Nat.pow_le_pow_right (by omega) g
        omega
  unfold dec
  rw [this]
  show [48 + v % 10] = _
  rw [Nat.mod_eq_of_lt hv]
section QE
variable {d : Nat} {M : ZM} {b : Nat → Nat} {q : Nat} {l : List Nat}
theorem q_addSign {M : ZM} {l : List Nat} (h : Wr l M) (hl : l.length < 1024) (c : Nat) : ∃ M', zEv (d + 1) zmW_addSign [.ref 630, .int (nI c)] M = some (none, M') ∧ Wr (l ++ [c]) M' ∧ frI pWr M M' := by
  refine ⟨zpi (zpi M 631 l.length (nI c)) 630 1 (nI (l.length + 1)), e_W_addSign ?_, ⟨⟨?_, ?_⟩, fun i hi => ?_⟩, (fr.refl.pi (Or.inr rfl)).pi (Or.inl ⟨rfl, rfl⟩)⟩
  · rw [h.1.1, if_neg (by rw [n_lt (by omega) (by omega)]; omega), if_pos ((n_lt (by omega) (by omega)).mpr hl), if_pos ((n_zin (by omega)).mpr hl), n_clamp (by omega), m_pi, if_neg (by omega), h.1.1, n_add1]
  · rw [m_pi, if_pos ⟨rfl, rfl⟩, List.length_append]; rfl
  · rw [List.length_append]; show l.length + 1 ≤ 1024; omega
  · rw [List.length_append] at hi
    have hi2 : i < l.length + 1 := hi
    rw [m_pi, if_neg (by omega), m_pi]
    by_cases e : i = l.length
    · rw [if_pos ⟨rfl, e⟩, e, getD_b (Nat.le_refl _), Nat.sub_self]
      rfl
    · rw [if_neg (fun z => e z.2), getD_a (by omega)]
      exact h.2 i (by omega)
theorem q_addBlank_0 {M : ZM} (h : Wr [] M) : zEv (d + 1) zmW_addBlank [.ref 630] M = some (none, M) := by
  refine e_W_addBlank ?_
  rw [h.1.1, if_neg (by decide)]
theorem q_addBlank_n {M : ZM} {l : List Nat} (h : Wr (l ++ [59]) M) : zEv (d + 1) zmW_addBlank [.ref 630] M = some (none, M) := by
  have hl : (l ++ [59]).length = l.length + 1 := by rw [List.length_append]; rfl
  have h1 := h.1.1
  have h2 := h.1.2
  have h3 := h.2 l.length (by omega)
  rw [getD_b (Nat.le_refl _), Nat.sub_self] at h3
  rw [hl] at h1 h2
  refine e_W_addBlank ?_
  rw [h1, if_pos ((n_lt (by omega) (by omega)).mpr (by omega)), if_neg (by rw [n_lt (by omega) (by omega)]; omega), n_sub (by omega), Nat.add_sub_cancel, if_pos ((n_zin (by omega)).mpr (by omega)), n_clamp (by omega), h3, if_pos (by rfl)]
theorem q_addBlank_y {M : ZM} {l : List Nat} (h : Wr l M) (hE : Ends l) (hl : l.length < 1024) : ∃ M', zEv (d + 2) zmW_addBlank [.ref 630] M = some (none, M') ∧ Wr (l ++ [32]) M' ∧ frI pWr M M' := by
  obtain ⟨M', a1, a2, a3⟩ := q_addSign (d := d) h hl 32
  obtain ⟨l', x, rfl, hx, hx2⟩ := hE
  have hll : (l' ++ [x]).length = l'.length + 1 := by rw [List.length_append]; rfl
  have h1 := h.1.1
  have h3 := h.2 l'.length (by omega)
  rw [getD_b (Nat.le_refl _), Nat.sub_self] at h3
  rw [hll] at h1 hl
  refine ⟨M', e_W_addBlank ?_, a2, a3⟩
  rw [h1, if_pos ((n_lt (by omega) (by omega)).mpr (by omega)), if_neg (by rw [n_lt (by omega) (by omega)]; omega), n_sub (by omega), Nat.add_sub_cancel, if_pos ((n_zin (by omega)).mpr (by omega)), n_clamp (by omega), h3, if_neg (by show ¬ nI x = nI 59; rw [n_eq (by omega) (by omega)]; exact hx), a1, zC0_some]
theorem q_addWord_l {j : Nat} (hj : j < 17) : ∀ t k (M : ZM) (l : List Nat), k + t = (wd j).length → Wr l M → l.length + t ≤ 1024 → ∃ M', h_W_addWord_6 (d + 4) (j + 1) (nI k) M = some (none, M') ∧ Wr (l ++ (wd j).drop k) M' ∧ frI pWr M M' := by
  have h7 := ztx_le j hj
  have hw := wd_len j
  intro t
  induction t with
  | zero =>
    intro k M l h hS hl
    refine ⟨M, e_W_addWord_6 (zkS j hj).1 ?_, ?_, fr.refl⟩
    · rw [s_length (d := d + 2) hj, zC1_some, if_neg (by rw [n_lt (by omega) (by omega)]; omega)]
    · rw [List.drop_of_length_le (by omega), List.append_nil]; exact hS
  | succ t ih =>
    intro k M l h hS hl
    obtain ⟨M1, a1, a2, a3⟩ := q_addSign (d := d + 3) hS (by omega) ((wd j).getD k 0)
    obtain ⟨M', c1, c2, c3⟩ := ih (k + 1) M1 _ (by omega) a2 (by rw [List.length_append]; show l.length + 1 + t ≤ _; omega)
    refine ⟨M', e_W_addWord_6 (zkS j hj).1 ?_, ?_, a3.trans c3⟩
    · rw [s_length (d := d + 2) hj, zC1_some, if_pos ((n_lt (by omega) (by omega)).mpr (by omega)), s_charAt (d := d) hj (show k < (wd j).length by omega), zC1_some, a1, zC0_some, n_add1]
      exact c1
    · rw [List.append_assoc] at c2
      rw [List.drop_eq_getElem_cons (show k < (wd j).length by omega), ← getD_el (z := 0) (show k < (wd j).length by omega)]
      exact c2
theorem q_addWord_0 {M : ZM} {j : Nat} (hj : j < 17) (h : Wr [] M) : ∃ M', zEv (d + 5) zmW_addWord [.ref 630, .ref (j + 1)] M = some (none, M') ∧ Wr (wd j) M' ∧ frI pWr M M' := by
  have h7 := ztx_le j hj
  have hw := wd_len j
  obtain ⟨M', a1, a2⟩ := q_addWord_l (d := d) hj (wd j).length 0 M [] (by omega) h (by show 0 + _ ≤ _; omega)
  refine ⟨M', e_W_addWord (zkS j hj).1 ?_, a2⟩
  rw [q_addBlank_0 (d := d + 3) h, zC0_some]
  exact a1
theorem q_addWord_n {M : ZM} {j : Nat} {l : List Nat} (hj : j < 17) (h : Wr (l ++ [59]) M) (hl : l.length + 1 + (wd j).length ≤ 1024) : ∃ M', zEv (d + 5) zmW_addWord [.ref 630, .ref (j + 1)] M = some (none, M') ∧ Wr (l ++ (59 :: wd j)) M' ∧ frI pWr M M' := by
  obtain ⟨M', a1, a2, a3⟩ := q_addWord_l (d := d) hj (wd j).length 0 M _ (by omega) h (by rw [List.length_append]; exact hl)
  rw [List.append_assoc] at a2
  refine ⟨M', e_W_addWord (zkS j hj).1 ?_, a2, a3⟩
  rw [q_addBlank_n (d := d + 3) h, zC0_some]
  exact a1
theorem q_addWord_y {M : ZM} {j : Nat} {l : List Nat} (hj : j < 17) (h : Wr l M) (hE : Ends l) (hl : l.length + 1 + (wd j).length ≤ 1024) : ∃ M', zEv (d + 5) zmW_addWord [.ref 630, .ref (j + 1)] M = some (none, M') ∧ Wr (l ++ (32 :: wd j)) M' ∧ frI pWr M M' := by
  obtain ⟨M1, b1, b2, b3⟩ := q_addBlank_y (d := d + 2) h hE (by omega)
  obtain ⟨M', a1, a2, a3⟩ := q_addWord_l (d := d) hj (wd j).length 0 M1 _ (by omega) b2 (by rw [List.length_append]; exact hl)
  rw [List.append_assoc] at a2
  refine ⟨M', e_W_addWord (zkS j hj).1 ?_, a2, b3.trans a3⟩
  rw [b1, zC0_some]
  exact a1
theorem q_addNumber_28 {v : Nat} (hv : v < 2147483648) : ∀ k (M : ZM) (l : List Nat), k ≤ 6 → Wr l M → l.length + (k + 1) ≤ 1024 → ∃ M', h_W_addNumber_28 (d + 1) (nI v) (nI (10 ^ k)) M = some (none, M') ∧ Wr (l ++ decN k v) M' ∧ frI pWr M M' := by
  have hq : ∀ k, v / 10 ^ k < 2147483648 := fun k => Nat.lt_of_le_of_lt (Nat.div_le_self _ _) hv
  intro k
  induction k with
  | zero =>
    intro M l hk hS hl
    obtain ⟨M1, a1, a2, a3⟩ := q_addSign (d := d) hS (by omega) (48 + v % 10)
    refine ⟨M1, e_W_addNumber_28 ?_, a2, a3⟩
    have e2 : h_W_addNumber_9 (d + 1) (nI v) (nI 1) (nI 0) M1 = some (none, M1) := e_W_addNumber_9 (by rw [if_pos (by decide)])
    rw [if_neg (by decide), Nat.pow_zero, n_div hv (by omega), Nat.div_one, n_rem hv (by omega), n_add, a1, zC0_some, n_div (by omega) (by omega)]
    exact e2
  | succ k ih =>
    intro M l hk hS hl
    have h10 := ten_le (k + 1) (by omega)
    have h10' := ten_le k (by omega)
    obtain ⟨M1, a1, a2, a3⟩ := q_addSign (d := d) hS (by omega) (48 + v / 10 ^ (k + 1) % 10)
    obtain ⟨M', c1, c2, c3⟩ := ih M1 _ (by omega) a2 (by rw [List.length_append]; show l.length + 1 + (k + 1) ≤ _; omega)
    refine ⟨M', e_W_addNumber_28 ?_, ?_, a3.trans c3⟩
    · rw [if_neg (by rw [n_eq (by omega) (by omega)]; omega), n_div hv (by omega), n_rem (hq _) (by omega), n_add, a1, zC0_some, n_div (by omega) (by omega), Nat.pow_succ, Nat.mul_div_cancel _ (by omega)]
      refine e_W_addNumber_9 ?_
      rw [if_neg (by rw [n_lt (by omega) (by omega)]; omega), if_neg (by decide)]
      exact c1
    · rw [List.append_assoc] at c2
      exact c2
theorem q_addNumber_9 {v : Nat} (hv : v < 10000000) {r : ZR} {M : ZM} (h28 : h_W_addNumber_28 (d + 1) (nI v) (nI (10 ^ dlen v)) M = some r) : ∀ j k, k = dlen v + j → k ≤ 6 → h_W_addNumber_9 (d + 1) (nI v) (nI 0) (nI (10 ^ k)) M = some r := by
  obtain ⟨g1, g2, g3⟩ := dlen_ok hv
  intro j
  induction j with
  | zero =>
    intro k hk h6
    obtain rfl : k = dlen v := hk
    have h10 := ten_le (dlen v) (by omega)
    refine e_W_addNumber_9 ?_
    rw [if_neg (by rw [n_lt (by omega) (by omega)]; omega), if_pos rfl]
    by_cases e : v < 10 ^ dlen v
    · have e0 : dlen v = 0 := by omega
      rw [if_pos ((n_lt (by omega) (by omega)).mpr e), if_pos (by rw [e0])]
      exact h28
    · rw [if_neg (by rw [n_lt (by omega) (by omega)]; exact e)]
      exact h28
  | succ j ih =>
    intro k hk h6
    obtain ⟨k', rfl⟩ : ∃ k', k = k' + 1 := ⟨k - 1, by omega⟩
    have h10 := ten_le (k' + 1) (by omega)
    have h10' := ten_le k' (by omega)
    have hle : 10 ^ (dlen v + 1) ≤ 10 ^ (k' + 1) := Nat.pow_le_pow_right (by omega) (by omega)
    have hge : 10 ≤ 10 ^ (k' + 1) := by
      have : 10 ^ 1 ≤ 10 ^ (k' + 1) := Nat.pow_le_pow_right (by omega) (by omega)
      omega
    refine e_W_addNumber_9 ?_
    rw [if_neg (by rw [n_lt (by omega) (by omega)]; omega), if_pos rfl, if_pos ((n_lt (by omega) (by omega)).mpr (by omega)), if_neg (by rw [n_eq (by omega) (by omega)]; omega), n_div (by omega) (by omega), Nat.pow_succ, Nat.mul_div_cancel _ (by omega)]
    exact ih k' (by omega) (by omega)
theorem q_addNumber {M : ZM} {l : List Nat} {v : Nat} (hv : v < 10000000) (h : Wr l M) (hE : Ends l) (hl : l.length + (sNum v).length ≤ 1024) : ∃ M', zEv (d + 3) zmW_addNumber [.ref 630, .int (nI v)] M = some (none, M') ∧ Wr (l ++ sNum v) M' ∧ frI pWr M M' := by
  obtain ⟨g1, g2, g3⟩ := dlen_ok hv
  have hn : (sNum v).length = dlen v + 2 := by show (dec v).length + 1 = _; unfold dec; rw [decN_len]
  obtain ⟨M1, b1, b2, b3⟩ := q_addBlank_y (d := d) h hE (by omega)
  obtain ⟨M', a1, a2, a3⟩ := q_addNumber_28 (d := d + 1) (v := v) (by omega) (dlen v) M1 _ g3 b2 (by rw [List.length_append]; show l.length + 1 + _ ≤ _; omega)
  rw [List.append_assoc] at a2
  refine ⟨M', e_W_addNumber ?_, a2, b3.trans a3⟩
  rw [b1, zC0_some]
  exact q_addNumber_9 (d := d + 1) hv a1 (6 - dlen v) 6 (by omega) (by omega)
theorem sNum_ends (v : Nat) : Ends (sNum v) := Ends.app (l := [32]) (dec_ends v)
theorem sCell_one {b : Nat → Nat} (hW : Wf b) {c : Nat} (hc : c < b 0 * b 1) : sCell b c = [32, 97 + c % b 0, 49 + c / b 0] := by
  have h6 := hW.1.2.1
  have : c / b 0 < b 1 := Nat.div_lt_of_lt_mul hc
  unfold sCell
  rw [dec_one (by omega), show 48 + (c / b 0 + 1) = 49 + c / b 0 by omega]
theorem q_addCell {M : ZM} {l : List Nat} (hq : zkd q = (10, 0)) (h0 : M.1 q 0 = nI (b 0)) (hW : Wf b) {c : Nat} (hc : c < b 0 * b 1) (hne : q ≠ 630 ∧ q ≠ 631) (h : Wr l M) (hE : Ends l) (hl : l.length + 3 ≤ 1024) : ∃ M', zEv (d + 3) zmW_addCell [.ref 630, .ref q, .int (nI c)] M = some (none, M') ∧ Wr (l ++ sCell b c) M' ∧ frI pWr M M' ∧ Ends (l ++ sCell b c) := by
  have h36 := hW.n36
  have h6 := hW.1.1
  have hb0 : 0 < b 0 := by
    rcases Nat.eq_zero_or_pos (b 0) with g | g
    · rw [g, Nat.zero_mul] at hc; omega
    · exact g
  have hm := Nat.mod_lt c hb0
  have hd2 : c / b 0 ≤ c := Nat.div_le_self _ _
  have f0 : ∀ {M M' : ZM}, frI pWr M M' → M'.1 q 0 = M.1 q 0 := fun hf => hf.1 q 0 (fun z => by unfold pWr at z; omega)
  rw [sCell_one hW hc]
  obtain ⟨M1, a1, a2, a3⟩ := q_addBlank_y (d := d) h hE (by omega)
  obtain ⟨M2, b1, b2, b3⟩ := q_addSign (d := d + 1) a2 (by rw [List.length_append]; show l.length + 1 < _; omega) (97 + c % b 0)
  obtain ⟨M3, c1, c2, c3⟩ := q_addSign (d := d + 1) b2 (by rw [List.length_append, List.length_append]; show l.length + 1 + 1 < _; omega) (49 + c / b 0)
  have e1 : M1.1 q 0 = nI (b 0) := (f0 a3).trans h0
  have e2 : M2.1 q 0 = nI (b 0) := (f0 b3).trans e1
  rw [List.append_assoc, List.append_assoc] at c2
  refine ⟨M3, e_W_addCell hq ?_, c2, (a3.trans b3).trans c3, Ends.app ⟨[32, 97 + c % b 0], 49 + c / b 0, rfl, ?_, ?_⟩⟩
  · rw [h0, if_pos ((n_lt (by omega) (by omega)).mpr hb0), a1, zC0_some, e1, if_neg (by rw [n_eq (by omega) (by omega)]; omega), n_rem (by omega) (by omega), n_add, b1, zC0_some, e2, if_neg (by rw [n_eq (by omega) (by omega)]; omega), n_div (by omega) (by omega), n_add, c1, zC0_some]
  · have : c / b 0 < b 1 := Nat.div_lt_of_lt_mul hc
    have := hW.1.2.1
    omega
  · omega
end QE
