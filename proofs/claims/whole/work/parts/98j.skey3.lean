/-! THE CLASS, 46: keys of a row, the tightest cell, one deeper -/
section QK2
variable {d : Nat} {M : ZM} {b : Nat → Nat} {q : Nat}
theorem zk_rw {dp : Nat} (hdp : dp < 17) : zkd (547 + dp) = (1, 36) := by
  have zl := zl_4 (q := 546) (i := nI dp) (by decide +kernel) ((n_zin (by omega)).mpr hdp)
  rw [n_clamp (by omega), show 546 + 1 + dp = 547 + dp by omega] at zl
  exact zl
theorem msr_S (hW : Wf b) {ms : Nat → Nat} (hM : MV b ms) {dp k : Nat} (hk : k < b 3) (hB : BRep b q M) (hR : SRw dp ms M) : MsR (547 + dp) (q + 7 + k) (cgN b k) (fun i => ms (cgC b k i)) M := fun i hi => by
  have hc := cgC_lt hW hk hi
  exact ⟨cgC b k i, hc, (hB.2.2.2 k hk).2 i hi, hR _ hc, mv_lt hM hW.1.2.2.1 hc⟩
theorem q_keyAt (hq : zkd q = (10, 0)) (hW : Wf b) {ms : Nat → Nat} (hM : MV b ms) {dp k : Nat} (hdp : dp < 17) (hk : k < b 3) (hB : BRep b q M) (hL : SRl b M) (hR : SRw dp ms M) : zEv (d + 2) zmR_stateBy [.ref (424 + 10 * k), .ref (547 + dp), .ref (q + 7 + k)] M = some (some (.int (nI (keyS b k ms))), M) := by
  have hk12 := cg_12 hW hk
  have hrk := rsk_S.2 k hk12
  rw [show 412 + 12 + 10 * k = 424 + 10 * k by omega] at hrk
  exact q_stateBy hrk (zk_rw hdp) (qcl hq hk12) hW hM hk (hL k hk) (msr_S hW hM hk hB hR)
theorem q_lowKey_5 (hq : zkd q = (10, 0)) (hW : Wf b) {ms : Nat → Nat} (hM : MV b ms) {dp : Nat} (hdp : dp < 17) (hB : BRep b q M) (hL : SRl b M) (hR : SRw dp ms M) : ∀ n k, k + n = (if b 3 < 9 then b 3 else 9) → h_S_lowKey_5 (d + 2) q (nI dp) (nJ (pk7 (fun k => if k < b 3 then keyS b k ms else 0) 0 k)) (nI k) M = some (some (.long (nJ (lowN b ms))), M) := by
  intro n
  have h12 := hW.1.2.2.2
  induction n with
  | zero =>
    intro k h
    have e : lowN b ms = pk7 (fun k => if k < b 3 then keyS b k ms else 0) 0 k := by
      unfold lowN
      rw [← h]
      rfl
    refine e_S_lowKey_5 hq ?_
    rw [hB.1.2.2, e]
    by_cases h9 : b 3 < 9
    · rw [if_pos h9] at h
      rw [if_neg (by rw [n_lt (by omega) (by omega)]; omega)]
    · rw [if_neg h9] at h
      by_cases hk : k < b 3
      · rw [if_pos ((n_lt (by omega) (by omega)).mpr hk), if_neg (by rw [n_lt (by omega) (by omega)]; omega)]
      · rw [if_neg (by rw [n_lt (by omega) (by omega)]; exact hk)]
  | succ n ih =>
    intro k h
    have hk : k < b 3 ∧ k < 9 := by
      by_cases h9 : b 3 < 9
      · rw [if_pos h9] at h; omega
      · rw [if_neg h9] at h; omega
    refine e_S_lowKey_5 hq ?_
    rw [hB.1.2.2, if_pos ((n_lt (by omega) (by omega)).mpr hk.1), if_pos ((n_lt (by omega) (by omega)).mpr hk.2), if_pos ((n_zin (by omega)).mpr (by omega)), if_pos ((n_zin (by omega)).mpr hdp), n_clamp (by omega), n_clamp (by omega), q_keyAt hq hW hM hdp hk.1 hB hL hR, zC1_some, zLr, l_pk7 (keyS_lt hW hM hk.1), n_add1]
    have := ih (k + 1) (by omega)
    have e : pk7 (fun k => if k < b 3 then keyS b k ms else 0) 0 (k + 1) = pk7 (fun k => if k < b 3 then keyS b k ms else 0) 0 k * 128 + keyS b k ms := by
      show pk7 _ 0 k * 128 + (if k < b 3 then keyS b k ms else 0) = _
      rw [if_pos hk.1]
    rw [e] at this
    exact this
theorem q_lowKey (hq : zkd q = (10, 0)) (hW : Wf b) {ms : Nat → Nat} (hM : MV b ms) {dp : Nat} (hdp : dp < 17) (hB : BRep b q M) (hL : SRl b M) (hR : SRw dp ms M) : zEv (d + 3) zmS_lowKey [.ref 411, .ref q, .int (nI dp)] M = some (some (.long (nJ (lowN b ms))), M) :=
  e_S_lowKey hq (q_lowKey_5 (d := d) hq hW hM hdp hB hL hR (if b 3 < 9 then b 3 else 9) 0 (Nat.zero_add _))
theorem q_highKey_78 (hq : zkd q = (10, 0)) (hW : Wf b) {ms : Nat → Nat} (hM : MV b ms) {dp A : Nat} (hdp : dp < 17) (hB : BRep b q M) (hL : SRl b M) (hR : SRw dp ms M) : ∀ n k, k + n = 3 → h_S_highKey_78 (d + 2) q (nI dp) (nJ (pk7 (fun j => if 9 + j < b 3 then keyS b (9 + j) ms else 0) A k)) (nI (9 + k)) M = some (some (.long (nJ (pk7 (fun j => if 9 + j < b 3 then keyS b (9 + j) ms else 0) A 3))), M) := by
  intro n
  have h12 := hW.1.2.2.2
  induction n with
  | zero =>
    intro k h
    refine e_S_highKey_78 hq ?_
    rw [if_neg (by rw [n_lt (by omega) (by omega)]; omega), show k = 3 by omega]
  | succ n ih =>
    intro k h
    have := ih (k + 1) (by omega)
    refine e_S_highKey_78 hq ?_
    rw [if_pos ((n_lt (by omega) (by omega)).mpr (by omega)), hB.1.2.2]
    by_cases hk : 9 + k < b 3
    · have e : pk7 (fun j => if 9 + j < b 3 then keyS b (9 + j) ms else 0) A (k + 1) = pk7 (fun j => if 9 + j < b 3 then keyS b (9 + j) ms else 0) A k * 128 + keyS b (9 + k) ms := by
        show pk7 _ A k * 128 + (if 9 + k < b 3 then keyS b (9 + k) ms else 0) = _
        rw [if_pos hk]
      rw [e] at this
      rw [if_pos ((n_lt (by omega) (by omega)).mpr hk), if_pos ((n_zin (by omega)).mpr (by omega)), if_pos ((n_zin (by omega)).mpr hdp), n_clamp (by omega), n_clamp (by omega), q_keyAt hq hW hM hdp hk hB hL hR, zC1_some, zLr, l_pk7 (keyS_lt hW hM hk), n_add1]
      exact this
    · have e : pk7 (fun j => if 9 + j < b 3 then keyS b (9 + j) ms else 0) A (k + 1) = pk7 (fun j => if 9 + j < b 3 then keyS b (9 + j) ms else 0) A k * 128 + 0 := by
        show pk7 _ A k * 128 + (if 9 + k < b 3 then keyS b (9 + k) ms else 0) = _
        rw [if_neg hk]
      rw [e] at this
      rw [if_neg (by rw [n_lt (by omega) (by omega)]; exact hk), zLr, l_pk7 (by omega), n_add1]
      exact this
theorem q_highKey_8 (hq : zkd q = (10, 0)) (hW : Wf b) {ms : Nat → Nat} (hM : MV b ms) {dp L : Nat} (hdp : dp < 17) (hB : BRep b q M) (hL : SRl b M) (hP : SPl b M) (hR : SRw dp ms M) : ∀ n p, p + n = 16 → h_S_highKey_8 (d + 2) q (nI dp) (nJ (pk1 (fun p => decide (p < openN b) && decide (popc (ms (opA b p)) = 1)) L p)) (nI p) M = some (some (.long (nJ (higN b ms L))), M) := by
  intro n
  have h16 := hW.2.2.2.2.1
  induction n with
  | zero =>
    intro p h
    refine e_S_highKey_8 hq ?_
    rw [if_neg (by rw [n_lt (by omega) (by omega)]; omega), show p = 16 by omega]
    exact q_highKey_78 (d := d) hq hW hM hdp hB hL hR 3 0 (by omega)
  | succ n ih =>
    intro p h
    have ih1 := ih (p + 1) (by omega)
    have e : pk1 (fun p => decide (p < openN b) && decide (popc (ms (opA b p)) = 1)) L (p + 1) = pk1 (fun p => decide (p < openN b) && decide (popc (ms (opA b p)) = 1)) L p * 2 + (bif decide (p < openN b) && decide (popc (ms (opA b p)) = 1) then 1 else 0) := rfl
    rw [e] at ih1
    refine e_S_highKey_8 hq ?_
    rw [if_pos ((n_lt (by omega) (by omega)).mpr (by omega)), hP.1]
    by_cases hp : p < openN b
    · obtain ⟨o1, o2⟩ := opA_mem hp
      have hm := mv_lt hM hW.1.2.2.1 o1
      have hpl := popc_le (ms (opA b p))
      rw [decide_eq_true hp, Bool.true_and] at ih1
      rw [if_pos ((n_lt (by omega) (by omega)).mpr hp), if_pos ((n_zin (by omega)).mpr hdp), if_pos ((n_zin (by omega)).mpr (by omega)), n_clamp (by omega), n_clamp (by omega), hP.2 p hp, if_pos ((n_zin (by omega)).mpr o1), n_clamp (by omega), hR _ o1, q_bitI (by omega), zC1_some]
      by_cases h1 : popc (ms (opA b p)) = 1
      · rw [decide_eq_true h1, cond_true] at ih1
        rw [h1, if_pos rfl, zLr, l_pk1 (by omega), n_add1]
        exact ih1
      · rw [decide_eq_false h1, cond_false] at ih1
        rw [if_neg (by rw [n_eq (by omega) (by omega)]; exact h1), zLr, l_pk1 (by omega), n_add1]
        exact ih1
    · rw [decide_eq_false hp, Bool.false_and, cond_false] at ih1
      rw [if_neg (by rw [n_lt (by omega) (by omega)]; exact hp), zLr, l_pk1 (by omega), n_add1]
      exact ih1
theorem q_highKey (hq : zkd q = (10, 0)) (hW : Wf b) {ms : Nat → Nat} (hM : MV b ms) {dp L : Nat} (hdp : dp < 17) (hB : BRep b q M) (hL : SRl b M) (hP : SPl b M) (hR : SRw dp ms M) (h10 : M.2 411 11 = nJ L) : zEv (d + 3) zmS_highKey [.ref 411, .ref q, .int (nI dp)] M = some (some (.long (nJ (higN b ms L))), M) := by
  refine e_S_highKey hq ?_
  rw [h10]
  exact q_highKey_8 (d := d) hq hW hM hdp hB hL hP hR 16 0 (by omega)
theorem q_tightest_10 (hW : Wf b) {ms : Nat → Nat} (hM : MV b ms) {dp : Nat} (hdp : dp < 17) (hP : SPl b M) (hS : SBd b M) (hR : SRw dp ms M) : ∀ n p (x2 x3 x4 : Int32), p + n = openN b → ((x2 = -1 ∧ ∀ p', p' < p → popc (ms (opA b p')) ≤ 1 ∨ bnM b (opA b p') = 0) ∨ ∃ c, x2 = nI c ∧ isO b c = true ∧ 1 < popc (ms c) ∧ bnM b c ≠ 0) → ∃ v, h_S_tightest_10 (d + 1) (nI dp) x2 x3 x4 (nI p) M = some (some (.int v), M) ∧ ((v = -1 ∧ ∀ p', p' < openN b → popc (ms (opA b p')) ≤ 1 ∨ bnM b (opA b p') = 0) ∨ ∃ c, v = nI c ∧ isO b c = true ∧ 1 < popc (ms c) ∧ bnM b c ≠ 0) := by
  intro n
  have h16 := hW.2.2.2.2.1
  have h12 := hW.1.2.2.2
  induction n with
  | zero =>
    intro p x2 x3 x4 h hx
    refine ⟨x2, e_S_tightest_10 ?_, ?_⟩
    · rw [hP.1, if_neg (by rw [n_lt (by omega) (by omega)]; omega)]
    · rw [show openN b = p by omega]
      exact hx
  | succ n ih =>
    intro p x2 x3 x4 h hx
    have hp : p < openN b := by omega
    obtain ⟨o1, o2⟩ := opA_mem hp
    have hm := mv_lt hM hW.1.2.2.1 o1
    have hpl := popc_le (ms (opA b p))
    have hbn : bnM b (opA b p) < 4096 := msk_lt12 h12 _
    have hbl := popc_le (bnM b (opA b p))
    have head : ∀ rr, (if nI 1 < nI (popc (ms (opA b p))) then (if nI 0 < nI (popc (bnM b (opA b p))) then (if x2 = (-1 : Int32) then h_S_tightest_10 (d + 1) (nI dp) (nI (opA b p)) (nI (popc (ms (opA b p)))) (nI (popc (bnM b (opA b p)))) (nI (p + 1)) M else (if nI (popc (ms (opA b p))) * x4 < x3 * nI (popc (bnM b (opA b p))) then h_S_tightest_10 (d + 1) (nI dp) (nI (opA b p)) (nI (popc (ms (opA b p)))) (nI (popc (bnM b (opA b p)))) (nI (p + 1)) M else h_S_tightest_10 (d + 1) (nI dp) x2 x3 x4 (nI (p + 1)) M)) else h_S_tightest_10 (d + 1) (nI dp) x2 x3 x4 (nI (p + 1)) M) else h_S_tightest_10 (d + 1) (nI dp) x2 x3 x4 (nI (p + 1)) M) = some rr → h_S_tightest_10 (d + 1) (nI dp) x2 x3 x4 (nI p) M = some rr := fun rr hrr => by
      refine e_S_tightest_10 ?_
      rw [hP.1, if_pos ((n_lt (by omega) (by omega)).mpr hp), if_pos ((n_zin (by omega)).mpr hdp), if_pos ((n_zin (by omega)).mpr (by omega)), n_clamp (by omega), n_clamp (by omega), hP.2 p hp, if_pos ((n_zin (by omega)).mpr o1), n_clamp (by omega), hR _ o1, q_bitI (by omega), zC1_some, hP.2 p hp, if_pos ((n_zin (by omega)).mpr o1), n_clamp (by omega), hS _ o1, q_bitI hbn, zC1_some, n_add1, hP.2 p hp]
      exact hrr
    have keep : (popc (ms (opA b p)) ≤ 1 ∨ bnM b (opA b p) = 0) → ((x2 = -1 ∧ ∀ p', p' < p + 1 → popc (ms (opA b p')) ≤ 1 ∨ bnM b (opA b p') = 0) ∨ ∃ c, x2 = nI c ∧ isO b c = true ∧ 1 < popc (ms c) ∧ bnM b c ≠ 0) := fun hh => by
      rcases hx with ⟨u, v⟩ | hx
      · left
        refine ⟨u, fun p' hp' => ?_⟩
        by_cases e : p' = p
        · rw [e]; exact hh
        · exact v p' (by omega)
      · exact Or.inr hx
    by_cases h1 : 1 < popc (ms (opA b p))
    · have new : 0 < popc (bnM b (opA b p)) → ((nI (opA b p) = -1 ∧ ∀ p', p' < p + 1 → popc (ms (opA b p')) ≤ 1 ∨ bnM b (opA b p') = 0) ∨ ∃ c, nI (opA b p) = nI c ∧ isO b c = true ∧ 1 < popc (ms c) ∧ bnM b c ≠ 0) := fun h2 => Or.inr ⟨_, rfl, o2, h1, fun z => by rw [z] at h2; exact absurd h2 (by decide +kernel)⟩
      by_cases h2 : 0 < popc (bnM b (opA b p))
      · by_cases h3 : x2 = -1
        · obtain ⟨v, a1, a2⟩ := ih (p + 1) (nI (opA b p)) (nI (popc (ms (opA b p)))) (nI (popc (bnM b (opA b p)))) (by omega) (new h2)
          refine ⟨v, head _ ?_, a2⟩
          rw [if_pos ((n_lt (by omega) (by omega)).mpr h1), if_pos ((n_lt (by omega) (by omega)).mpr h2), if_pos h3]
          exact a1
        · have hx' : ∃ c, x2 = nI c ∧ isO b c = true ∧ 1 < popc (ms c) ∧ bnM b c ≠ 0 := by
            rcases hx with ⟨u, _⟩ | hx
            · exact absurd u h3
            · exact hx
          by_cases h4 : nI (popc (ms (opA b p))) * x4 < x3 * nI (popc (bnM b (opA b p)))
          · obtain ⟨v, a1, a2⟩ := ih (p + 1) (nI (opA b p)) (nI (popc (ms (opA b p)))) (nI (popc (bnM b (opA b p)))) (by omega) (new h2)
            refine ⟨v, head _ ?_, a2⟩
            rw [if_pos ((n_lt (by omega) (by omega)).mpr h1), if_pos ((n_lt (by omega) (by omega)).mpr h2), if_neg h3, if_pos h4]
            exact a1
          · obtain ⟨v, a1, a2⟩ := ih (p + 1) x2 x3 x4 (by omega) (Or.inr hx')
            refine ⟨v, head _ ?_, a2⟩
            rw [if_pos ((n_lt (by omega) (by omega)).mpr h1), if_pos ((n_lt (by omega) (by omega)).mpr h2), if_neg h3, if_neg h4]
            exact a1
      · have hb0 : bnM b (opA b p) = 0 := by
          apply Nat.eq_of_testBit_eq
          intro z
          rw [Nat.zero_testBit]
          cases hz : (bnM b (opA b p)).testBit z with
          | false => rfl
          | true =>
            exfalso
            have hz32 : z < 32 := by
              have : 2 ^ z ≤ bnM b (opA b p) := Nat.ge_two_pow_of_testBit hz
              by_cases e : z < 32
              · exact e
              · have : 2 ^ 32 ≤ 2 ^ z := Nat.pow_le_pow_right (by omega) (by omega)
                omega
            exact h2 (List.countP_pos_iff.mpr ⟨z, List.mem_range.mpr hz32, hz⟩)
        obtain ⟨v, a1, a2⟩ := ih (p + 1) x2 x3 x4 (by omega) (keep (Or.inr hb0))
        refine ⟨v, head _ ?_, a2⟩
        rw [if_pos ((n_lt (by omega) (by omega)).mpr h1), if_neg (by rw [n_lt (by omega) (by omega)]; exact h2)]
        exact a1
    · obtain ⟨v, a1, a2⟩ := ih (p + 1) x2 x3 x4 (by omega) (keep (Or.inl (by omega)))
      refine ⟨v, head _ ?_, a2⟩
      rw [if_neg (by rw [n_lt (by omega) (by omega)]; exact h1)]
      exact a1
theorem q_tightest (hW : Wf b) {ms : Nat → Nat} (hM : MV b ms) {dp : Nat} (hdp : dp < 17) (hP : SPl b M) (hS : SBd b M) (hR : SRw dp ms M) : ∃ v, zEv (d + 2) zmS_tightest [.ref 411, .int (nI dp)] M = some (some (.int v), M) ∧ ((v = -1 ∧ ∀ p', p' < openN b → popc (ms (opA b p')) ≤ 1 ∨ bnM b (opA b p') = 0) ∨ ∃ c, v = nI c ∧ isO b c = true ∧ 1 < popc (ms c) ∧ bnM b c ≠ 0) := by
  obtain ⟨v, a1, a2⟩ := q_tightest_10 (d := d) hW hM hdp hP hS hR (openN b) 0 (-1) (nI 0) (nI 0) (by omega) (Or.inl ⟨rfl, fun p hp => absurd hp (Nat.not_lt_zero p)⟩)
  exact ⟨v, e_S_tightest a1, a2⟩
theorem q_firstUnsure_2 (hW : Wf b) {ms : Nat → Nat} (hM : MV b ms) {dp : Nat} (hdp : dp < 17) (hP : SPl b M) (hR : SRw dp ms M) : ∀ n p, p + n = openN b → (∀ p', p' < p → popc (ms (opA b p')) ≤ 1) → ∃ v, h_S_firstUnsure_2 (d + 1) (nI dp) (nI p) M = some (some (.int v), M) ∧ ((v = -1 ∧ ∀ p', p' < openN b → popc (ms (opA b p')) ≤ 1) ∨ ∃ r, v = nI (opA b r) ∧ r < openN b ∧ 1 < popc (ms (opA b r)) ∧ ∀ p', p' < r → popc (ms (opA b p')) ≤ 1) := by
  intro n
  have h16 := hW.2.2.2.2.1
  induction n with
  | zero =>
    intro p h hx
    refine ⟨-1, e_S_firstUnsure_2 ?_, Or.inl ⟨rfl, fun p' hp' => hx p' (by omega)⟩⟩
    rw [hP.1, if_neg (by rw [n_lt (by omega) (by omega)]; omega)]
  | succ n ih =>
    intro p h hx
    have hp : p < openN b := by omega
    obtain ⟨o1, o2⟩ := opA_mem hp
    have hm := mv_lt hM hW.1.2.2.1 o1
    have hpl := popc_le (ms (opA b p))
    have head : ∀ rr, (if nI 1 < nI (popc (ms (opA b p))) then some (some (.int (nI (opA b p))), M) else h_S_firstUnsure_2 (d + 1) (nI dp) (nI (p + 1)) M) = some rr → h_S_firstUnsure_2 (d + 1) (nI dp) (nI p) M = some rr := fun rr hrr => by
      refine e_S_firstUnsure_2 ?_
      rw [hP.1, if_pos ((n_lt (by omega) (by omega)).mpr hp), if_pos ((n_zin (by omega)).mpr hdp), if_pos ((n_zin (by omega)).mpr (by omega)), n_clamp (by omega), n_clamp (by omega), hP.2 p hp, if_pos ((n_zin (by omega)).mpr o1), n_clamp (by omega), hR _ o1, q_bitI (by omega), zC1_some, hP.2 p hp, n_add1]
      exact hrr
    by_cases h1 : 1 < popc (ms (opA b p))
    · refine ⟨nI (opA b p), head _ ?_, Or.inr ⟨p, rfl, hp, h1, hx⟩⟩
      rw [if_pos ((n_lt (by omega) (by omega)).mpr h1)]
    · obtain ⟨v, a1, a2⟩ := ih (p + 1) (by omega) (fun p' hp' => by
        by_cases e : p' = p
        · rw [e]; omega
        · exact hx p' (by omega))
      refine ⟨v, head _ ?_, a2⟩
      rw [if_neg (by rw [n_lt (by omega) (by omega)]; exact h1)]
      exact a1
theorem q_firstUnsure (hW : Wf b) {ms : Nat → Nat} (hM : MV b ms) {dp : Nat} (hdp : dp < 17) (hP : SPl b M) (hR : SRw dp ms M) : ∃ v, zEv (d + 2) zmS_firstUnsure [.ref 411, .int (nI dp)] M = some (some (.int v), M) ∧ ((v = -1 ∧ ∀ p', p' < openN b → popc (ms (opA b p')) ≤ 1) ∨ ∃ r, v = nI (opA b r) ∧ r < openN b ∧ 1 < popc (ms (opA b r)) ∧ ∀ p', p' < r → popc (ms (opA b p')) ≤ 1) := by
  obtain ⟨v, a1, a2⟩ := q_firstUnsure_2 (d := d) hW hM hdp hP hR (openN b) 0 (by omega) (fun p hp => absurd hp (Nat.not_lt_zero p))
  exact ⟨v, e_S_firstUnsure a1, a2⟩
theorem q_enter {ms : Nat → Nat} {dp c x : Nat} (hdp : dp < 16) (hc : c < 36) (hx : x < 8) (hm : ms c < 256) (hR : SRw dp ms M) : ((ms c).testBit x = false → zEv (d + 1) zmS_enter [.ref 411, .int (nI dp), .int (nI c), .int (nI x)] M = some (some (.int (nI 0)), M)) ∧ ((ms c).testBit x = true → ∃ M', zEv (d + 1) zmS_enter [.ref 411, .int (nI dp), .int (nI c), .int (nI x)] M = some (some (.int (nI 1)), M') ∧ SRw (dp + 1) (um ms c (2 ^ x)) M' ∧ frI (pRw (dp + 1)) M M') := by
  have head : ∀ rr, (if (nI (ms c) >>> (nI x &&& 31)) &&& nI 1 = nI 0 then some (some (.int (nI 0)), M) else some (some (.int (nI 1)), zpi (zsi M (547 + (dp + 1)) (va_cpy (M.1 (547 + dp)) (M.1 (547 + (dp + 1))) 0 0 36)) (547 + (dp + 1)) c (nI (2 ^ x)))) = some rr → zEv (d + 1) zmS_enter [.ref 411, .int (nI dp), .int (nI c), .int (nI x)] M = some rr := fun rr hrr => by
    refine e_S_enter ?_
    rw [if_pos ((n_zin (by omega)).mpr (by omega)), if_pos ((n_zin (by omega)).mpr hc), n_clamp (by omega), n_clamp (by omega), hR c hc, n_add1, if_pos (c := zin (nI (dp + 1)) 17 = true) ((n_zin (by omega)).mpr (by omega)), n_clamp (by omega), if_pos (c := 547 + dp ≠ 547 + (dp + 1)) (by omega), zLr, n_one (by omega)]
    exact hrr
  have hb := n_bit0 (m := ms c) (d := x) (by omega) (by omega)
  constructor
  · intro h
    refine head _ ?_
    rw [if_pos (hb.mpr h)]
  · intro h
    refine ⟨_, head _ (by rw [if_neg fun z => by rw [hb.mp z] at h; cases h]), fun y hy => ?_, ?_⟩
    · rw [m_pi]
      by_cases e : y = c
      · rw [if_pos ⟨rfl, e⟩, e, um_at]
      · rw [if_neg fun z => e z.2, m_six, if_pos rfl, cpy0, if_pos hy, um_ne e]
        exact hR y hy
    · exact (fr.refl.si (fun k => rfl)).pi rfl
end QK2
