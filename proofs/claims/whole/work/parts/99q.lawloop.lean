/-! BOTH SIDES, 3: the law's loop -/
theorem lgc_self (v : Int64) : lg_cmp v v = nI 0 := by
  have h : ¬ v < v := by
    intro h
    have := Int64.lt_iff_toInt_lt.mp h
    omega
  unfold lg_cmp
  rw [if_neg (show ¬ v > v from h), if_pos rfl]
  rfl
theorem loop_end {L i : Nat} (hL : L ≤ 3072) (hi : i ≤ L) : (nI L - nI 6 < nI i) ↔ L < i + 6 := by
  have e : nI L - nI 6 = Int32.ofInt ((L : Int) - 6) := by
    rw [Int32.ofInt_sub, oI_nat]
    rfl
  rw [e, Int32.lt_iff_toInt_lt, Int32.toInt_ofInt_of_le (by omega) (by omega), n_toInt (by omega)]
  omega

theorem zv_le {n : Nat} {M : ZM} (h : ZV n M) : ZV (n + 40) M := by
  obtain ⟨b, U, K, tp, hC, hM⟩ := h
  exact ⟨b, U, K, tp, cs_le hC (Nat.le_add_right n 40), hM⟩
theorem law_loop {L : Nat} (hL : L ≤ 3072) : ∀ t i n M, i ≤ L → L < i + 6 * (t + 1) → n + 40 * t + 40 < 1048576 → M.1 63 0 = nI L → ZV n M → ∃ M', h_X_law_18 64 (nI i) M = some (some (.int (nI 1)), M') := by
  intro t
  induction t with
  | zero =>
    intro i n M hi ht hn hs hV
    refine ⟨M, e_X_law_18 ?_⟩
    rw [hs, if_pos ((loop_end hL hi).mpr (by omega))]
  | succ t ih =>
    intro i n M hi ht hn hs hV
    by_cases hend : L < i + 6
    · refine ⟨M, e_X_law_18 ?_⟩
      rw [hs, if_pos ((loop_end hL hi).mpr hend)]
    · have z0 : zin (nI i) (M.1 63 0).toNatClampNeg = true := by rw [hs, n_clamp (by omega)]; exact (n_zin (by omega)).mpr (by omega)
      have zz : ∀ j, j ≤ 5 → zin (nI i + nI j) (M.1 63 0).toNatClampNeg = true := fun j hj => by rw [hs, n_clamp (by omega), n_add]; exact (n_zin (by omega)).mpr (by omega)
      have z1 := zz 1 (by omega)
      have z2 := zz 2 (by omega)
      have z3 := zz 3 (by omega)
      have z4 := zz 4 (by omega)
      have z5 := zz 5 (by omega)
      have e0 : ¬ (M.1 63 0 - nI 6 < nI i) := by rw [hs, loop_end hL hi]; omega
      have go : ∀ M2 : ZM, lo M M2 → ZV (n + 40) M2 → ∃ M', h_X_law_18 64 (nI i + nI 6) M2 = some (some (.int (nI 1)), M') := fun M2 l v => by
        rw [n_add]
        exact ih (i + 6) (n + 40) M2 (by omega) (by omega) (by omega) (by rw [l 63 (by omega)]; exact hs) v
      clear zz ih

      by_cases g0 : (M.1 0 (Int32.toNatClampNeg (nI i))) &&& nI 63 = nI 0
      · obtain ⟨v, M1, M2, ⟨a1, l1⟩, ⟨a2, l2⟩, hv⟩ := u_feed hV (M.1 0 (Int32.toNatClampNeg (nI i + nI 1))) (M.1 0 (Int32.toNatClampNeg (nI i + nI 2))) (M.1 0 (Int32.toNatClampNeg (nI i + nI 3))) (M.1 0 (Int32.toNatClampNeg (nI i + nI 4))) (M.1 0 (Int32.toNatClampNeg (nI i + nI 5)))
        obtain ⟨M', hM'⟩ := go M2 l2 hv
        refine ⟨M', e_X_law_18 ?_⟩
        rw [if_neg e0, if_pos z0, if_pos g0, if_pos z1, if_pos z2, if_pos z3, if_pos z4, if_pos z5, a1, zC1_some, l1 63 (by omega), l1 0 (by omega), if_pos z1, if_pos z2, if_pos z3, if_pos z4, if_pos z5, a2, zC1_some, if_pos rfl]
        exact hM'
      by_cases g1 : (M.1 0 (Int32.toNatClampNeg (nI i))) &&& nI 63 = nI 1
      · obtain ⟨v, M1, M2, ⟨a1, l1⟩, ⟨a2, l2⟩, hv⟩ := u_end hV (M.1 0 (Int32.toNatClampNeg (nI i + nI 1)))
        obtain ⟨M', hM'⟩ := go M2 l2 hv
        refine ⟨M', e_X_law_18 ?_⟩
        rw [if_neg e0, if_pos z0, if_neg g0, if_pos g1, if_pos z1, a1, zC1_some, l1 63 (by omega), l1 0 (by omega), if_pos z1, a2, zC1_some, if_pos rfl]
        exact hM'
      by_cases g2 : (M.1 0 (Int32.toNatClampNeg (nI i))) &&& nI 63 = nI 2
      · obtain ⟨v, M1, M2, ⟨a1, l1⟩, ⟨a2, l2⟩, hv⟩ := u_tell hV 
        obtain ⟨M', hM'⟩ := go M2 l2 hv
        refine ⟨M', e_X_law_18 ?_⟩
        rw [if_neg e0, if_pos z0, if_neg g0, if_neg g1, if_pos g2, a1, zC1_some, a2, zC1_some, if_pos rfl]
        exact hM'
      by_cases g3 : (M.1 0 (Int32.toNatClampNeg (nI i))) &&& nI 63 = nI 3
      · obtain ⟨v, M1, M2, ⟨a1, l1⟩, ⟨a2, l2⟩, hv⟩ := u_put hV (M.1 0 (Int32.toNatClampNeg (nI i + nI 1))) (M.1 0 (Int32.toNatClampNeg (nI i + nI 2)))
        obtain ⟨M', hM'⟩ := go M2 l2 hv
        refine ⟨M', e_X_law_18 ?_⟩
        rw [if_neg e0, if_pos z0, if_neg g0, if_neg g1, if_neg g2, if_pos g3, if_pos z1, if_pos z2, a1, zC1_some, l1 63 (by omega), l1 0 (by omega), if_pos z1, if_pos z2, a2, zC1_some, if_pos rfl]
        exact hM'
      by_cases g4 : (M.1 0 (Int32.toNatClampNeg (nI i))) &&& nI 63 = nI 4
      · obtain ⟨v, M1, M2, ⟨a1, l1⟩, ⟨a2, l2⟩, hv⟩ := u_lift hV (M.1 0 (Int32.toNatClampNeg (nI i + nI 1)))
        obtain ⟨M', hM'⟩ := go M2 l2 hv
        refine ⟨M', e_X_law_18 ?_⟩
        rw [if_neg e0, if_pos z0, if_neg g0, if_neg g1, if_neg g2, if_neg g3, if_pos g4, if_pos z1, a1, zC1_some, l1 63 (by omega), l1 0 (by omega), if_pos z1, a2, zC1_some, if_pos rfl]
        exact hM'
      by_cases g5 : (M.1 0 (Int32.toNatClampNeg (nI i))) &&& nI 63 = nI 5
      · obtain ⟨v, M1, M2, ⟨a1, l1⟩, ⟨a2, l2⟩, hv⟩ := u_strike hV (M.1 0 (Int32.toNatClampNeg (nI i + nI 1))) (M.1 0 (Int32.toNatClampNeg (nI i + nI 2)))
        obtain ⟨M', hM'⟩ := go M2 l2 hv
        refine ⟨M', e_X_law_18 ?_⟩
        rw [if_neg e0, if_pos z0, if_neg g0, if_neg g1, if_neg g2, if_neg g3, if_neg g4, if_pos g5, if_pos z1, if_pos z2, a1, zC1_some, l1 63 (by omega), l1 0 (by omega), if_pos z1, if_pos z2, a2, zC1_some, if_pos rfl]
        exact hM'
      by_cases g6 : (M.1 0 (Int32.toNatClampNeg (nI i))) &&& nI 63 = nI 6
      · obtain ⟨v, M1, M2, ⟨a1, l1⟩, ⟨a2, l2⟩, hv⟩ := u_give hV (M.1 0 (Int32.toNatClampNeg (nI i + nI 1))) (M.1 0 (Int32.toNatClampNeg (nI i + nI 2)))
        obtain ⟨M', hM'⟩ := go M2 l2 hv
        refine ⟨M', e_X_law_18 ?_⟩
        rw [if_neg e0, if_pos z0, if_neg g0, if_neg g1, if_neg g2, if_neg g3, if_neg g4, if_neg g5, if_pos g6, if_pos z1, if_pos z2, a1, zC1_some, l1 63 (by omega), l1 0 (by omega), if_pos z1, if_pos z2, a2, zC1_some, if_pos rfl]
        exact hM'
      by_cases g7 : (M.1 0 (Int32.toNatClampNeg (nI i))) &&& nI 63 = nI 7
      · obtain ⟨v, M1, M2, ⟨a1, l1⟩, ⟨a2, l2⟩, hv⟩ := u_total hV (M.1 0 (Int32.toNatClampNeg (nI i + nI 1))) (M.1 0 (Int32.toNatClampNeg (nI i + nI 2)))
        obtain ⟨M', hM'⟩ := go M2 l2 hv
        refine ⟨M', e_X_law_18 ?_⟩
        rw [if_neg e0, if_pos z0, if_neg g0, if_neg g1, if_neg g2, if_neg g3, if_neg g4, if_neg g5, if_neg g6, if_pos g7, if_pos z1, if_pos z2, a1, zC1_some, l1 63 (by omega), l1 0 (by omega), if_pos z1, if_pos z2, a2, zC1_some, if_pos rfl]
        exact hM'
      by_cases g8 : (M.1 0 (Int32.toNatClampNeg (nI i))) &&& nI 63 = nI 8
      · obtain ⟨v, M1, M2, ⟨a1, l1⟩, ⟨a2, l2⟩, hv⟩ := u_step hV 
        obtain ⟨M', hM'⟩ := go M2 l2 hv
        refine ⟨M', e_X_law_18 ?_⟩
        rw [if_neg e0, if_pos z0, if_neg g0, if_neg g1, if_neg g2, if_neg g3, if_neg g4, if_neg g5, if_neg g6, if_neg g7, if_pos g8, a1, zC1_some, a2, zC1_some, if_pos rfl]
        exact hM'
      by_cases g9 : (M.1 0 (Int32.toNatClampNeg (nI i))) &&& nI 63 = nI 9
      · obtain ⟨v, M1, M2, ⟨a1, l1⟩, ⟨a2, l2⟩, hv⟩ := u_run hV 
        obtain ⟨M', hM'⟩ := go M2 l2 hv
        refine ⟨M', e_X_law_18 ?_⟩
        rw [if_neg e0, if_pos z0, if_neg g0, if_neg g1, if_neg g2, if_neg g3, if_neg g4, if_neg g5, if_neg g6, if_neg g7, if_neg g8, if_pos g9, a1, zC1_some, a2, zC1_some, if_pos rfl]
        exact hM'
      by_cases g10 : (M.1 0 (Int32.toNatClampNeg (nI i))) &&& nI 63 = nI 10
      · obtain ⟨v, M1, M2, ⟨a1, l1⟩, ⟨a2, l2⟩, hv⟩ := u_make hV (by omega) (M.1 0 (Int32.toNatClampNeg (nI i + nI 1)))
        obtain ⟨M', hM'⟩ := go M2 l2 hv
        refine ⟨M', e_X_law_18 ?_⟩
        rw [if_neg e0, if_pos z0, if_neg g0, if_neg g1, if_neg g2, if_neg g3, if_neg g4, if_neg g5, if_neg g6, if_neg g7, if_neg g8, if_neg g9, if_pos g10, if_pos z1, a1, zC1_some, l1 63 (by omega), l1 0 (by omega), if_pos z1, a2, zC1_some, if_pos rfl]
        exact hM'
      by_cases g11 : (M.1 0 (Int32.toNatClampNeg (nI i))) &&& nI 63 = nI 11
      · obtain ⟨v, M1, M2, ⟨a1, l1⟩, ⟨a2, l2⟩, hv⟩ := u_undo hV 
        obtain ⟨M', hM'⟩ := go M2 l2 hv
        refine ⟨M', e_X_law_18 ?_⟩
        rw [if_neg e0, if_pos z0, if_neg g0, if_neg g1, if_neg g2, if_neg g3, if_neg g4, if_neg g5, if_neg g6, if_neg g7, if_neg g8, if_neg g9, if_neg g10, if_pos g11, a1, zC1_some, a2, zC1_some, if_pos rfl]
        exact hM'
      by_cases g12 : (M.1 0 (Int32.toNatClampNeg (nI i))) &&& nI 63 = nI 12
      · obtain ⟨v, M1, M2, ⟨a1, l1⟩, ⟨a2, l2⟩, hv⟩ := u_keep hV (M.1 0 (Int32.toNatClampNeg (nI i + nI 1)))
        obtain ⟨M', hM'⟩ := go M2 l2 hv
        refine ⟨M', e_X_law_18 ?_⟩
        rw [if_neg e0, if_pos z0, if_neg g0, if_neg g1, if_neg g2, if_neg g3, if_neg g4, if_neg g5, if_neg g6, if_neg g7, if_neg g8, if_neg g9, if_neg g10, if_neg g11, if_pos g12, if_pos z1, a1, zC1_some, l1 63 (by omega), l1 0 (by omega), if_pos z1, a2, zC1_some, if_pos rfl]
        exact hM'
      by_cases g13 : (M.1 0 (Int32.toNatClampNeg (nI i))) &&& nI 63 = nI 13
      · obtain ⟨v, M1, M2, ⟨a1, l1⟩, ⟨a2, l2⟩, hv⟩ := u_back hV (M.1 0 (Int32.toNatClampNeg (nI i + nI 1)))
        obtain ⟨M', hM'⟩ := go M2 l2 hv
        refine ⟨M', e_X_law_18 ?_⟩
        rw [if_neg e0, if_pos z0, if_neg g0, if_neg g1, if_neg g2, if_neg g3, if_neg g4, if_neg g5, if_neg g6, if_neg g7, if_neg g8, if_neg g9, if_neg g10, if_neg g11, if_neg g12, if_pos g13, if_pos z1, a1, zC1_some, l1 63 (by omega), l1 0 (by omega), if_pos z1, a2, zC1_some, if_pos rfl]
        exact hM'
      by_cases g14 : (M.1 0 (Int32.toNatClampNeg (nI i))) &&& nI 63 = nI 14
      · obtain ⟨v, M1, M2, ⟨a1, l1⟩, ⟨a2, l2⟩, hv⟩ := u_cell hV (M.1 0 (Int32.toNatClampNeg (nI i + nI 1))) (M.1 0 (Int32.toNatClampNeg (nI i + nI 2)))
        obtain ⟨M', hM'⟩ := go M2 l2 hv
        refine ⟨M', e_X_law_18 ?_⟩
        rw [if_neg e0, if_pos z0, if_neg g0, if_neg g1, if_neg g2, if_neg g3, if_neg g4, if_neg g5, if_neg g6, if_neg g7, if_neg g8, if_neg g9, if_neg g10, if_neg g11, if_neg g12, if_neg g13, if_pos g14, if_pos z1, if_pos z2, a1, zC1_some, l1 63 (by omega), l1 0 (by omega), if_pos z1, if_pos z2, a2, zC1_some, if_pos rfl]
        exact hM'
      by_cases g15 : (M.1 0 (Int32.toNatClampNeg (nI i))) &&& nI 63 = nI 15
      · obtain ⟨v, M1, M2, ⟨a1, l1⟩, ⟨a2, l2⟩, hv⟩ := u_cage hV (M.1 0 (Int32.toNatClampNeg (nI i + nI 1))) (M.1 0 (Int32.toNatClampNeg (nI i + nI 2)))
        obtain ⟨M', hM'⟩ := go M2 l2 hv
        refine ⟨M', e_X_law_18 ?_⟩
        rw [if_neg e0, if_pos z0, if_neg g0, if_neg g1, if_neg g2, if_neg g3, if_neg g4, if_neg g5, if_neg g6, if_neg g7, if_neg g8, if_neg g9, if_neg g10, if_neg g11, if_neg g12, if_neg g13, if_neg g14, if_pos g15, if_pos z1, if_pos z2, a1, zC1_some, l1 63 (by omega), l1 0 (by omega), if_pos z1, if_pos z2, a2, zC1_some, if_pos rfl]
        exact hM'
      by_cases g16 : (M.1 0 (Int32.toNatClampNeg (nI i))) &&& nI 63 = nI 16
      · obtain ⟨v, M1, M2, ⟨a1, l1⟩, ⟨a2, l2⟩, hv⟩ := u_has hV (M.1 0 (Int32.toNatClampNeg (nI i + nI 1))) (M.1 0 (Int32.toNatClampNeg (nI i + nI 2)))
        obtain ⟨M', hM'⟩ := go M2 l2 hv
        refine ⟨M', e_X_law_18 ?_⟩
        rw [if_neg e0, if_pos z0, if_neg g0, if_neg g1, if_neg g2, if_neg g3, if_neg g4, if_neg g5, if_neg g6, if_neg g7, if_neg g8, if_neg g9, if_neg g10, if_neg g11, if_neg g12, if_neg g13, if_neg g14, if_neg g15, if_pos g16, if_pos z1, if_pos z2, a1, zC1_some, l1 63 (by omega), l1 0 (by omega), if_pos z1, if_pos z2, a2, zC1_some, if_pos rfl]
        exact hM'
      by_cases g17 : (M.1 0 (Int32.toNatClampNeg (nI i))) &&& nI 63 = nI 17
      · obtain ⟨v, M1, M2, ⟨a1, l1⟩, ⟨a2, l2⟩, hv⟩ := u_could hV (M.1 0 (Int32.toNatClampNeg (nI i + nI 1))) (M.1 0 (Int32.toNatClampNeg (nI i + nI 2)))
        obtain ⟨M', hM'⟩ := go M2 l2 hv
        refine ⟨M', e_X_law_18 ?_⟩
        rw [if_neg e0, if_pos z0, if_neg g0, if_neg g1, if_neg g2, if_neg g3, if_neg g4, if_neg g5, if_neg g6, if_neg g7, if_neg g8, if_neg g9, if_neg g10, if_neg g11, if_neg g12, if_neg g13, if_neg g14, if_neg g15, if_neg g16, if_pos g17, if_pos z1, if_pos z2, a1, zC1_some, l1 63 (by omega), l1 0 (by omega), if_pos z1, if_pos z2, a2, zC1_some, if_pos rfl]
        exact hM'
      by_cases g18 : (M.1 0 (Int32.toNatClampNeg (nI i))) &&& nI 63 = nI 18
      · obtain ⟨v, M1, M2, ⟨a1, l1⟩, ⟨a2, l2⟩, hv⟩ := u_must hV (M.1 0 (Int32.toNatClampNeg (nI i + nI 1)))
        obtain ⟨M', hM'⟩ := go M2 l2 hv
        refine ⟨M', e_X_law_18 ?_⟩
        rw [if_neg e0, if_pos z0, if_neg g0, if_neg g1, if_neg g2, if_neg g3, if_neg g4, if_neg g5, if_neg g6, if_neg g7, if_neg g8, if_neg g9, if_neg g10, if_neg g11, if_neg g12, if_neg g13, if_neg g14, if_neg g15, if_neg g16, if_neg g17, if_pos g18, if_pos z1, a1, zC1_some, l1 63 (by omega), l1 0 (by omega), if_pos z1, a2, zC1_some, if_pos rfl]
        exact hM'
      by_cases g19 : (M.1 0 (Int32.toNatClampNeg (nI i))) &&& nI 63 = nI 19
      · obtain ⟨v, M1, M2, ⟨a1, l1⟩, ⟨a2, l2⟩, hv⟩ := u_sets hV (M.1 0 (Int32.toNatClampNeg (nI i + nI 1))) (M.1 0 (Int32.toNatClampNeg (nI i + nI 2)))
        obtain ⟨M', hM'⟩ := go M2 l2 hv
        refine ⟨M', e_X_law_18 ?_⟩
        rw [if_neg e0, if_pos z0, if_neg g0, if_neg g1, if_neg g2, if_neg g3, if_neg g4, if_neg g5, if_neg g6, if_neg g7, if_neg g8, if_neg g9, if_neg g10, if_neg g11, if_neg g12, if_neg g13, if_neg g14, if_neg g15, if_neg g16, if_neg g17, if_neg g18, if_pos g19, if_pos z1, if_pos z2, a1, zC1_some, l1 63 (by omega), l1 0 (by omega), if_pos z1, if_pos z2, a2, zC1_some, if_pos rfl]
        exact hM'
      by_cases g20 : (M.1 0 (Int32.toNatClampNeg (nI i))) &&& nI 63 = nI 20
      · obtain ⟨v, M1, M2, ⟨a1, l1⟩, ⟨a2, l2⟩, hv⟩ := u_next hV (M.1 0 (Int32.toNatClampNeg (nI i + nI 1)))
        obtain ⟨M', hM'⟩ := go M2 l2 hv
        refine ⟨M', e_X_law_18 ?_⟩
        rw [if_neg e0, if_pos z0, if_neg g0, if_neg g1, if_neg g2, if_neg g3, if_neg g4, if_neg g5, if_neg g6, if_neg g7, if_neg g8, if_neg g9, if_neg g10, if_neg g11, if_neg g12, if_neg g13, if_neg g14, if_neg g15, if_neg g16, if_neg g17, if_neg g18, if_neg g19, if_pos g20, if_pos z1, a1, zC1_some, l1 63 (by omega), l1 0 (by omega), if_pos z1, a2, zC1_some, if_pos rfl]
        exact hM'
      by_cases g21 : (M.1 0 (Int32.toNatClampNeg (nI i))) &&& nI 63 = nI 21
      · obtain ⟨v, M1, M2, ⟨a1, l1⟩, ⟨a2, l2⟩, hv⟩ := u_weight hV (M.1 0 (Int32.toNatClampNeg (nI i + nI 1)))
        obtain ⟨M', hM'⟩ := go M2 l2 hv
        refine ⟨M', e_X_law_18 ?_⟩
        rw [if_neg e0, if_pos z0, if_neg g0, if_neg g1, if_neg g2, if_neg g3, if_neg g4, if_neg g5, if_neg g6, if_neg g7, if_neg g8, if_neg g9, if_neg g10, if_neg g11, if_neg g12, if_neg g13, if_neg g14, if_neg g15, if_neg g16, if_neg g17, if_neg g18, if_neg g19, if_neg g20, if_pos g21, if_pos z1, a1, zC1_some, l1 63 (by omega), l1 0 (by omega), if_pos z1, a2, zC1_some, if_pos rfl]
        exact hM'
      by_cases g22 : (M.1 0 (Int32.toNatClampNeg (nI i))) &&& nI 63 = nI 22
      · obtain ⟨v, M1, M2, ⟨a1, l1⟩, ⟨a2, l2⟩, hv⟩ := u_solve hV (by omega) (M.1 0 (Int32.toNatClampNeg (nI i + nI 1)))
        obtain ⟨M', hM'⟩ := go M2 l2 hv
        refine ⟨M', e_X_law_18 ?_⟩
        rw [if_neg e0, if_pos z0, if_neg g0, if_neg g1, if_neg g2, if_neg g3, if_neg g4, if_neg g5, if_neg g6, if_neg g7, if_neg g8, if_neg g9, if_neg g10, if_neg g11, if_neg g12, if_neg g13, if_neg g14, if_neg g15, if_neg g16, if_neg g17, if_neg g18, if_neg g19, if_neg g20, if_neg g21, if_pos g22, if_pos z1, a1, zC1_some, l1 63 (by omega), l1 0 (by omega), if_pos z1, a2, zC1_some, if_pos rfl]
        exact hM'
      by_cases g23 : (M.1 0 (Int32.toNatClampNeg (nI i))) &&& nI 63 = nI 23
      · obtain ⟨v, M1, M2, ⟨a1, l1⟩, ⟨a2, l2⟩, hv⟩ := u_solution hV (by omega) (M.1 0 (Int32.toNatClampNeg (nI i + nI 1))) (M.1 0 (Int32.toNatClampNeg (nI i + nI 2)))
        obtain ⟨M', hM'⟩ := go M2 l2 hv
        refine ⟨M', e_X_law_18 ?_⟩
        rw [if_neg e0, if_pos z0, if_neg g0, if_neg g1, if_neg g2, if_neg g3, if_neg g4, if_neg g5, if_neg g6, if_neg g7, if_neg g8, if_neg g9, if_neg g10, if_neg g11, if_neg g12, if_neg g13, if_neg g14, if_neg g15, if_neg g16, if_neg g17, if_neg g18, if_neg g19, if_neg g20, if_neg g21, if_neg g22, if_pos g23, if_pos z1, if_pos z2, a1, zC1_some, l1 63 (by omega), l1 0 (by omega), if_pos z1, if_pos z2, a2, zC1_some, if_pos rfl]
        exact hM'
      by_cases g24 : (M.1 0 (Int32.toNatClampNeg (nI i))) &&& nI 63 = nI 24
      · obtain ⟨v, M1, M2, ⟨a1, l1⟩, ⟨a2, l2⟩, hv⟩ := u_agree hV (by omega) (M.1 0 (Int32.toNatClampNeg (nI i + nI 1)))
        obtain ⟨M', hM'⟩ := go M2 l2 hv
        refine ⟨M', e_X_law_18 ?_⟩
        rw [if_neg e0, if_pos z0, if_neg g0, if_neg g1, if_neg g2, if_neg g3, if_neg g4, if_neg g5, if_neg g6, if_neg g7, if_neg g8, if_neg g9, if_neg g10, if_neg g11, if_neg g12, if_neg g13, if_neg g14, if_neg g15, if_neg g16, if_neg g17, if_neg g18, if_neg g19, if_neg g20, if_neg g21, if_neg g22, if_neg g23, if_pos g24, if_pos z1, a1, zC1_some, l1 63 (by omega), l1 0 (by omega), if_pos z1, a2, zC1_some, if_pos rfl]
        exact hM'
      by_cases g25 : (M.1 0 (Int32.toNatClampNeg (nI i))) &&& nI 63 = nI 25
      · obtain ⟨v, M1, M2, ⟨a1, l1⟩, ⟨a2, l2⟩, hv⟩ := u_hint hV (by omega) (M.1 0 (Int32.toNatClampNeg (nI i + nI 1)))
        obtain ⟨M', hM'⟩ := go M2 l2 hv
        refine ⟨M', e_X_law_18 ?_⟩
        rw [if_neg e0, if_pos z0, if_neg g0, if_neg g1, if_neg g2, if_neg g3, if_neg g4, if_neg g5, if_neg g6, if_neg g7, if_neg g8, if_neg g9, if_neg g10, if_neg g11, if_neg g12, if_neg g13, if_neg g14, if_neg g15, if_neg g16, if_neg g17, if_neg g18, if_neg g19, if_neg g20, if_neg g21, if_neg g22, if_neg g23, if_neg g24, if_pos g25, if_pos z1, a1, zC1_some, l1 63 (by omega), l1 0 (by omega), if_pos z1, a2, zC1_some, if_pos rfl]
        exact hM'
      by_cases g26 : (M.1 0 (Int32.toNatClampNeg (nI i))) &&& nI 63 = nI 26
      · obtain ⟨v, M1, M2, ⟨a1, l1⟩, ⟨a2, l2⟩, hv⟩ := u_wrong hV (by omega) (M.1 0 (Int32.toNatClampNeg (nI i + nI 1)))
        obtain ⟨M', hM'⟩ := go M2 l2 hv
        refine ⟨M', e_X_law_18 ?_⟩
        rw [if_neg e0, if_pos z0, if_neg g0, if_neg g1, if_neg g2, if_neg g3, if_neg g4, if_neg g5, if_neg g6, if_neg g7, if_neg g8, if_neg g9, if_neg g10, if_neg g11, if_neg g12, if_neg g13, if_neg g14, if_neg g15, if_neg g16, if_neg g17, if_neg g18, if_neg g19, if_neg g20, if_neg g21, if_neg g22, if_neg g23, if_neg g24, if_neg g25, if_pos g26, if_pos z1, a1, zC1_some, l1 63 (by omega), l1 0 (by omega), if_pos z1, a2, zC1_some, if_pos rfl]
        exact hM'
      by_cases g27 : (M.1 0 (Int32.toNatClampNeg (nI i))) &&& nI 63 = nI 27
      · obtain ⟨v, M1, M2, ⟨a1, l1⟩, ⟨a2, l2⟩, hv⟩ := u_shared hV (M.1 0 (Int32.toNatClampNeg (nI i + nI 1))) (M.1 0 (Int32.toNatClampNeg (nI i + nI 2)))
        obtain ⟨M', hM'⟩ := go M2 l2 hv
        refine ⟨M', e_X_law_18 ?_⟩
        rw [if_neg e0, if_pos z0, if_neg g0, if_neg g1, if_neg g2, if_neg g3, if_neg g4, if_neg g5, if_neg g6, if_neg g7, if_neg g8, if_neg g9, if_neg g10, if_neg g11, if_neg g12, if_neg g13, if_neg g14, if_neg g15, if_neg g16, if_neg g17, if_neg g18, if_neg g19, if_neg g20, if_neg g21, if_neg g22, if_neg g23, if_neg g24, if_neg g25, if_neg g26, if_pos g27, if_pos z1, if_pos z2, a1, zC2_some, l1 63 (by omega), l1 0 (by omega), if_pos z1, if_pos z2, a2, zC2_some, if_pos (lgc_self v)]
        exact hM'
      by_cases g28 : (M.1 0 (Int32.toNatClampNeg (nI i))) &&& nI 63 = nI 28
      · obtain ⟨v, M1, M2, ⟨a1, l1⟩, ⟨a2, l2⟩, hv⟩ := u_combos hV (M.1 0 (Int32.toNatClampNeg (nI i + nI 1))) (M.1 0 (Int32.toNatClampNeg (nI i + nI 2))) (M.1 0 (Int32.toNatClampNeg (nI i + nI 3)))
        obtain ⟨M', hM'⟩ := go M2 l2 hv
        refine ⟨M', e_X_law_18 ?_⟩
        rw [if_neg e0, if_pos z0, if_neg g0, if_neg g1, if_neg g2, if_neg g3, if_neg g4, if_neg g5, if_neg g6, if_neg g7, if_neg g8, if_neg g9, if_neg g10, if_neg g11, if_neg g12, if_neg g13, if_neg g14, if_neg g15, if_neg g16, if_neg g17, if_neg g18, if_neg g19, if_neg g20, if_neg g21, if_neg g22, if_neg g23, if_neg g24, if_neg g25, if_neg g26, if_neg g27, if_pos g28, if_pos z1, if_pos z2, if_pos z3, a1, zC1_some, l1 63 (by omega), l1 0 (by omega), if_pos z1, if_pos z2, if_pos z3, a2, zC1_some, if_pos rfl]
        exact hM'
      by_cases g29 : (M.1 0 (Int32.toNatClampNeg (nI i))) &&& nI 63 = nI 29
      · obtain ⟨v, M1, M2, ⟨a1, l1⟩, ⟨a2, l2⟩, hv⟩ := u_broken hV (M.1 0 (Int32.toNatClampNeg (nI i + nI 1)))
        obtain ⟨M', hM'⟩ := go M2 l2 hv
        refine ⟨M', e_X_law_18 ?_⟩
        rw [if_neg e0, if_pos z0, if_neg g0, if_neg g1, if_neg g2, if_neg g3, if_neg g4, if_neg g5, if_neg g6, if_neg g7, if_neg g8, if_neg g9, if_neg g10, if_neg g11, if_neg g12, if_neg g13, if_neg g14, if_neg g15, if_neg g16, if_neg g17, if_neg g18, if_neg g19, if_neg g20, if_neg g21, if_neg g22, if_neg g23, if_neg g24, if_neg g25, if_neg g26, if_neg g27, if_neg g28, if_pos g29, if_pos z1, a1, zC1_some, l1 63 (by omega), l1 0 (by omega), if_pos z1, a2, zC1_some, if_pos rfl]
        exact hM'
      by_cases g30 : (M.1 0 (Int32.toNatClampNeg (nI i))) &&& nI 63 = nI 30
      · by_cases q : (M.1 0 (Int32.toNatClampNeg (nI i + nI 2))) = nI 0
        · obtain ⟨v, M1, M2, ⟨a1, l1⟩, ⟨a2, l2⟩, hv⟩ := u_range hV (M.1 0 (Int32.toNatClampNeg (nI i + nI 1))) (nI 0)
          obtain ⟨M', hM'⟩ := go M2 l2 hv
          refine ⟨M', e_X_law_18 ?_⟩
          rw [if_neg e0, if_pos z0, if_neg g0, if_neg g1, if_neg g2, if_neg g3, if_neg g4, if_neg g5, if_neg g6, if_neg g7, if_neg g8, if_neg g9, if_neg g10, if_neg g11, if_neg g12, if_neg g13, if_neg g14, if_neg g15, if_neg g16, if_neg g17, if_neg g18, if_neg g19, if_neg g20, if_neg g21, if_neg g22, if_neg g23, if_neg g24, if_neg g25, if_neg g26, if_neg g27, if_neg g28, if_neg g29, if_pos g30, if_pos z1, if_pos z2, if_pos q, a1, zC1_some, l1 63 (by omega), l1 0 (by omega), if_pos z1, if_pos z2, if_pos q, a2, zC1_some, if_pos rfl]
          exact hM'
        · obtain ⟨v, M1, M2, ⟨a1, l1⟩, ⟨a2, l2⟩, hv⟩ := u_range hV (M.1 0 (Int32.toNatClampNeg (nI i + nI 1))) (nI 1)
          obtain ⟨M', hM'⟩ := go M2 l2 hv
          refine ⟨M', e_X_law_18 ?_⟩
          rw [if_neg e0, if_pos z0, if_neg g0, if_neg g1, if_neg g2, if_neg g3, if_neg g4, if_neg g5, if_neg g6, if_neg g7, if_neg g8, if_neg g9, if_neg g10, if_neg g11, if_neg g12, if_neg g13, if_neg g14, if_neg g15, if_neg g16, if_neg g17, if_neg g18, if_neg g19, if_neg g20, if_neg g21, if_neg g22, if_neg g23, if_neg g24, if_neg g25, if_neg g26, if_neg g27, if_neg g28, if_neg g29, if_pos g30, if_pos z1, if_pos z2, if_neg q, a1, zC1_some, l1 63 (by omega), l1 0 (by omega), if_pos z1, if_pos z2, if_neg q, a2, zC1_some, if_pos rfl]
          exact hM'
      by_cases g31 : (M.1 0 (Int32.toNatClampNeg (nI i))) &&& nI 63 = nI 31
      · obtain ⟨v, M1, M2, ⟨a1, l1⟩, ⟨a2, l2⟩, hv⟩ := u_idle hV (by omega) 
        obtain ⟨M', hM'⟩ := go M2 l2 hv
        refine ⟨M', e_X_law_18 ?_⟩
        rw [if_neg e0, if_pos z0, if_neg g0, if_neg g1, if_neg g2, if_neg g3, if_neg g4, if_neg g5, if_neg g6, if_neg g7, if_neg g8, if_neg g9, if_neg g10, if_neg g11, if_neg g12, if_neg g13, if_neg g14, if_neg g15, if_neg g16, if_neg g17, if_neg g18, if_neg g19, if_neg g20, if_neg g21, if_neg g22, if_neg g23, if_neg g24, if_neg g25, if_neg g26, if_neg g27, if_neg g28, if_neg g29, if_neg g30, if_pos g31, a1, zC2_some, a2, zC2_some, if_pos (lgc_self v)]
        exact hM'
      by_cases g32 : (M.1 0 (Int32.toNatClampNeg (nI i))) &&& nI 63 = nI 32
      · obtain ⟨v, M1, M2, ⟨a1, l1⟩, ⟨a2, l2⟩, hv⟩ := u_letter hV (M.1 0 (Int32.toNatClampNeg (nI i + nI 1)))
        obtain ⟨M', hM'⟩ := go M2 l2 hv
        refine ⟨M', e_X_law_18 ?_⟩
        rw [if_neg e0, if_pos z0, if_neg g0, if_neg g1, if_neg g2, if_neg g3, if_neg g4, if_neg g5, if_neg g6, if_neg g7, if_neg g8, if_neg g9, if_neg g10, if_neg g11, if_neg g12, if_neg g13, if_neg g14, if_neg g15, if_neg g16, if_neg g17, if_neg g18, if_neg g19, if_neg g20, if_neg g21, if_neg g22, if_neg g23, if_neg g24, if_neg g25, if_neg g26, if_neg g27, if_neg g28, if_neg g29, if_neg g30, if_neg g31, if_pos g32, if_pos z1, a1, zC1_some, l1 63 (by omega), l1 0 (by omega), if_pos z1, a2, zC1_some, if_pos rfl]
        exact hM'
      by_cases g33 : (M.1 0 (Int32.toNatClampNeg (nI i))) &&& nI 63 = nI 33
      · obtain ⟨v, M1, M2, ⟨a1, l1⟩, ⟨a2, l2⟩, hv⟩ := u_count hV (M.1 0 (Int32.toNatClampNeg (nI i + nI 1)))
        obtain ⟨M', hM'⟩ := go M2 l2 hv
        refine ⟨M', e_X_law_18 ?_⟩
        rw [if_neg e0, if_pos z0, if_neg g0, if_neg g1, if_neg g2, if_neg g3, if_neg g4, if_neg g5, if_neg g6, if_neg g7, if_neg g8, if_neg g9, if_neg g10, if_neg g11, if_neg g12, if_neg g13, if_neg g14, if_neg g15, if_neg g16, if_neg g17, if_neg g18, if_neg g19, if_neg g20, if_neg g21, if_neg g22, if_neg g23, if_neg g24, if_neg g25, if_neg g26, if_neg g27, if_neg g28, if_neg g29, if_neg g30, if_neg g31, if_neg g32, if_pos g33, if_pos z1, a1, zC1_some, l1 63 (by omega), l1 0 (by omega), if_pos z1, a2, zC1_some, if_pos rfl]
        exact hM'
      obtain ⟨M', hM'⟩ := go M (fun _ _ => rfl) (zv_le hV)
      refine ⟨M', e_X_law_18 ?_⟩
      rw [if_neg e0, if_pos z0, if_neg g0, if_neg g1, if_neg g2, if_neg g3, if_neg g4, if_neg g5, if_neg g6, if_neg g7, if_neg g8, if_neg g9, if_neg g10, if_neg g11, if_neg g12, if_neg g13, if_neg g14, if_neg g15, if_neg g16, if_neg g17, if_neg g18, if_neg g19, if_neg g20, if_neg g21, if_neg g22, if_neg g23, if_neg g24, if_neg g25, if_neg g26, if_neg g27, if_neg g28, if_neg g29, if_neg g30, if_neg g31, if_neg g32, if_neg g33]
      exact hM'
