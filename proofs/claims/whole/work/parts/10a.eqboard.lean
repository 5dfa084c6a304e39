/-! what the methods' runs come to (printed by wip/whole/gen_eq.py) -/
set_option linter.unusedVariables false
set_option maxRecDepth 50000
noncomputable def h_B_copyFrom_141 (d : Nat) (x0 : Nat) (x1 : Nat) (x2 : Int32) (M : ZM) : Option ZR := zEx0 (zEv d) zmB_copyFrom (141, [(0, .ref x0), (1, .ref x1), (2, .int x2)], [], M)
theorem e_B_copyFrom_141 {d : Nat} {x0 : Nat} {x1 : Nat} {x2 : Int32} {M : ZM} {r : ZR} (hk0 : zkd x0 = (10, 0)) (hk1 : zkd x1 = (10, 0)) (h : (if x2 < (nI 12) then (if zin x2 12 = true then (if x1 + 7 + (Int32.toNatClampNeg x2) ≠ x0 + 7 + (Int32.toNatClampNeg x2) then zL (zsi M (x0 + 7 + (Int32.toNatClampNeg x2)) (va_cpy (M.1 (x1 + 7 + (Int32.toNatClampNeg x2))) (M.1 (x0 + 7 + (Int32.toNatClampNeg x2))) (0) (0) (6))) (fun M4 => h_B_copyFrom_141 d x0 x1 (x2 + (nI 1)) M4) else none) else none) else some (none, M)) = some r) : h_B_copyFrom_141 d x0 x1 x2 M = some r := by
  show zEx0 (zEv d) zmB_copyFrom (141, [(0, .ref x0), (1, .ref x1), (2, .int x2)], [], M) = some r
  refine y_pure (pc' := 142) (st' := [.int x2]) rfl rfl ?_
  refine y_pure (pc' := 144) (st' := [.int (nI 12), .int x2]) rfl rfl ?_
  rcases zif_inv h with ⟨hc1, h⟩ | ⟨hc1, h⟩
  · refine y_cmp (pc' := 147) rfl rfl (zc_geF hc1) rfl ?_
    refine y_pure (pc' := 148) (st' := [.ref x1]) rfl rfl ?_
    refine y_getf (pc' := 151) (v := .ref (x1 + 6)) rfl rfl rfl hk1 rfl rfl ?_
    refine y_pure (pc' := 152) (st' := [.int x2, .ref (x1 + 6)]) rfl rfl ?_
    obtain ⟨hi2, h⟩ := zg_inv h
    refine y_aald (pc' := 153) (q' := x1 + 7 + (Int32.toNatClampNeg x2)) rfl (zf_0_13 hk1) hi2 (congrArg (HAdd.hAdd (x1 + 7)) (Nat.one_mul _)) rfl ?_
    refine y_pure (pc' := 154) (st' := [.int (nI 0), .ref (x1 + 7 + (Int32.toNatClampNeg x2))]) rfl rfl ?_
    refine y_pure (pc' := 155) (st' := [.ref x0, .int (nI 0), .ref (x1 + 7 + (Int32.toNatClampNeg x2))]) rfl rfl ?_
    refine y_getf (pc' := 158) (v := .ref (x0 + 6)) rfl rfl rfl hk0 rfl rfl ?_
    refine y_pure (pc' := 159) (st' := [.int x2, .ref (x0 + 6), .int (nI 0), .ref (x1 + 7 + (Int32.toNatClampNeg x2))]) rfl rfl ?_
    refine y_aald (pc' := 160) (q' := x0 + 7 + (Int32.toNatClampNeg x2)) rfl (zf_0_13 hk0) hi2 (congrArg (HAdd.hAdd (x0 + 7)) (Nat.one_mul _)) rfl ?_
    refine y_pure (pc' := 161) (st' := [.int (nI 0), .ref (x0 + 7 + (Int32.toNatClampNeg x2)), .int (nI 0), .ref (x1 + 7 + (Int32.toNatClampNeg x2))]) rfl rfl ?_
    refine y_pure (pc' := 163) (st' := [.int (nI 6), .int (nI 0), .ref (x0 + 7 + (Int32.toNatClampNeg x2)), .int (nI 0), .ref (x1 + 7 + (Int32.toNatClampNeg x2))]) rfl rfl ?_
    obtain ⟨hg3, h⟩ := zg_inv h
    refine y_copyI (pc' := 166) rfl rfl rfl (zl_0 (zf_0_13 hk1) hi2) (zl_0 (zf_0_13 hk0) hi2) hg3 (by decide) rfl ?_
    obtain ⟨M4, e5, h⟩ := zL_inv h
    refine zM_gen e5 ?_
    refine y_pure (pc' := 169) (ls' := [(0, .ref x0), (1, .ref x1), (2, .int (x2 + (nI 1)))]) (st' := []) rfl rfl ?_
    refine y_pure (pc' := 141) rfl rfl ?_
    refine zEx_sub ?_ h
    exact ⟨rfl, rfl, rfl, trivial⟩
  · refine y_cmp (pc' := 172) rfl rfl (zc_geT hc1) rfl ?_
    exact y_ret rfl rfl rfl rfl h
theorem e_B_copyFrom {d : Nat} {x0 : Nat} {x1 : Nat} {M : ZM} {r : ZR} (hk0 : zkd x0 = (10, 0)) (hk1 : zkd x1 = (10, 0)) (h : zL (zpi (zpi (zpi M x0 0 (M.1 x1 0)) x0 1 ((zpi M x0 0 (M.1 x1 0)).1 x1 1)) x0 2 ((zpi (zpi M x0 0 (M.1 x1 0)) x0 1 ((zpi M x0 0 (M.1 x1 0)).1 x1 1)).1 x1 2)) (fun M1 => zL (zpl (zpl (zpi M1 x0 3 (M1.1 x1 3)) x0 4 ((zpi M1 x0 3 (M1.1 x1 3)).2 x1 4)) x0 5 ((zpl (zpi M1 x0 3 (M1.1 x1 3)) x0 4 ((zpi M1 x0 3 (M1.1 x1 3)).2 x1 4)).2 x1 5)) (fun M3 => (if x1 + 1 ≠ x0 + 1 then zL (zsi (zpi (zpl M3 x0 6 (M3.2 x1 6)) x0 7 ((zpl M3 x0 6 (M3.2 x1 6)).1 x1 7)) (x0 + 1) (va_cpy ((zpi (zpl M3 x0 6 (M3.2 x1 6)) x0 7 ((zpl M3 x0 6 (M3.2 x1 6)).1 x1 7)).1 (x1 + 1)) ((zpi (zpl M3 x0 6 (M3.2 x1 6)) x0 7 ((zpl M3 x0 6 (M3.2 x1 6)).1 x1 7)).1 (x0 + 1)) (0) (0) (36))) (fun M6 => (if x1 + 2 ≠ x0 + 2 then (if x1 + 3 ≠ x0 + 3 then zL (zsi (zsi M6 (x0 + 2) (va_cpy (M6.1 (x1 + 2)) (M6.1 (x0 + 2)) (0) (0) (12))) (x0 + 3) (va_cpy ((zsi M6 (x0 + 2) (va_cpy (M6.1 (x1 + 2)) (M6.1 (x0 + 2)) (0) (0) (12))).1 (x1 + 3)) ((zsi M6 (x0 + 2) (va_cpy (M6.1 (x1 + 2)) (M6.1 (x0 + 2)) (0) (0) (12))).1 (x0 + 3)) (0) (0) (12))) (fun M10 => (if x1 + 4 ≠ x0 + 4 then (if x1 + 5 ≠ x0 + 5 then zL (zsl' (zsi M10 (x0 + 4) (va_cpy (M10.1 (x1 + 4)) (M10.1 (x0 + 4)) (0) (0) (12))) (x0 + 5) (va_cpy ((zsi M10 (x0 + 4) (va_cpy (M10.1 (x1 + 4)) (M10.1 (x0 + 4)) (0) (0) (12))).2 (x1 + 5)) ((zsi M10 (x0 + 4) (va_cpy (M10.1 (x1 + 4)) (M10.1 (x0 + 4)) (0) (0) (12))).2 (x0 + 5)) (0) (0) (12))) (fun M14 => h_B_copyFrom_141 d x0 x1 (nI 0) M14) else none) else none)) else none) else none)) else none))) = some r) : zEv (d + 1) zmB_copyFrom [.ref x0, .ref x1] M = some r := by
  rw [zEv_succ]
  show zEx0 (zEv d) zmB_copyFrom (0, [(0, .ref x0), (1, .ref x1)], [], M) = some r
  refine y_pure (pc' := 1) (st' := [.ref x0]) rfl rfl ?_
  refine y_pure (pc' := 2) (st' := [.ref x1, .ref x0]) rfl rfl ?_
  refine y_getf (pc' := 5) (v := .int (M.1 x1 0)) rfl rfl rfl hk1 rfl rfl ?_
  refine y_putI (pc' := 8) rfl rfl hk0 rfl ?_
  refine y_pure (pc' := 9) (st' := [.ref x0]) rfl rfl ?_
  refine y_pure (pc' := 10) (st' := [.ref x1, .ref x0]) rfl rfl ?_
  refine y_getf (pc' := 13) (v := .int ((zpi M x0 0 (M.1 x1 0)).1 x1 1)) rfl rfl rfl hk1 rfl rfl ?_
  refine y_putI (pc' := 16) rfl rfl hk0 rfl ?_
  refine y_pure (pc' := 17) (st' := [.ref x0]) rfl rfl ?_
  refine y_pure (pc' := 18) (st' := [.ref x1, .ref x0]) rfl rfl ?_
  refine y_getf (pc' := 21) (v := .int ((zpi (zpi M x0 0 (M.1 x1 0)) x0 1 ((zpi M x0 0 (M.1 x1 0)).1 x1 1)).1 x1 2)) rfl rfl rfl hk1 rfl rfl ?_
  refine y_putI (pc' := 24) rfl rfl hk0 rfl ?_
  obtain ⟨M1, e2, h⟩ := zL_inv h
  refine zM_gen e2 ?_
  refine y_pure (pc' := 25) (st' := [.ref x0]) rfl rfl ?_
  refine y_pure (pc' := 26) (st' := [.ref x1, .ref x0]) rfl rfl ?_
  refine y_getf (pc' := 29) (v := .int (M1.1 x1 3)) rfl rfl rfl hk1 rfl rfl ?_
  refine y_putI (pc' := 32) rfl rfl hk0 rfl ?_
  refine y_pure (pc' := 33) (st' := [.ref x0]) rfl rfl ?_
  refine y_pure (pc' := 34) (st' := [.ref x1, .ref x0]) rfl rfl ?_
  refine y_getf (pc' := 37) (v := .long ((zpi M1 x0 3 (M1.1 x1 3)).2 x1 4)) rfl rfl rfl hk1 rfl rfl ?_
  refine y_putL (pc' := 40) rfl rfl hk0 rfl ?_
  refine y_pure (pc' := 41) (st' := [.ref x0]) rfl rfl ?_
  refine y_pure (pc' := 42) (st' := [.ref x1, .ref x0]) rfl rfl ?_
  refine y_getf (pc' := 45) (v := .long ((zpl (zpi M1 x0 3 (M1.1 x1 3)) x0 4 ((zpi M1 x0 3 (M1.1 x1 3)).2 x1 4)).2 x1 5)) rfl rfl rfl hk1 rfl rfl ?_
  refine y_putL (pc' := 48) rfl rfl hk0 rfl ?_
  obtain ⟨M3, e4, h⟩ := zL_inv h
  refine zM_gen e4 ?_
  refine y_pure (pc' := 49) (st' := [.ref x0]) rfl rfl ?_
  refine y_pure (pc' := 50) (st' := [.ref x1, .ref x0]) rfl rfl ?_
  refine y_getf (pc' := 53) (v := .long (M3.2 x1 6)) rfl rfl rfl hk1 rfl rfl ?_
  refine y_putL (pc' := 56) rfl rfl hk0 rfl ?_
  refine y_pure (pc' := 57) (st' := [.ref x0]) rfl rfl ?_
  refine y_pure (pc' := 58) (st' := [.ref x1, .ref x0]) rfl rfl ?_
  refine y_getf (pc' := 61) (v := .int ((zpl M3 x0 6 (M3.2 x1 6)).1 x1 7)) rfl rfl rfl hk1 rfl rfl ?_
  refine y_putI (pc' := 64) rfl rfl hk0 rfl ?_
  refine y_pure (pc' := 65) (st' := [.ref x1]) rfl rfl ?_
  refine y_getf (pc' := 68) (v := .ref (x1 + 1)) rfl rfl rfl hk1 rfl rfl ?_
  refine y_pure (pc' := 69) (st' := [.int (nI 0), .ref (x1 + 1)]) rfl rfl ?_
  refine y_pure (pc' := 70) (st' := [.ref x0, .int (nI 0), .ref (x1 + 1)]) rfl rfl ?_
  refine y_getf (pc' := 73) (v := .ref (x0 + 1)) rfl rfl rfl hk0 rfl rfl ?_
  refine y_pure (pc' := 74) (st' := [.int (nI 0), .ref (x0 + 1), .int (nI 0), .ref (x1 + 1)]) rfl rfl ?_
  refine y_pure (pc' := 76) (st' := [.int (nI 36), .int (nI 0), .ref (x0 + 1), .int (nI 0), .ref (x1 + 1)]) rfl rfl ?_
  obtain ⟨hg5, h⟩ := zg_inv h
  refine y_copyI (pc' := 79) rfl rfl rfl (zf_0_8 hk1) (zf_0_8 hk0) hg5 (by decide) rfl ?_
  obtain ⟨M6, e7, h⟩ := zL_inv h
  refine zM_gen e7 ?_
  refine y_pure (pc' := 80) (st' := [.ref x1]) rfl rfl ?_
  refine y_getf (pc' := 83) (v := .ref (x1 + 2)) rfl rfl rfl hk1 rfl rfl ?_
  refine y_pure (pc' := 84) (st' := [.int (nI 0), .ref (x1 + 2)]) rfl rfl ?_
  refine y_pure (pc' := 85) (st' := [.ref x0, .int (nI 0), .ref (x1 + 2)]) rfl rfl ?_
  refine y_getf (pc' := 88) (v := .ref (x0 + 2)) rfl rfl rfl hk0 rfl rfl ?_
  refine y_pure (pc' := 89) (st' := [.int (nI 0), .ref (x0 + 2), .int (nI 0), .ref (x1 + 2)]) rfl rfl ?_
  refine y_pure (pc' := 91) (st' := [.int (nI 12), .int (nI 0), .ref (x0 + 2), .int (nI 0), .ref (x1 + 2)]) rfl rfl ?_
  obtain ⟨hg8, h⟩ := zg_inv h
  refine y_copyI (pc' := 94) rfl rfl rfl (zf_0_9 hk1) (zf_0_9 hk0) hg8 (by decide) rfl ?_
  refine y_pure (pc' := 95) (st' := [.ref x1]) rfl rfl ?_
  refine y_getf (pc' := 98) (v := .ref (x1 + 3)) rfl rfl rfl hk1 rfl rfl ?_
  refine y_pure (pc' := 99) (st' := [.int (nI 0), .ref (x1 + 3)]) rfl rfl ?_
  refine y_pure (pc' := 100) (st' := [.ref x0, .int (nI 0), .ref (x1 + 3)]) rfl rfl ?_
  refine y_getf (pc' := 103) (v := .ref (x0 + 3)) rfl rfl rfl hk0 rfl rfl ?_
  refine y_pure (pc' := 104) (st' := [.int (nI 0), .ref (x0 + 3), .int (nI 0), .ref (x1 + 3)]) rfl rfl ?_
  refine y_pure (pc' := 106) (st' := [.int (nI 12), .int (nI 0), .ref (x0 + 3), .int (nI 0), .ref (x1 + 3)]) rfl rfl ?_
  obtain ⟨hg9, h⟩ := zg_inv h
  refine y_copyI (pc' := 109) rfl rfl rfl (zf_0_10 hk1) (zf_0_10 hk0) hg9 (by decide) rfl ?_
  obtain ⟨M10, e11, h⟩ := zL_inv h
  refine zM_gen e11 ?_
  refine y_pure (pc' := 110) (st' := [.ref x1]) rfl rfl ?_
  refine y_getf (pc' := 113) (v := .ref (x1 + 4)) rfl rfl rfl hk1 rfl rfl ?_
  refine y_pure (pc' := 114) (st' := [.int (nI 0), .ref (x1 + 4)]) rfl rfl ?_
  refine y_pure (pc' := 115) (st' := [.ref x0, .int (nI 0), .ref (x1 + 4)]) rfl rfl ?_
  refine y_getf (pc' := 118) (v := .ref (x0 + 4)) rfl rfl rfl hk0 rfl rfl ?_
  refine y_pure (pc' := 119) (st' := [.int (nI 0), .ref (x0 + 4), .int (nI 0), .ref (x1 + 4)]) rfl rfl ?_
  refine y_pure (pc' := 121) (st' := [.int (nI 12), .int (nI 0), .ref (x0 + 4), .int (nI 0), .ref (x1 + 4)]) rfl rfl ?_
  obtain ⟨hg12, h⟩ := zg_inv h
  refine y_copyI (pc' := 124) rfl rfl rfl (zf_0_11 hk1) (zf_0_11 hk0) hg12 (by decide) rfl ?_
  refine y_pure (pc' := 125) (st' := [.ref x1]) rfl rfl ?_
  refine y_getf (pc' := 128) (v := .ref (x1 + 5)) rfl rfl rfl hk1 rfl rfl ?_
  refine y_pure (pc' := 129) (st' := [.int (nI 0), .ref (x1 + 5)]) rfl rfl ?_
  refine y_pure (pc' := 130) (st' := [.ref x0, .int (nI 0), .ref (x1 + 5)]) rfl rfl ?_
  refine y_getf (pc' := 133) (v := .ref (x0 + 5)) rfl rfl rfl hk0 rfl rfl ?_
  refine y_pure (pc' := 134) (st' := [.int (nI 0), .ref (x0 + 5), .int (nI 0), .ref (x1 + 5)]) rfl rfl ?_
  refine y_pure (pc' := 136) (st' := [.int (nI 12), .int (nI 0), .ref (x0 + 5), .int (nI 0), .ref (x1 + 5)]) rfl rfl ?_
  obtain ⟨hg13, h⟩ := zg_inv h
  refine y_copyL (pc' := 139) rfl rfl rfl (zf_0_12 hk1) (zf_0_12 hk0) hg13 (by decide) rfl ?_
  obtain ⟨M14, e15, h⟩ := zL_inv h
  refine zM_gen e15 ?_
  refine y_pure (pc' := 140) (st' := [.int (nI 0)]) rfl rfl ?_
  refine y_pure (pc' := 141) (ls' := [(0, .ref x0), (1, .ref x1), (2, .int (nI 0))]) (st' := []) rfl rfl ?_
  refine zEx_sub ?_ h
  exact ⟨rfl, rfl, rfl, trivial⟩
theorem e_B_lay {d : Nat} {x0 : Nat} {x1 : Int32} {x2 : Int32} {x3 : Int32} {M : ZM} {r : ZR} (hk0 : zkd x0 = (10, 0)) (h : zL (zpl (zpi (zpi (zpi (zpi M x0 0 x1) x0 1 x2) x0 2 x3) x0 3 (nI 0)) x0 4 (((nJ 1) <<< (Int32.toInt64 (((zpi (zpi (zpi (zpi M x0 0 x1) x0 1 x2) x0 2 x3) x0 3 (nI 0)).1 x0 0) * ((zpi (zpi (zpi (zpi M x0 0 x1) x0 1 x2) x0 2 x3) x0 3 (nI 0)).1 x0 1)) &&& 63)) - (nJ 1))) (fun M1 => zC0 (zEv d zmB_marksByGiven [.ref x0, .ref (x0 + 1), .int (-1 : Int32)] (zpi (zpl (zpl M1 x0 5 (nJ 0)) x0 6 (nJ 0)) x0 7 (nI 0))) (fun M4 => some (none, M4))) = some r) : zEv (d + 1) zmB_lay [.ref x0, .int x1, .int x2, .int x3] M = some r := by
  rw [zEv_succ]
  show zEx0 (zEv d) zmB_lay (0, [(0, .ref x0), (1, .int x1), (2, .int x2), (3, .int x3)], [], M) = some r
  refine y_pure (pc' := 1) (st' := [.ref x0]) rfl rfl ?_
  refine y_pure (pc' := 2) (st' := [.int x1, .ref x0]) rfl rfl ?_
  refine y_putI (pc' := 5) rfl rfl hk0 rfl ?_
  refine y_pure (pc' := 6) (st' := [.ref x0]) rfl rfl ?_
  refine y_pure (pc' := 7) (st' := [.int x2, .ref x0]) rfl rfl ?_
  refine y_putI (pc' := 10) rfl rfl hk0 rfl ?_
  refine y_pure (pc' := 11) (st' := [.ref x0]) rfl rfl ?_
  refine y_pure (pc' := 12) (st' := [.int x3, .ref x0]) rfl rfl ?_
  refine y_putI (pc' := 15) rfl rfl hk0 rfl ?_
  refine y_pure (pc' := 16) (st' := [.ref x0]) rfl rfl ?_
  refine y_pure (pc' := 17) (st' := [.int (nI 0), .ref x0]) rfl rfl ?_
  refine y_putI (pc' := 20) rfl rfl hk0 rfl ?_
  refine y_pure (pc' := 21) (st' := [.ref x0]) rfl rfl ?_
  refine y_pure (pc' := 22) (st' := [.long (nJ 1), .ref x0]) rfl rfl ?_
  refine y_pure (pc' := 23) (st' := [.ref x0, .long (nJ 1), .ref x0]) rfl rfl ?_
  refine y_getf (pc' := 26) (v := .int ((zpi (zpi (zpi (zpi M x0 0 x1) x0 1 x2) x0 2 x3) x0 3 (nI 0)).1 x0 0)) rfl rfl rfl hk0 rfl rfl ?_
  refine y_pure (pc' := 27) (st' := [.ref x0, .int ((zpi (zpi (zpi (zpi M x0 0 x1) x0 1 x2) x0 2 x3) x0 3 (nI 0)).1 x0 0), .long (nJ 1), .ref x0]) rfl rfl ?_
  refine y_getf (pc' := 30) (v := .int ((zpi (zpi (zpi (zpi M x0 0 x1) x0 1 x2) x0 2 x3) x0 3 (nI 0)).1 x0 1)) rfl rfl rfl hk0 rfl rfl ?_
  refine y_pure (pc' := 31) (st' := [.int (((zpi (zpi (zpi (zpi M x0 0 x1) x0 1 x2) x0 2 x3) x0 3 (nI 0)).1 x0 0) * ((zpi (zpi (zpi (zpi M x0 0 x1) x0 1 x2) x0 2 x3) x0 3 (nI 0)).1 x0 1)), .long (nJ 1), .ref x0]) rfl rfl ?_
  refine y_pure (pc' := 32) (st' := [.long ((nJ 1) <<< (Int32.toInt64 (((zpi (zpi (zpi (zpi M x0 0 x1) x0 1 x2) x0 2 x3) x0 3 (nI 0)).1 x0 0) * ((zpi (zpi (zpi (zpi M x0 0 x1) x0 1 x2) x0 2 x3) x0 3 (nI 0)).1 x0 1)) &&& 63)), .ref x0]) rfl rfl ?_
  refine y_pure (pc' := 33) (st' := [.long (nJ 1), .long ((nJ 1) <<< (Int32.toInt64 (((zpi (zpi (zpi (zpi M x0 0 x1) x0 1 x2) x0 2 x3) x0 3 (nI 0)).1 x0 0) * ((zpi (zpi (zpi (zpi M x0 0 x1) x0 1 x2) x0 2 x3) x0 3 (nI 0)).1 x0 1)) &&& 63)), .ref x0]) rfl rfl ?_
  refine y_pure (pc' := 34) (st' := [.long (((nJ 1) <<< (Int32.toInt64 (((zpi (zpi (zpi (zpi M x0 0 x1) x0 1 x2) x0 2 x3) x0 3 (nI 0)).1 x0 0) * ((zpi (zpi (zpi (zpi M x0 0 x1) x0 1 x2) x0 2 x3) x0 3 (nI 0)).1 x0 1)) &&& 63)) - (nJ 1)), .ref x0]) rfl rfl ?_
  refine y_putL (pc' := 37) rfl rfl hk0 rfl ?_
  obtain ⟨M1, e2, h⟩ := zL_inv h
  refine zM_gen e2 ?_
  refine y_pure (pc' := 38) (st' := [.ref x0]) rfl rfl ?_
  refine y_pure (pc' := 39) (st' := [.long (nJ 0), .ref x0]) rfl rfl ?_
  refine y_putL (pc' := 42) rfl rfl hk0 rfl ?_
  refine y_pure (pc' := 43) (st' := [.ref x0]) rfl rfl ?_
  refine y_pure (pc' := 44) (st' := [.long (nJ 0), .ref x0]) rfl rfl ?_
  refine y_putL (pc' := 47) rfl rfl hk0 rfl ?_
  refine y_pure (pc' := 48) (st' := [.ref x0]) rfl rfl ?_
  refine y_pure (pc' := 49) (st' := [.int (nI 0), .ref x0]) rfl rfl ?_
  refine y_putI (pc' := 52) rfl rfl hk0 rfl ?_
  refine y_pure (pc' := 53) (st' := [.ref x0]) rfl rfl ?_
  refine y_pure (pc' := 54) (st' := [.ref x0, .ref x0]) rfl rfl ?_
  refine y_getf (pc' := 57) (v := .ref (x0 + 1)) rfl rfl rfl hk0 rfl rfl ?_
  refine y_pure (pc' := 58) (st' := [.int (-1 : Int32), .ref (x0 + 1), .ref x0]) rfl rfl ?_
  obtain ⟨M4, he3, h⟩ := zC0_inv h
  refine y_callV (pc' := 61) (y := zmB_marksByGiven) (a' := [.ref (x0 + 1), .int (-1 : Int32)]) (st' := []) rfl rfl rfl rfl rfl (zrecv_o (o := 0) hk0 rfl) rfl he3 rfl rfl ?_
  exact y_ret rfl rfl rfl rfl h
theorem e_B_isTold {d : Nat} {x0 : Nat} {M : ZM} {r : ZR} (hk0 : zkd x0 = (10, 0)) (h : (if (nI 0) < (M.1 x0 0) then some (some (.int (nI 1)), M) else some (some (.int (nI 0)), M)) = some r) : zEv (d + 1) zmB_isTold [.ref x0] M = some r := by
  rw [zEv_succ]
  show zEx0 (zEv d) zmB_isTold (0, [(0, .ref x0)], [], M) = some r
  refine y_pure (pc' := 1) (st' := [.ref x0]) rfl rfl ?_
  refine y_getf (pc' := 4) (v := .int (M.1 x0 0)) rfl rfl rfl hk0 rfl rfl ?_
  rcases zif_inv h with ⟨hc1, h⟩ | ⟨hc1, h⟩
  · refine y_cnd (pc' := 7) rfl rfl (zc_leF hc1) rfl ?_
    refine y_pure (pc' := 8) (st' := [.int (nI 1)]) rfl rfl ?_
    refine y_pure (pc' := 12) rfl rfl ?_
    exact y_retZ rfl rfl (by decide) h
  · refine y_cnd (pc' := 11) rfl rfl (zc_leT hc1) rfl ?_
    refine y_pure (pc' := 12) (st' := [.int (nI 0)]) rfl rfl ?_
    exact y_retZ rfl rfl (by decide) h
theorem e_B_isCell {d : Nat} {x0 : Nat} {x1 : Int32} {M : ZM} {r : ZR} (hk0 : zkd x0 = (10, 0)) (h : (if x1 < (nI 0) then some (some (.int (nI 0)), M) else (if x1 < ((M.1 x0 0) * (M.1 x0 1)) then (if x1 < (nI 36) then some (some (.int (nI 1)), M) else some (some (.int (nI 0)), M)) else some (some (.int (nI 0)), M))) = some r) : zEv (d + 1) zmB_isCell [.ref x0, .int x1] M = some r := by
  rw [zEv_succ]
  show zEx0 (zEv d) zmB_isCell (0, [(0, .ref x0), (1, .int x1)], [], M) = some r
  refine y_pure (pc' := 1) (st' := [.int x1]) rfl rfl ?_
  rcases zif_inv h with ⟨hc1, h⟩ | ⟨hc1, h⟩
  · refine y_cnd (pc' := 27) rfl rfl (zc_ltT hc1) rfl ?_
    refine y_pure (pc' := 28) (st' := [.int (nI 0)]) rfl rfl ?_
    exact y_retZ rfl rfl (by decide) h
  · refine y_cnd (pc' := 4) rfl rfl (zc_ltF hc1) rfl ?_
    refine y_pure (pc' := 5) (st' := [.int x1]) rfl rfl ?_
    refine y_pure (pc' := 6) (st' := [.ref x0, .int x1]) rfl rfl ?_
    refine y_getf (pc' := 9) (v := .int (M.1 x0 0)) rfl rfl rfl hk0 rfl rfl ?_
    refine y_pure (pc' := 10) (st' := [.ref x0, .int (M.1 x0 0), .int x1]) rfl rfl ?_
    refine y_getf (pc' := 13) (v := .int (M.1 x0 1)) rfl rfl rfl hk0 rfl rfl ?_
    refine y_pure (pc' := 14) (st' := [.int ((M.1 x0 0) * (M.1 x0 1)), .int x1]) rfl rfl ?_
    rcases zif_inv h with ⟨hc2, h⟩ | ⟨hc2, h⟩
    · refine y_cmp (pc' := 17) rfl rfl (zc_geF hc2) rfl ?_
      refine y_pure (pc' := 18) (st' := [.int x1]) rfl rfl ?_
      refine y_pure (pc' := 20) (st' := [.int (nI 36), .int x1]) rfl rfl ?_
      rcases zif_inv h with ⟨hc3, h⟩ | ⟨hc3, h⟩
      · refine y_cmp (pc' := 23) rfl rfl (zc_geF hc3) rfl ?_
        refine y_pure (pc' := 24) (st' := [.int (nI 1)]) rfl rfl ?_
        refine y_pure (pc' := 28) rfl rfl ?_
        exact y_retZ rfl rfl (by decide) h
      · refine y_cmp (pc' := 27) rfl rfl (zc_geT hc3) rfl ?_
        refine y_pure (pc' := 28) (st' := [.int (nI 0)]) rfl rfl ?_
        exact y_retZ rfl rfl (by decide) h
    · refine y_cmp (pc' := 27) rfl rfl (zc_geT hc2) rfl ?_
      refine y_pure (pc' := 28) (st' := [.int (nI 0)]) rfl rfl ?_
      exact y_retZ rfl rfl (by decide) h
theorem e_B_isOpen {d : Nat} {x0 : Nat} {x1 : Int32} {M : ZM} {r : ZR} (hk0 : zkd x0 = (10, 0)) (h : zC1 (zEv d zmB_isCell [.ref x0, .int x1] M) (fun v3 M2 => (if v3 = (nI 0) then some (some (.int (nI 0)), M2) else (if (lg_cmp (((M2.2 x0 4) >>> (Int32.toInt64 x1 &&& 63)) &&& (nJ 1)) (nJ 1)) = (nI 0) then some (some (.int (nI 1)), M2) else some (some (.int (nI 0)), M2)))) = some r) : zEv (d + 1) zmB_isOpen [.ref x0, .int x1] M = some r := by
  rw [zEv_succ]
  show zEx0 (zEv d) zmB_isOpen (0, [(0, .ref x0), (1, .int x1)], [], M) = some r
  refine y_pure (pc' := 1) (st' := [.ref x0]) rfl rfl ?_
  refine y_pure (pc' := 2) (st' := [.int x1, .ref x0]) rfl rfl ?_
  obtain ⟨v3, M2, he1, h⟩ := zC1_inv h
  refine y_callV (pc' := 5) (y := zmB_isCell) (a' := [.int x1]) (st' := []) rfl rfl rfl rfl rfl (zrecv_o (o := 0) hk0 rfl) rfl he1 rfl rfl ?_
  rcases zif_inv h with ⟨hc4, h⟩ | ⟨hc4, h⟩
  · refine y_cnd (pc' := 25) rfl rfl (zc_eqT hc4) rfl ?_
    refine y_pure (pc' := 26) (st' := [.int (nI 0)]) rfl rfl ?_
    exact y_retZ rfl rfl (by decide) h
  · refine y_cnd (pc' := 8) rfl rfl (zc_eqF hc4) rfl ?_
    refine y_pure (pc' := 9) (st' := [.ref x0]) rfl rfl ?_
    refine y_getf (pc' := 12) (v := .long (M2.2 x0 4)) rfl rfl rfl hk0 rfl rfl ?_
    refine y_pure (pc' := 13) (st' := [.int x1, .long (M2.2 x0 4)]) rfl rfl ?_
    refine y_pure (pc' := 14) (st' := [.long ((M2.2 x0 4) >>> (Int32.toInt64 x1 &&& 63))]) rfl rfl ?_
    refine y_pure (pc' := 15) (st' := [.long (nJ 1), .long ((M2.2 x0 4) >>> (Int32.toInt64 x1 &&& 63))]) rfl rfl ?_
    refine y_pure (pc' := 16) (st' := [.long (((M2.2 x0 4) >>> (Int32.toInt64 x1 &&& 63)) &&& (nJ 1))]) rfl rfl ?_
    refine y_pure (pc' := 17) (st' := [.long (nJ 1), .long (((M2.2 x0 4) >>> (Int32.toInt64 x1 &&& 63)) &&& (nJ 1))]) rfl rfl ?_
    refine y_pure (pc' := 18) (st' := [.int (lg_cmp (((M2.2 x0 4) >>> (Int32.toInt64 x1 &&& 63)) &&& (nJ 1)) (nJ 1))]) rfl rfl ?_
    rcases zif_inv h with ⟨hc5, h⟩ | ⟨hc5, h⟩
    · refine y_cnd (pc' := 21) rfl rfl (zc_neF hc5) rfl ?_
      refine y_pure (pc' := 22) (st' := [.int (nI 1)]) rfl rfl ?_
      refine y_pure (pc' := 26) rfl rfl ?_
      exact y_retZ rfl rfl (by decide) h
    · refine y_cnd (pc' := 25) rfl rfl (zc_neT hc5) rfl ?_
      refine y_pure (pc' := 26) (st' := [.int (nI 0)]) rfl rfl ?_
      exact y_retZ rfl rfl (by decide) h
theorem e_B_isGiven {d : Nat} {x0 : Nat} {x1 : Int32} {M : ZM} {r : ZR} (hk0 : zkd x0 = (10, 0)) (h : zC1 (zEv d zmB_isCell [.ref x0, .int x1] M) (fun v3 M2 => (if v3 = (nI 0) then some (some (.int (nI 0)), M2) else (if (lg_cmp (((M2.2 x0 5) >>> (Int32.toInt64 x1 &&& 63)) &&& (nJ 1)) (nJ 1)) = (nI 0) then some (some (.int (nI 1)), M2) else some (some (.int (nI 0)), M2)))) = some r) : zEv (d + 1) zmB_isGiven [.ref x0, .int x1] M = some r := by
  rw [zEv_succ]
  show zEx0 (zEv d) zmB_isGiven (0, [(0, .ref x0), (1, .int x1)], [], M) = some r
  refine y_pure (pc' := 1) (st' := [.ref x0]) rfl rfl ?_
  refine y_pure (pc' := 2) (st' := [.int x1, .ref x0]) rfl rfl ?_
  obtain ⟨v3, M2, he1, h⟩ := zC1_inv h
  refine y_callV (pc' := 5) (y := zmB_isCell) (a' := [.int x1]) (st' := []) rfl rfl rfl rfl rfl (zrecv_o (o := 0) hk0 rfl) rfl he1 rfl rfl ?_
  rcases zif_inv h with ⟨hc4, h⟩ | ⟨hc4, h⟩
  · refine y_cnd (pc' := 25) rfl rfl (zc_eqT hc4) rfl ?_
    refine y_pure (pc' := 26) (st' := [.int (nI 0)]) rfl rfl ?_
    exact y_retZ rfl rfl (by decide) h
  · refine y_cnd (pc' := 8) rfl rfl (zc_eqF hc4) rfl ?_
    refine y_pure (pc' := 9) (st' := [.ref x0]) rfl rfl ?_
    refine y_getf (pc' := 12) (v := .long (M2.2 x0 5)) rfl rfl rfl hk0 rfl rfl ?_
    refine y_pure (pc' := 13) (st' := [.int x1, .long (M2.2 x0 5)]) rfl rfl ?_
    refine y_pure (pc' := 14) (st' := [.long ((M2.2 x0 5) >>> (Int32.toInt64 x1 &&& 63))]) rfl rfl ?_
    refine y_pure (pc' := 15) (st' := [.long (nJ 1), .long ((M2.2 x0 5) >>> (Int32.toInt64 x1 &&& 63))]) rfl rfl ?_
    refine y_pure (pc' := 16) (st' := [.long (((M2.2 x0 5) >>> (Int32.toInt64 x1 &&& 63)) &&& (nJ 1))]) rfl rfl ?_
    refine y_pure (pc' := 17) (st' := [.long (nJ 1), .long (((M2.2 x0 5) >>> (Int32.toInt64 x1 &&& 63)) &&& (nJ 1))]) rfl rfl ?_
    refine y_pure (pc' := 18) (st' := [.int (lg_cmp (((M2.2 x0 5) >>> (Int32.toInt64 x1 &&& 63)) &&& (nJ 1)) (nJ 1))]) rfl rfl ?_
    rcases zif_inv h with ⟨hc5, h⟩ | ⟨hc5, h⟩
    · refine y_cnd (pc' := 21) rfl rfl (zc_neF hc5) rfl ?_
      refine y_pure (pc' := 22) (st' := [.int (nI 1)]) rfl rfl ?_
      refine y_pure (pc' := 26) rfl rfl ?_
      exact y_retZ rfl rfl (by decide) h
    · refine y_cnd (pc' := 25) rfl rfl (zc_neT hc5) rfl ?_
      refine y_pure (pc' := 26) (st' := [.int (nI 0)]) rfl rfl ?_
      exact y_retZ rfl rfl (by decide) h
theorem e_B_isPut {d : Nat} {x0 : Nat} {x1 : Int32} {M : ZM} {r : ZR} (hk0 : zkd x0 = (10, 0)) (h : zC1 (zEv d zmB_isCell [.ref x0, .int x1] M) (fun v3 M2 => (if v3 = (nI 0) then some (some (.int (nI 0)), M2) else (if (lg_cmp (((M2.2 x0 6) >>> (Int32.toInt64 x1 &&& 63)) &&& (nJ 1)) (nJ 1)) = (nI 0) then some (some (.int (nI 1)), M2) else some (some (.int (nI 0)), M2)))) = some r) : zEv (d + 1) zmB_isPut [.ref x0, .int x1] M = some r := by
  rw [zEv_succ]
  show zEx0 (zEv d) zmB_isPut (0, [(0, .ref x0), (1, .int x1)], [], M) = some r
  refine y_pure (pc' := 1) (st' := [.ref x0]) rfl rfl ?_
  refine y_pure (pc' := 2) (st' := [.int x1, .ref x0]) rfl rfl ?_
  obtain ⟨v3, M2, he1, h⟩ := zC1_inv h
  refine y_callV (pc' := 5) (y := zmB_isCell) (a' := [.int x1]) (st' := []) rfl rfl rfl rfl rfl (zrecv_o (o := 0) hk0 rfl) rfl he1 rfl rfl ?_
  rcases zif_inv h with ⟨hc4, h⟩ | ⟨hc4, h⟩
  · refine y_cnd (pc' := 25) rfl rfl (zc_eqT hc4) rfl ?_
    refine y_pure (pc' := 26) (st' := [.int (nI 0)]) rfl rfl ?_
    exact y_retZ rfl rfl (by decide) h
  · refine y_cnd (pc' := 8) rfl rfl (zc_eqF hc4) rfl ?_
    refine y_pure (pc' := 9) (st' := [.ref x0]) rfl rfl ?_
    refine y_getf (pc' := 12) (v := .long (M2.2 x0 6)) rfl rfl rfl hk0 rfl rfl ?_
    refine y_pure (pc' := 13) (st' := [.int x1, .long (M2.2 x0 6)]) rfl rfl ?_
    refine y_pure (pc' := 14) (st' := [.long ((M2.2 x0 6) >>> (Int32.toInt64 x1 &&& 63))]) rfl rfl ?_
    refine y_pure (pc' := 15) (st' := [.long (nJ 1), .long ((M2.2 x0 6) >>> (Int32.toInt64 x1 &&& 63))]) rfl rfl ?_
    refine y_pure (pc' := 16) (st' := [.long (((M2.2 x0 6) >>> (Int32.toInt64 x1 &&& 63)) &&& (nJ 1))]) rfl rfl ?_
    refine y_pure (pc' := 17) (st' := [.long (nJ 1), .long (((M2.2 x0 6) >>> (Int32.toInt64 x1 &&& 63)) &&& (nJ 1))]) rfl rfl ?_
    refine y_pure (pc' := 18) (st' := [.int (lg_cmp (((M2.2 x0 6) >>> (Int32.toInt64 x1 &&& 63)) &&& (nJ 1)) (nJ 1))]) rfl rfl ?_
    rcases zif_inv h with ⟨hc5, h⟩ | ⟨hc5, h⟩
    · refine y_cnd (pc' := 21) rfl rfl (zc_neF hc5) rfl ?_
      refine y_pure (pc' := 22) (st' := [.int (nI 1)]) rfl rfl ?_
      refine y_pure (pc' := 26) rfl rfl ?_
      exact y_retZ rfl rfl (by decide) h
    · refine y_cnd (pc' := 25) rfl rfl (zc_neT hc5) rfl ?_
      refine y_pure (pc' := 26) (st' := [.int (nI 0)]) rfl rfl ?_
      exact y_retZ rfl rfl (by decide) h
theorem e_B_isDone {d : Nat} {x0 : Nat} {x1 : Int32} {M : ZM} {r : ZR} (hk0 : zkd x0 = (10, 0)) (h : zC1 (zEv d zmB_isGiven [.ref x0, .int x1] M) (fun v3 M2 => (if v3 = (nI 0) then zC1 (zEv d zmB_isPut [.ref x0, .int x1] M2) (fun v7 M6 => (if v7 = (nI 0) then some (some (.int (nI 0)), M6) else some (some (.int (nI 1)), M6))) else some (some (.int (nI 1)), M2))) = some r) : zEv (d + 1) zmB_isDone [.ref x0, .int x1] M = some r := by
  rw [zEv_succ]
  show zEx0 (zEv d) zmB_isDone (0, [(0, .ref x0), (1, .int x1)], [], M) = some r
  refine y_pure (pc' := 1) (st' := [.ref x0]) rfl rfl ?_
  refine y_pure (pc' := 2) (st' := [.int x1, .ref x0]) rfl rfl ?_
  obtain ⟨v3, M2, he1, h⟩ := zC1_inv h
  refine y_callV (pc' := 5) (y := zmB_isGiven) (a' := [.int x1]) (st' := []) rfl rfl rfl rfl rfl (zrecv_o (o := 0) hk0 rfl) rfl he1 rfl rfl ?_
  rcases zif_inv h with ⟨hc4, h⟩ | ⟨hc4, h⟩
  · refine y_cnd (pc' := 8) rfl rfl (zc_neF hc4) rfl ?_
    refine y_pure (pc' := 9) (st' := [.ref x0]) rfl rfl ?_
    refine y_pure (pc' := 10) (st' := [.int x1, .ref x0]) rfl rfl ?_
    obtain ⟨v7, M6, he5, h⟩ := zC1_inv h
    refine y_callV (pc' := 13) (y := zmB_isPut) (a' := [.int x1]) (st' := []) rfl rfl rfl rfl rfl (zrecv_o (o := 0) hk0 rfl) rfl he5 rfl rfl ?_
    rcases zif_inv h with ⟨hc8, h⟩ | ⟨hc8, h⟩
    · refine y_cnd (pc' := 20) rfl rfl (zc_eqT hc8) rfl ?_
      refine y_pure (pc' := 21) (st' := [.int (nI 0)]) rfl rfl ?_
      exact y_retZ rfl rfl (by decide) h
    · refine y_cnd (pc' := 16) rfl rfl (zc_eqF hc8) rfl ?_
      refine y_pure (pc' := 17) (st' := [.int (nI 1)]) rfl rfl ?_
      refine y_pure (pc' := 21) rfl rfl ?_
      exact y_retZ rfl rfl (by decide) h
  · refine y_cnd (pc' := 16) rfl rfl (zc_neT hc4) rfl ?_
    refine y_pure (pc' := 17) (st' := [.int (nI 1)]) rfl rfl ?_
    refine y_pure (pc' := 21) rfl rfl ?_
    exact y_retZ rfl rfl (by decide) h
theorem e_B_isDigit {d : Nat} {x0 : Nat} {x1 : Int32} {M : ZM} {r : ZR} (hk0 : zkd x0 = (10, 0)) (h : (if x1 < (nI 1) then some (some (.int (nI 0)), M) else (if (M.1 x0 2) < x1 then some (some (.int (nI 0)), M) else some (some (.int (nI 1)), M))) = some r) : zEv (d + 1) zmB_isDigit [.ref x0, .int x1] M = some r := by
  rw [zEv_succ]
  show zEx0 (zEv d) zmB_isDigit (0, [(0, .ref x0), (1, .int x1)], [], M) = some r
  refine y_pure (pc' := 1) (st' := [.int x1]) rfl rfl ?_
  refine y_pure (pc' := 2) (st' := [.int (nI 1), .int x1]) rfl rfl ?_
  rcases zif_inv h with ⟨hc1, h⟩ | ⟨hc1, h⟩
  · refine y_cmp (pc' := 17) rfl rfl (zc_ltT hc1) rfl ?_
    refine y_pure (pc' := 18) (st' := [.int (nI 0)]) rfl rfl ?_
    exact y_retZ rfl rfl (by decide) h
  · refine y_cmp (pc' := 5) rfl rfl (zc_ltF hc1) rfl ?_
    refine y_pure (pc' := 6) (st' := [.int x1]) rfl rfl ?_
    refine y_pure (pc' := 7) (st' := [.ref x0, .int x1]) rfl rfl ?_
    refine y_getf (pc' := 10) (v := .int (M.1 x0 2)) rfl rfl rfl hk0 rfl rfl ?_
    rcases zif_inv h with ⟨hc2, h⟩ | ⟨hc2, h⟩
    · refine y_cmp (pc' := 17) rfl rfl (zc_gtT hc2) rfl ?_
      refine y_pure (pc' := 18) (st' := [.int (nI 0)]) rfl rfl ?_
      exact y_retZ rfl rfl (by decide) h
    · refine y_cmp (pc' := 13) rfl rfl (zc_gtF hc2) rfl ?_
      refine y_pure (pc' := 14) (st' := [.int (nI 1)]) rfl rfl ?_
      refine y_pure (pc' := 18) rfl rfl ?_
      exact y_retZ rfl rfl (by decide) h
theorem e_B_isCage {d : Nat} {x0 : Nat} {x1 : Int32} {M : ZM} {r : ZR} (hk0 : zkd x0 = (10, 0)) (h : (if x1 < (nI 0) then some (some (.int (nI 0)), M) else (if x1 < (M.1 x0 3) then (if x1 < (nI 12) then some (some (.int (nI 1)), M) else some (some (.int (nI 0)), M)) else some (some (.int (nI 0)), M))) = some r) : zEv (d + 1) zmB_isCage [.ref x0, .int x1] M = some r := by
  rw [zEv_succ]
  show zEx0 (zEv d) zmB_isCage (0, [(0, .ref x0), (1, .int x1)], [], M) = some r
  refine y_pure (pc' := 1) (st' := [.int x1]) rfl rfl ?_
  rcases zif_inv h with ⟨hc1, h⟩ | ⟨hc1, h⟩
  · refine y_cnd (pc' := 22) rfl rfl (zc_ltT hc1) rfl ?_
    refine y_pure (pc' := 23) (st' := [.int (nI 0)]) rfl rfl ?_
    exact y_retZ rfl rfl (by decide) h
  · refine y_cnd (pc' := 4) rfl rfl (zc_ltF hc1) rfl ?_
    refine y_pure (pc' := 5) (st' := [.int x1]) rfl rfl ?_
    refine y_pure (pc' := 6) (st' := [.ref x0, .int x1]) rfl rfl ?_
    refine y_getf (pc' := 9) (v := .int (M.1 x0 3)) rfl rfl rfl hk0 rfl rfl ?_
    rcases zif_inv h with ⟨hc2, h⟩ | ⟨hc2, h⟩
    · refine y_cmp (pc' := 12) rfl rfl (zc_geF hc2) rfl ?_
      refine y_pure (pc' := 13) (st' := [.int x1]) rfl rfl ?_
      refine y_pure (pc' := 15) (st' := [.int (nI 12), .int x1]) rfl rfl ?_
      rcases zif_inv h with ⟨hc3, h⟩ | ⟨hc3, h⟩
      · refine y_cmp (pc' := 18) rfl rfl (zc_geF hc3) rfl ?_
        refine y_pure (pc' := 19) (st' := [.int (nI 1)]) rfl rfl ?_
        refine y_pure (pc' := 23) rfl rfl ?_
        exact y_retZ rfl rfl (by decide) h
      · refine y_cmp (pc' := 22) rfl rfl (zc_geT hc3) rfl ?_
        refine y_pure (pc' := 23) (st' := [.int (nI 0)]) rfl rfl ?_
        exact y_retZ rfl rfl (by decide) h
    · refine y_cmp (pc' := 22) rfl rfl (zc_geT hc2) rfl ?_
      refine y_pure (pc' := 23) (st' := [.int (nI 0)]) rfl rfl ?_
      exact y_retZ rfl rfl (by decide) h
theorem e_B_isAlike {d : Nat} {x0 : Nat} {x1 : Int32} {M : ZM} {r : ZR} (hk0 : zkd x0 = (10, 0)) (h : (if (((M.1 x0 7) >>> (x1 &&& 31)) &&& (nI 1)) = (nI 1) then some (some (.int (nI 1)), M) else some (some (.int (nI 0)), M)) = some r) : zEv (d + 1) zmB_isAlike [.ref x0, .int x1] M = some r := by
  rw [zEv_succ]
  show zEx0 (zEv d) zmB_isAlike (0, [(0, .ref x0), (1, .int x1)], [], M) = some r
  refine y_pure (pc' := 1) (st' := [.ref x0]) rfl rfl ?_
  refine y_getf (pc' := 4) (v := .int (M.1 x0 7)) rfl rfl rfl hk0 rfl rfl ?_
  refine y_pure (pc' := 5) (st' := [.int x1, .int (M.1 x0 7)]) rfl rfl ?_
  refine y_pure (pc' := 6) (st' := [.int ((M.1 x0 7) >>> (x1 &&& 31))]) rfl rfl ?_
  refine y_pure (pc' := 7) (st' := [.int (nI 1), .int ((M.1 x0 7) >>> (x1 &&& 31))]) rfl rfl ?_
  refine y_pure (pc' := 8) (st' := [.int (((M.1 x0 7) >>> (x1 &&& 31)) &&& (nI 1))]) rfl rfl ?_
  refine y_pure (pc' := 9) (st' := [.int (nI 1), .int (((M.1 x0 7) >>> (x1 &&& 31)) &&& (nI 1))]) rfl rfl ?_
  rcases zif_inv h with ⟨hc1, h⟩ | ⟨hc1, h⟩
  · refine y_cmp (pc' := 12) rfl rfl (zc_neF hc1) rfl ?_
    refine y_pure (pc' := 13) (st' := [.int (nI 1)]) rfl rfl ?_
    refine y_pure (pc' := 17) rfl rfl ?_
    exact y_retZ rfl rfl (by decide) h
  · refine y_cmp (pc' := 16) rfl rfl (zc_neT hc1) rfl ?_
    refine y_pure (pc' := 17) (st' := [.int (nI 0)]) rfl rfl ?_
    exact y_retZ rfl rfl (by decide) h
theorem e_B_hasMark {d : Nat} {x0 : Nat} {x1 : Int32} {x2 : Int32} {M : ZM} {r : ZR} (hk0 : zkd x0 = (10, 0)) (h : zC1 (zEv d zmB_isCell [.ref x0, .int x1] M) (fun v3 M2 => (if v3 = (nI 0) then some (some (.int (nI 0)), M2) else zC1 (zEv d zmB_isDigit [.ref x0, .int x2] M2) (fun v7 M6 => (if v7 = (nI 0) then some (some (.int (nI 0)), M6) else (if zin x1 36 = true then (if (((M6.1 (x0 + 1) (Int32.toNatClampNeg x1)) >>> (x2 &&& 31)) &&& (nI 1)) = (nI 1) then some (some (.int (nI 1)), M6) else some (some (.int (nI 0)), M6)) else none))))) = some r) : zEv (d + 1) zmB_hasMark [.ref x0, .int x1, .int x2] M = some r := by
  rw [zEv_succ]
  show zEx0 (zEv d) zmB_hasMark (0, [(0, .ref x0), (1, .int x1), (2, .int x2)], [], M) = some r
  refine y_pure (pc' := 1) (st' := [.ref x0]) rfl rfl ?_
  refine y_pure (pc' := 2) (st' := [.int x1, .ref x0]) rfl rfl ?_
  obtain ⟨v3, M2, he1, h⟩ := zC1_inv h
  refine y_callV (pc' := 5) (y := zmB_isCell) (a' := [.int x1]) (st' := []) rfl rfl rfl rfl rfl (zrecv_o (o := 0) hk0 rfl) rfl he1 rfl rfl ?_
  rcases zif_inv h with ⟨hc4, h⟩ | ⟨hc4, h⟩
  · refine y_cnd (pc' := 34) rfl rfl (zc_eqT hc4) rfl ?_
    refine y_pure (pc' := 35) (st' := [.int (nI 0)]) rfl rfl ?_
    exact y_retZ rfl rfl (by decide) h
  · refine y_cnd (pc' := 8) rfl rfl (zc_eqF hc4) rfl ?_
    refine y_pure (pc' := 9) (st' := [.ref x0]) rfl rfl ?_
    refine y_pure (pc' := 10) (st' := [.int x2, .ref x0]) rfl rfl ?_
    obtain ⟨v7, M6, he5, h⟩ := zC1_inv h
    refine y_callV (pc' := 13) (y := zmB_isDigit) (a' := [.int x2]) (st' := []) rfl rfl rfl rfl rfl (zrecv_o (o := 0) hk0 rfl) rfl he5 rfl rfl ?_
    rcases zif_inv h with ⟨hc8, h⟩ | ⟨hc8, h⟩
    · refine y_cnd (pc' := 34) rfl rfl (zc_eqT hc8) rfl ?_
      refine y_pure (pc' := 35) (st' := [.int (nI 0)]) rfl rfl ?_
      exact y_retZ rfl rfl (by decide) h
    · refine y_cnd (pc' := 16) rfl rfl (zc_eqF hc8) rfl ?_
      refine y_pure (pc' := 17) (st' := [.ref x0]) rfl rfl ?_
      refine y_getf (pc' := 20) (v := .ref (x0 + 1)) rfl rfl rfl hk0 rfl rfl ?_
      refine y_pure (pc' := 21) (st' := [.int x1, .ref (x0 + 1)]) rfl rfl ?_
      obtain ⟨hi9, h⟩ := zg_inv h
      refine y_iald (pc' := 22) rfl (zf_0_8 hk0) hi9 rfl ?_
      refine y_pure (pc' := 23) (st' := [.int x2, .int (M6.1 (x0 + 1) (Int32.toNatClampNeg x1))]) rfl rfl ?_
      refine y_pure (pc' := 24) (st' := [.int ((M6.1 (x0 + 1) (Int32.toNatClampNeg x1)) >>> (x2 &&& 31))]) rfl rfl ?_
      refine y_pure (pc' := 25) (st' := [.int (nI 1), .int ((M6.1 (x0 + 1) (Int32.toNatClampNeg x1)) >>> (x2 &&& 31))]) rfl rfl ?_
      refine y_pure (pc' := 26) (st' := [.int (((M6.1 (x0 + 1) (Int32.toNatClampNeg x1)) >>> (x2 &&& 31)) &&& (nI 1))]) rfl rfl ?_
      refine y_pure (pc' := 27) (st' := [.int (nI 1), .int (((M6.1 (x0 + 1) (Int32.toNatClampNeg x1)) >>> (x2 &&& 31)) &&& (nI 1))]) rfl rfl ?_
      rcases zif_inv h with ⟨hc10, h⟩ | ⟨hc10, h⟩
      · refine y_cmp (pc' := 30) rfl rfl (zc_neF hc10) rfl ?_
        refine y_pure (pc' := 31) (st' := [.int (nI 1)]) rfl rfl ?_
        refine y_pure (pc' := 35) rfl rfl ?_
        exact y_retZ rfl rfl (by decide) h
      · refine y_cmp (pc' := 34) rfl rfl (zc_neT hc10) rfl ?_
        refine y_pure (pc' := 35) (st' := [.int (nI 0)]) rfl rfl ?_
        exact y_retZ rfl rfl (by decide) h
theorem e_B_digitOf {d : Nat} {x0 : Nat} {x1 : Int32} {M : ZM} {r : ZR} (hk0 : zkd x0 = (10, 0)) (h : zC1 (zEv d zmB_isCell [.ref x0, .int x1] M) (fun v3 M2 => (if v3 = (nI 0) then some (some (.int (nI 0)), M2) else (if zin x1 36 = true then zC1 (zEv d zmC_leastDigit [.int (M2.1 (x0 + 1) (Int32.toNatClampNeg x1))] M2) (fun v8 M7 => some (some (.int v8), M7)) else none))) = some r) : zEv (d + 1) zmB_digitOf [.ref x0, .int x1] M = some r := by
  rw [zEv_succ]
  show zEx0 (zEv d) zmB_digitOf (0, [(0, .ref x0), (1, .int x1)], [], M) = some r
  refine y_pure (pc' := 1) (st' := [.ref x0]) rfl rfl ?_
  refine y_pure (pc' := 2) (st' := [.int x1, .ref x0]) rfl rfl ?_
  obtain ⟨v3, M2, he1, h⟩ := zC1_inv h
  refine y_callV (pc' := 5) (y := zmB_isCell) (a' := [.int x1]) (st' := []) rfl rfl rfl rfl rfl (zrecv_o (o := 0) hk0 rfl) rfl he1 rfl rfl ?_
  rcases zif_inv h with ⟨hc4, h⟩ | ⟨hc4, h⟩
  · refine y_cnd (pc' := 20) rfl rfl (zc_eqT hc4) rfl ?_
    refine y_pure (pc' := 21) (st' := [.int (nI 0)]) rfl rfl ?_
    exact y_ret rfl rfl rfl rfl h
  · refine y_cnd (pc' := 8) rfl rfl (zc_eqF hc4) rfl ?_
    refine y_pure (pc' := 9) (st' := [.ref x0]) rfl rfl ?_
    refine y_getf (pc' := 12) (v := .ref (x0 + 1)) rfl rfl rfl hk0 rfl rfl ?_
    refine y_pure (pc' := 13) (st' := [.int x1, .ref (x0 + 1)]) rfl rfl ?_
    obtain ⟨hi5, h⟩ := zg_inv h
    refine y_iald (pc' := 14) rfl (zf_0_8 hk0) hi5 rfl ?_
    obtain ⟨v8, M7, he6, h⟩ := zC1_inv h
    refine y_callS (pc' := 17) (y := zmC_leastDigit) (a := [.int (M2.1 (x0 + 1) (Int32.toNatClampNeg x1))]) (st' := []) rfl rfl rfl rfl rfl rfl he6 rfl rfl ?_
    refine y_pure (pc' := 21) rfl rfl ?_
    exact y_ret rfl rfl rfl rfl h
theorem e_B_allDigits {d : Nat} {x0 : Nat} {M : ZM} {r : ZR} (hk0 : zkd x0 = (10, 0)) (h : some (some (.int (((nI 1) <<< (((M.1 x0 2) + (nI 1)) &&& 31)) - (nI 2))), M) = some r) : zEv (d + 1) zmB_allDigits [.ref x0] M = some r := by
  rw [zEv_succ]
  show zEx0 (zEv d) zmB_allDigits (0, [(0, .ref x0)], [], M) = some r
  refine y_pure (pc' := 1) (st' := [.int (nI 1)]) rfl rfl ?_
  refine y_pure (pc' := 2) (st' := [.ref x0, .int (nI 1)]) rfl rfl ?_
  refine y_getf (pc' := 5) (v := .int (M.1 x0 2)) rfl rfl rfl hk0 rfl rfl ?_
  refine y_pure (pc' := 6) (st' := [.int (nI 1), .int (M.1 x0 2), .int (nI 1)]) rfl rfl ?_
  refine y_pure (pc' := 7) (st' := [.int ((M.1 x0 2) + (nI 1)), .int (nI 1)]) rfl rfl ?_
  refine y_pure (pc' := 8) (st' := [.int ((nI 1) <<< (((M.1 x0 2) + (nI 1)) &&& 31))]) rfl rfl ?_
  refine y_pure (pc' := 9) (st' := [.int (nI 2), .int ((nI 1) <<< (((M.1 x0 2) + (nI 1)) &&& 31))]) rfl rfl ?_
  refine y_pure (pc' := 10) (st' := [.int (((nI 1) <<< (((M.1 x0 2) + (nI 1)) &&& 31)) - (nI 2))]) rfl rfl ?_
  exact y_ret rfl rfl rfl rfl h
theorem e_B_putDigit {d : Nat} {x0 : Nat} {x1 : Int32} {x2 : Int32} {M : ZM} {r : ZR} (hk0 : zkd x0 = (10, 0)) (h : zC1 (zEv d zmB_isOpen [.ref x0, .int x1] M) (fun v3 M2 => (if v3 = (nI 0) then some (none, M2) else zC1 (zEv d zmB_isDigit [.ref x0, .int x2] M2) (fun v7 M6 => (if v7 = (nI 0) then some (none, M6) else (if zin x1 36 = true then some (none, (zpi (zpl M6 x0 6 ((M6.2 x0 6) ||| ((nJ 1) <<< (Int32.toInt64 x1 &&& 63)))) (x0 + 1) (Int32.toNatClampNeg x1) ((nI 1) <<< (x2 &&& 31)))) else none))))) = some r) : zEv (d + 1) zmB_putDigit [.ref x0, .int x1, .int x2] M = some r := by
  rw [zEv_succ]
  show zEx0 (zEv d) zmB_putDigit (0, [(0, .ref x0), (1, .int x1), (2, .int x2)], [], M) = some r
  refine y_pure (pc' := 1) (st' := [.ref x0]) rfl rfl ?_
  refine y_pure (pc' := 2) (st' := [.int x1, .ref x0]) rfl rfl ?_
  obtain ⟨v3, M2, he1, h⟩ := zC1_inv h
  refine y_callV (pc' := 5) (y := zmB_isOpen) (a' := [.int x1]) (st' := []) rfl rfl rfl rfl rfl (zrecv_o (o := 0) hk0 rfl) rfl he1 rfl rfl ?_
  rcases zif_inv h with ⟨hc4, h⟩ | ⟨hc4, h⟩
  · refine y_cnd (pc' := 37) rfl rfl (zc_eqT hc4) rfl ?_
    exact y_ret rfl rfl rfl rfl h
  · refine y_cnd (pc' := 8) rfl rfl (zc_eqF hc4) rfl ?_
    refine y_pure (pc' := 9) (st' := [.ref x0]) rfl rfl ?_
    refine y_pure (pc' := 10) (st' := [.int x2, .ref x0]) rfl rfl ?_
    obtain ⟨v7, M6, he5, h⟩ := zC1_inv h
    refine y_callV (pc' := 13) (y := zmB_isDigit) (a' := [.int x2]) (st' := []) rfl rfl rfl rfl rfl (zrecv_o (o := 0) hk0 rfl) rfl he5 rfl rfl ?_
    rcases zif_inv h with ⟨hc8, h⟩ | ⟨hc8, h⟩
    · refine y_cnd (pc' := 37) rfl rfl (zc_eqT hc8) rfl ?_
      exact y_ret rfl rfl rfl rfl h
    · refine y_cnd (pc' := 16) rfl rfl (zc_eqF hc8) rfl ?_
      refine y_pure (pc' := 17) (st' := [.ref x0]) rfl rfl ?_
      refine y_pure (pc' := 18) (st' := [.ref x0, .ref x0]) rfl rfl ?_
      refine y_getf (pc' := 21) (v := .long (M6.2 x0 6)) rfl rfl rfl hk0 rfl rfl ?_
      refine y_pure (pc' := 22) (st' := [.long (nJ 1), .long (M6.2 x0 6), .ref x0]) rfl rfl ?_
      refine y_pure (pc' := 23) (st' := [.int x1, .long (nJ 1), .long (M6.2 x0 6), .ref x0]) rfl rfl ?_
      refine y_pure (pc' := 24) (st' := [.long ((nJ 1) <<< (Int32.toInt64 x1 &&& 63)), .long (M6.2 x0 6), .ref x0]) rfl rfl ?_
      refine y_pure (pc' := 25) (st' := [.long ((M6.2 x0 6) ||| ((nJ 1) <<< (Int32.toInt64 x1 &&& 63))), .ref x0]) rfl rfl ?_
      refine y_putL (pc' := 28) rfl rfl hk0 rfl ?_
      refine y_pure (pc' := 29) (st' := [.ref x0]) rfl rfl ?_
      refine y_getf (pc' := 32) (v := .ref (x0 + 1)) rfl rfl rfl hk0 rfl rfl ?_
      refine y_pure (pc' := 33) (st' := [.int x1, .ref (x0 + 1)]) rfl rfl ?_
      refine y_pure (pc' := 34) (st' := [.int (nI 1), .int x1, .ref (x0 + 1)]) rfl rfl ?_
      refine y_pure (pc' := 35) (st' := [.int x2, .int (nI 1), .int x1, .ref (x0 + 1)]) rfl rfl ?_
      refine y_pure (pc' := 36) (st' := [.int ((nI 1) <<< (x2 &&& 31)), .int x1, .ref (x0 + 1)]) rfl rfl ?_
      obtain ⟨hi9, h⟩ := zg_inv h
      refine y_iast (pc' := 37) rfl (zf_0_8 hk0) hi9 rfl ?_
      exact y_ret rfl rfl rfl rfl h
theorem e_B_giveDigit {d : Nat} {x0 : Nat} {x1 : Int32} {x2 : Int32} {M : ZM} {r : ZR} (hk0 : zkd x0 = (10, 0)) (h : zC1 (zEv d zmB_isOpen [.ref x0, .int x1] M) (fun v3 M2 => (if v3 = (nI 0) then some (none, M2) else zC1 (zEv d zmB_isDigit [.ref x0, .int x2] M2) (fun v7 M6 => (if v7 = (nI 0) then some (none, M6) else zL (zpl (zpl M6 x0 5 ((M6.2 x0 5) ||| ((nJ 1) <<< (Int32.toInt64 x1 &&& 63)))) x0 6 (((zpl M6 x0 5 ((M6.2 x0 5) ||| ((nJ 1) <<< (Int32.toInt64 x1 &&& 63)))).2 x0 6) &&& (((nJ 1) <<< (Int32.toInt64 x1 &&& 63)) ^^^ (-1 : Int64)))) (fun M9 => (if zin x1 36 = true then some (none, (zpi M9 (x0 + 1) (Int32.toNatClampNeg x1) ((nI 1) <<< (x2 &&& 31)))) else none)))))) = some r) : zEv (d + 1) zmB_giveDigit [.ref x0, .int x1, .int x2] M = some r := by
  rw [zEv_succ]
  show zEx0 (zEv d) zmB_giveDigit (0, [(0, .ref x0), (1, .int x1), (2, .int x2)], [], M) = some r
  refine y_pure (pc' := 1) (st' := [.ref x0]) rfl rfl ?_
  refine y_pure (pc' := 2) (st' := [.int x1, .ref x0]) rfl rfl ?_
  obtain ⟨v3, M2, he1, h⟩ := zC1_inv h
  refine y_callV (pc' := 5) (y := zmB_isOpen) (a' := [.int x1]) (st' := []) rfl rfl rfl rfl rfl (zrecv_o (o := 0) hk0 rfl) rfl he1 rfl rfl ?_
  rcases zif_inv h with ⟨hc4, h⟩ | ⟨hc4, h⟩
  · refine y_cnd (pc' := 53) rfl rfl (zc_eqT hc4) rfl ?_
    exact y_ret rfl rfl rfl rfl h
  · refine y_cnd (pc' := 8) rfl rfl (zc_eqF hc4) rfl ?_
    refine y_pure (pc' := 9) (st' := [.ref x0]) rfl rfl ?_
    refine y_pure (pc' := 10) (st' := [.int x2, .ref x0]) rfl rfl ?_
    obtain ⟨v7, M6, he5, h⟩ := zC1_inv h
    refine y_callV (pc' := 13) (y := zmB_isDigit) (a' := [.int x2]) (st' := []) rfl rfl rfl rfl rfl (zrecv_o (o := 0) hk0 rfl) rfl he5 rfl rfl ?_
    rcases zif_inv h with ⟨hc8, h⟩ | ⟨hc8, h⟩
    · refine y_cnd (pc' := 53) rfl rfl (zc_eqT hc8) rfl ?_
      exact y_ret rfl rfl rfl rfl h
    · refine y_cnd (pc' := 16) rfl rfl (zc_eqF hc8) rfl ?_
      refine y_pure (pc' := 17) (st' := [.ref x0]) rfl rfl ?_
      refine y_pure (pc' := 18) (st' := [.ref x0, .ref x0]) rfl rfl ?_
      refine y_getf (pc' := 21) (v := .long (M6.2 x0 5)) rfl rfl rfl hk0 rfl rfl ?_
      refine y_pure (pc' := 22) (st' := [.long (nJ 1), .long (M6.2 x0 5), .ref x0]) rfl rfl ?_
      refine y_pure (pc' := 23) (st' := [.int x1, .long (nJ 1), .long (M6.2 x0 5), .ref x0]) rfl rfl ?_
      refine y_pure (pc' := 24) (st' := [.long ((nJ 1) <<< (Int32.toInt64 x1 &&& 63)), .long (M6.2 x0 5), .ref x0]) rfl rfl ?_
      refine y_pure (pc' := 25) (st' := [.long ((M6.2 x0 5) ||| ((nJ 1) <<< (Int32.toInt64 x1 &&& 63))), .ref x0]) rfl rfl ?_
      refine y_putL (pc' := 28) rfl rfl hk0 rfl ?_
      refine y_pure (pc' := 29) (st' := [.ref x0]) rfl rfl ?_
      refine y_pure (pc' := 30) (st' := [.ref x0, .ref x0]) rfl rfl ?_
      refine y_getf (pc' := 33) (v := .long ((zpl M6 x0 5 ((M6.2 x0 5) ||| ((nJ 1) <<< (Int32.toInt64 x1 &&& 63)))).2 x0 6)) rfl rfl rfl hk0 rfl rfl ?_
      refine y_pure (pc' := 34) (st' := [.long (nJ 1), .long ((zpl M6 x0 5 ((M6.2 x0 5) ||| ((nJ 1) <<< (Int32.toInt64 x1 &&& 63)))).2 x0 6), .ref x0]) rfl rfl ?_
      refine y_pure (pc' := 35) (st' := [.int x1, .long (nJ 1), .long ((zpl M6 x0 5 ((M6.2 x0 5) ||| ((nJ 1) <<< (Int32.toInt64 x1 &&& 63)))).2 x0 6), .ref x0]) rfl rfl ?_
      refine y_pure (pc' := 36) (st' := [.long ((nJ 1) <<< (Int32.toInt64 x1 &&& 63)), .long ((zpl M6 x0 5 ((M6.2 x0 5) ||| ((nJ 1) <<< (Int32.toInt64 x1 &&& 63)))).2 x0 6), .ref x0]) rfl rfl ?_
      refine y_pure (pc' := 39) (st' := [.long (-1 : Int64), .long ((nJ 1) <<< (Int32.toInt64 x1 &&& 63)), .long ((zpl M6 x0 5 ((M6.2 x0 5) ||| ((nJ 1) <<< (Int32.toInt64 x1 &&& 63)))).2 x0 6), .ref x0]) rfl rfl ?_
      refine y_pure (pc' := 40) (st' := [.long (((nJ 1) <<< (Int32.toInt64 x1 &&& 63)) ^^^ (-1 : Int64)), .long ((zpl M6 x0 5 ((M6.2 x0 5) ||| ((nJ 1) <<< (Int32.toInt64 x1 &&& 63)))).2 x0 6), .ref x0]) rfl rfl ?_
      refine y_pure (pc' := 41) (st' := [.long (((zpl M6 x0 5 ((M6.2 x0 5) ||| ((nJ 1) <<< (Int32.toInt64 x1 &&& 63)))).2 x0 6) &&& (((nJ 1) <<< (Int32.toInt64 x1 &&& 63)) ^^^ (-1 : Int64))), .ref x0]) rfl rfl ?_
      refine y_putL (pc' := 44) rfl rfl hk0 rfl ?_
      obtain ⟨M9, e10, h⟩ := zL_inv h
      refine zM_gen e10 ?_
      refine y_pure (pc' := 45) (st' := [.ref x0]) rfl rfl ?_
      refine y_getf (pc' := 48) (v := .ref (x0 + 1)) rfl rfl rfl hk0 rfl rfl ?_
      refine y_pure (pc' := 49) (st' := [.int x1, .ref (x0 + 1)]) rfl rfl ?_
      refine y_pure (pc' := 50) (st' := [.int (nI 1), .int x1, .ref (x0 + 1)]) rfl rfl ?_
      refine y_pure (pc' := 51) (st' := [.int x2, .int (nI 1), .int x1, .ref (x0 + 1)]) rfl rfl ?_
      refine y_pure (pc' := 52) (st' := [.int ((nI 1) <<< (x2 &&& 31)), .int x1, .ref (x0 + 1)]) rfl rfl ?_
      obtain ⟨hi11, h⟩ := zg_inv h
      refine y_iast (pc' := 53) rfl (zf_0_8 hk0) hi11 rfl ?_
      exact y_ret rfl rfl rfl rfl h
theorem e_B_free {d : Nat} {x0 : Nat} {x1 : Int32} {M : ZM} {r : ZR} (hk0 : zkd x0 = (10, 0)) (h : zC1 (zEv d zmB_isOpen [.ref x0, .int x1] M) (fun v3 M2 => (if v3 = (nI 0) then some (none, M2) else zC1 (zEv d zmB_allDigits [.ref x0] (zpl M2 x0 6 ((M2.2 x0 6) &&& (((nJ 1) <<< (Int32.toInt64 x1 &&& 63)) ^^^ (-1 : Int64))))) (fun v7 M6 => (if zin x1 36 = true then some (none, (zpi M6 (x0 + 1) (Int32.toNatClampNeg x1) v7)) else none)))) = some r) : zEv (d + 1) zmB_free [.ref x0, .int x1] M = some r := by
  rw [zEv_succ]
  show zEx0 (zEv d) zmB_free (0, [(0, .ref x0), (1, .int x1)], [], M) = some r
  refine y_pure (pc' := 1) (st' := [.ref x0]) rfl rfl ?_
  refine y_pure (pc' := 2) (st' := [.int x1, .ref x0]) rfl rfl ?_
  obtain ⟨v3, M2, he1, h⟩ := zC1_inv h
  refine y_callV (pc' := 5) (y := zmB_isOpen) (a' := [.int x1]) (st' := []) rfl rfl rfl rfl rfl (zrecv_o (o := 0) hk0 rfl) rfl he1 rfl rfl ?_
  rcases zif_inv h with ⟨hc4, h⟩ | ⟨hc4, h⟩
  · refine y_cnd (pc' := 34) rfl rfl (zc_eqT hc4) rfl ?_
    exact y_ret rfl rfl rfl rfl h
  · refine y_cnd (pc' := 8) rfl rfl (zc_eqF hc4) rfl ?_
    refine y_pure (pc' := 9) (st' := [.ref x0]) rfl rfl ?_
    refine y_pure (pc' := 10) (st' := [.ref x0, .ref x0]) rfl rfl ?_
    refine y_getf (pc' := 13) (v := .long (M2.2 x0 6)) rfl rfl rfl hk0 rfl rfl ?_
    refine y_pure (pc' := 14) (st' := [.long (nJ 1), .long (M2.2 x0 6), .ref x0]) rfl rfl ?_
    refine y_pure (pc' := 15) (st' := [.int x1, .long (nJ 1), .long (M2.2 x0 6), .ref x0]) rfl rfl ?_
    refine y_pure (pc' := 16) (st' := [.long ((nJ 1) <<< (Int32.toInt64 x1 &&& 63)), .long (M2.2 x0 6), .ref x0]) rfl rfl ?_
    refine y_pure (pc' := 19) (st' := [.long (-1 : Int64), .long ((nJ 1) <<< (Int32.toInt64 x1 &&& 63)), .long (M2.2 x0 6), .ref x0]) rfl rfl ?_
    refine y_pure (pc' := 20) (st' := [.long (((nJ 1) <<< (Int32.toInt64 x1 &&& 63)) ^^^ (-1 : Int64)), .long (M2.2 x0 6), .ref x0]) rfl rfl ?_
    refine y_pure (pc' := 21) (st' := [.long ((M2.2 x0 6) &&& (((nJ 1) <<< (Int32.toInt64 x1 &&& 63)) ^^^ (-1 : Int64))), .ref x0]) rfl rfl ?_
    refine y_putL (pc' := 24) rfl rfl hk0 rfl ?_
    refine y_pure (pc' := 25) (st' := [.ref x0]) rfl rfl ?_
    refine y_getf (pc' := 28) (v := .ref (x0 + 1)) rfl rfl rfl hk0 rfl rfl ?_
    refine y_pure (pc' := 29) (st' := [.int x1, .ref (x0 + 1)]) rfl rfl ?_
    refine y_pure (pc' := 30) (st' := [.ref x0, .int x1, .ref (x0 + 1)]) rfl rfl ?_
    obtain ⟨v7, M6, he5, h⟩ := zC1_inv h
    refine y_callV (pc' := 33) (y := zmB_allDigits) (a' := []) (st' := [.int x1, .ref (x0 + 1)]) rfl rfl rfl rfl rfl (zrecv_o (o := 0) hk0 rfl) rfl he5 rfl rfl ?_
    obtain ⟨hi8, h⟩ := zg_inv h
    refine y_iast (pc' := 34) rfl (zf_0_8 hk0) hi8 rfl ?_
    exact y_ret rfl rfl rfl rfl h
theorem e_B_block {d : Nat} {x0 : Nat} {x1 : Int32} {M : ZM} {r : ZR} (hk0 : zkd x0 = (10, 0)) (h : zC1 (zEv d zmB_isOpen [.ref x0, .int x1] M) (fun v3 M2 => (if v3 = (nI 0) then some (none, M2) else (if zin x1 36 = true then some (none, (zpi (zpl M2 x0 4 ((M2.2 x0 4) &&& (((nJ 1) <<< (Int32.toInt64 x1 &&& 63)) ^^^ (-1 : Int64)))) (x0 + 1) (Int32.toNatClampNeg x1) (nI 0))) else none))) = some r) : zEv (d + 1) zmB_block [.ref x0, .int x1] M = some r := by
  rw [zEv_succ]
  show zEx0 (zEv d) zmB_block (0, [(0, .ref x0), (1, .int x1)], [], M) = some r
  refine y_pure (pc' := 1) (st' := [.ref x0]) rfl rfl ?_
  refine y_pure (pc' := 2) (st' := [.int x1, .ref x0]) rfl rfl ?_
  obtain ⟨v3, M2, he1, h⟩ := zC1_inv h
  refine y_callV (pc' := 5) (y := zmB_isOpen) (a' := [.int x1]) (st' := []) rfl rfl rfl rfl rfl (zrecv_o (o := 0) hk0 rfl) rfl he1 rfl rfl ?_
  rcases zif_inv h with ⟨hc4, h⟩ | ⟨hc4, h⟩
  · refine y_cnd (pc' := 31) rfl rfl (zc_eqT hc4) rfl ?_
    exact y_ret rfl rfl rfl rfl h
  · refine y_cnd (pc' := 8) rfl rfl (zc_eqF hc4) rfl ?_
    refine y_pure (pc' := 9) (st' := [.ref x0]) rfl rfl ?_
    refine y_pure (pc' := 10) (st' := [.ref x0, .ref x0]) rfl rfl ?_
    refine y_getf (pc' := 13) (v := .long (M2.2 x0 4)) rfl rfl rfl hk0 rfl rfl ?_
    refine y_pure (pc' := 14) (st' := [.long (nJ 1), .long (M2.2 x0 4), .ref x0]) rfl rfl ?_
    refine y_pure (pc' := 15) (st' := [.int x1, .long (nJ 1), .long (M2.2 x0 4), .ref x0]) rfl rfl ?_
    refine y_pure (pc' := 16) (st' := [.long ((nJ 1) <<< (Int32.toInt64 x1 &&& 63)), .long (M2.2 x0 4), .ref x0]) rfl rfl ?_
    refine y_pure (pc' := 19) (st' := [.long (-1 : Int64), .long ((nJ 1) <<< (Int32.toInt64 x1 &&& 63)), .long (M2.2 x0 4), .ref x0]) rfl rfl ?_
    refine y_pure (pc' := 20) (st' := [.long (((nJ 1) <<< (Int32.toInt64 x1 &&& 63)) ^^^ (-1 : Int64)), .long (M2.2 x0 4), .ref x0]) rfl rfl ?_
    refine y_pure (pc' := 21) (st' := [.long ((M2.2 x0 4) &&& (((nJ 1) <<< (Int32.toInt64 x1 &&& 63)) ^^^ (-1 : Int64))), .ref x0]) rfl rfl ?_
    refine y_putL (pc' := 24) rfl rfl hk0 rfl ?_
    refine y_pure (pc' := 25) (st' := [.ref x0]) rfl rfl ?_
    refine y_getf (pc' := 28) (v := .ref (x0 + 1)) rfl rfl rfl hk0 rfl rfl ?_
    refine y_pure (pc' := 29) (st' := [.int x1, .ref (x0 + 1)]) rfl rfl ?_
    refine y_pure (pc' := 30) (st' := [.int (nI 0), .int x1, .ref (x0 + 1)]) rfl rfl ?_
    obtain ⟨hi5, h⟩ := zg_inv h
    refine y_iast (pc' := 31) rfl (zf_0_8 hk0) hi5 rfl ?_
    exact y_ret rfl rfl rfl rfl h
noncomputable def h_B_addCage_77 (d : Nat) (x0 : Nat) (x4 : Int64) (x6 : Int32) (x7 : Int32) (M : ZM) : Option ZR := zEx0 (zEv d) zmB_addCage (77, [(0, .ref x0), (4, .long x4), (6, .int x6), (7, .int x7)], [], M)
theorem e_B_addCage_77 {d : Nat} {x0 : Nat} {x4 : Int64} {x6 : Int32} {x7 : Int32} {M : ZM} {r : ZR} (hk0 : zkd x0 = (10, 0)) (h : (if x7 < (nI 36) then (if (lg_cmp ((x4 >>> (Int32.toInt64 x7 &&& 63)) &&& (nJ 1)) (nJ 1)) = (nI 0) then (if x6 < (nI 6) then (if zin (M.1 x0 3) 12 = true then (if zin x6 6 = true then h_B_addCage_77 d x0 x4 (x6 + (nI 1)) (x7 + (nI 1)) (zpi M (x0 + 7 + (Int32.toNatClampNeg (M.1 x0 3))) (Int32.toNatClampNeg x6) x7) else none) else none) else h_B_addCage_77 d x0 x4 x6 (x7 + (nI 1)) M) else h_B_addCage_77 d x0 x4 x6 (x7 + (nI 1)) M) else (if zin (M.1 x0 3) 12 = true then some (none, (zpi (zpi M (x0 + 4) (Int32.toNatClampNeg (M.1 x0 3)) x6) x0 3 (((zpi M (x0 + 4) (Int32.toNatClampNeg (M.1 x0 3)) x6).1 x0 3) + (nI 1)))) else none)) = some r) : h_B_addCage_77 d x0 x4 x6 x7 M = some r := by
  show zEx0 (zEv d) zmB_addCage (77, [(0, .ref x0), (4, .long x4), (6, .int x6), (7, .int x7)], [], M) = some r
  refine y_pure (pc' := 79) (st' := [.int x7]) rfl rfl ?_
  refine y_pure (pc' := 81) (st' := [.int (nI 36), .int x7]) rfl rfl ?_
  rcases zif_inv h with ⟨hc1, h⟩ | ⟨hc1, h⟩
  · refine y_cmp (pc' := 84) rfl rfl (zc_geF hc1) rfl ?_
    refine y_pure (pc' := 86) (st' := [.long x4]) rfl rfl ?_
    refine y_pure (pc' := 88) (st' := [.int x7, .long x4]) rfl rfl ?_
    refine y_pure (pc' := 89) (st' := [.long (x4 >>> (Int32.toInt64 x7 &&& 63))]) rfl rfl ?_
    refine y_pure (pc' := 90) (st' := [.long (nJ 1), .long (x4 >>> (Int32.toInt64 x7 &&& 63))]) rfl rfl ?_
    refine y_pure (pc' := 91) (st' := [.long ((x4 >>> (Int32.toInt64 x7 &&& 63)) &&& (nJ 1))]) rfl rfl ?_
    refine y_pure (pc' := 92) (st' := [.long (nJ 1), .long ((x4 >>> (Int32.toInt64 x7 &&& 63)) &&& (nJ 1))]) rfl rfl ?_
    refine y_pure (pc' := 93) (st' := [.int (lg_cmp ((x4 >>> (Int32.toInt64 x7 &&& 63)) &&& (nJ 1)) (nJ 1))]) rfl rfl ?_
    rcases zif_inv h with ⟨hc2, h⟩ | ⟨hc2, h⟩
    · refine y_cnd (pc' := 96) rfl rfl (zc_neF hc2) rfl ?_
      refine y_pure (pc' := 98) (st' := [.int x6]) rfl rfl ?_
      refine y_pure (pc' := 100) (st' := [.int (nI 6), .int x6]) rfl rfl ?_
      rcases zif_inv h with ⟨hc3, h⟩ | ⟨hc3, h⟩
      · refine y_cmp (pc' := 103) rfl rfl (zc_geF hc3) rfl ?_
        refine y_pure (pc' := 104) (st' := [.ref x0]) rfl rfl ?_
        refine y_getf (pc' := 107) (v := .ref (x0 + 6)) rfl rfl rfl hk0 rfl rfl ?_
        refine y_pure (pc' := 108) (st' := [.ref x0, .ref (x0 + 6)]) rfl rfl ?_
        refine y_getf (pc' := 111) (v := .int (M.1 x0 3)) rfl rfl rfl hk0 rfl rfl ?_
        obtain ⟨hi4, h⟩ := zg_inv h
        refine y_aald (pc' := 112) (q' := x0 + 7 + (Int32.toNatClampNeg (M.1 x0 3))) rfl (zf_0_13 hk0) hi4 (congrArg (HAdd.hAdd (x0 + 7)) (Nat.one_mul _)) rfl ?_
        refine y_pure (pc' := 114) (st' := [.int x6, .ref (x0 + 7 + (Int32.toNatClampNeg (M.1 x0 3)))]) rfl rfl ?_
        refine y_pure (pc' := 116) (st' := [.int x7, .int x6, .ref (x0 + 7 + (Int32.toNatClampNeg (M.1 x0 3)))]) rfl rfl ?_
        obtain ⟨hi5, h⟩ := zg_inv h
        refine y_iast (pc' := 117) rfl (zl_0 (zf_0_13 hk0) hi4) hi5 rfl ?_
        refine y_pure (pc' := 120) (ls' := [(0, .ref x0), (4, .long x4), (6, .int (x6 + (nI 1))), (7, .int x7)]) (st' := []) rfl rfl ?_
        refine y_pure (pc' := 123) (ls' := [(0, .ref x0), (4, .long x4), (6, .int (x6 + (nI 1))), (7, .int (x7 + (nI 1)))]) (st' := []) rfl rfl ?_
        refine y_pure (pc' := 77) rfl rfl ?_
        refine zEx_sub ?_ h
        exact ⟨rfl, rfl, rfl, rfl, trivial⟩
      · refine y_cmp (pc' := 120) rfl rfl (zc_geT hc3) rfl ?_
        refine y_pure (pc' := 123) (ls' := [(0, .ref x0), (4, .long x4), (6, .int x6), (7, .int (x7 + (nI 1)))]) (st' := []) rfl rfl ?_
        refine y_pure (pc' := 77) rfl rfl ?_
        refine zEx_sub ?_ h
        exact ⟨rfl, rfl, rfl, rfl, trivial⟩
    · refine y_cnd (pc' := 120) rfl rfl (zc_neT hc2) rfl ?_
      refine y_pure (pc' := 123) (ls' := [(0, .ref x0), (4, .long x4), (6, .int x6), (7, .int (x7 + (nI 1)))]) (st' := []) rfl rfl ?_
      refine y_pure (pc' := 77) rfl rfl ?_
      refine zEx_sub ?_ h
      exact ⟨rfl, rfl, rfl, rfl, trivial⟩
  · refine y_cmp (pc' := 126) rfl rfl (zc_geT hc1) rfl ?_
    refine y_pure (pc' := 127) (st' := [.ref x0]) rfl rfl ?_
    refine y_getf (pc' := 130) (v := .ref (x0 + 4)) rfl rfl rfl hk0 rfl rfl ?_
    refine y_pure (pc' := 131) (st' := [.ref x0, .ref (x0 + 4)]) rfl rfl ?_
    refine y_getf (pc' := 134) (v := .int (M.1 x0 3)) rfl rfl rfl hk0 rfl rfl ?_
    refine y_pure (pc' := 136) (st' := [.int x6, .int (M.1 x0 3), .ref (x0 + 4)]) rfl rfl ?_
    obtain ⟨hi6, h⟩ := zg_inv h
    refine y_iast (pc' := 137) rfl (zf_0_11 hk0) hi6 rfl ?_
    refine y_pure (pc' := 138) (st' := [.ref x0]) rfl rfl ?_
    refine y_pure (pc' := 139) (st' := [.ref x0, .ref x0]) rfl rfl ?_
    refine y_getf (pc' := 142) (v := .int ((zpi M (x0 + 4) (Int32.toNatClampNeg (M.1 x0 3)) x6).1 x0 3)) rfl rfl rfl hk0 rfl rfl ?_
    refine y_pure (pc' := 143) (st' := [.int (nI 1), .int ((zpi M (x0 + 4) (Int32.toNatClampNeg (M.1 x0 3)) x6).1 x0 3), .ref x0]) rfl rfl ?_
    refine y_pure (pc' := 144) (st' := [.int (((zpi M (x0 + 4) (Int32.toNatClampNeg (M.1 x0 3)) x6).1 x0 3) + (nI 1)), .ref x0]) rfl rfl ?_
    refine y_putI (pc' := 147) rfl rfl hk0 rfl ?_
    exact y_ret rfl rfl rfl rfl h
theorem e_B_addCage {d : Nat} {x0 : Nat} {x1 : Int32} {x2 : Int32} {x3 : Int32} {x4 : Int64} {M : ZM} {r : ZR} (hk0 : zkd x0 = (10, 0)) (h : (if (M.1 x0 3) < (nI 0) then some (none, M) else (if (M.1 x0 3) < (nI 12) then (if zin (M.1 x0 3) 12 = true then (if zin ((zpi M (x0 + 2) (Int32.toNatClampNeg (M.1 x0 3)) x1).1 x0 3) 12 = true then zL (zpi (zpi M (x0 + 2) (Int32.toNatClampNeg (M.1 x0 3)) x1) (x0 + 3) (Int32.toNatClampNeg ((zpi M (x0 + 2) (Int32.toNatClampNeg (M.1 x0 3)) x1).1 x0 3)) x2) (fun M5 => (if zin (M5.1 x0 3) 12 = true then (if x3 = (nI 0) then zL (zpi (zpl M5 (x0 + 5) (Int32.toNatClampNeg (M5.1 x0 3)) x4) x0 7 (((zpl M5 (x0 + 5) (Int32.toNatClampNeg (M5.1 x0 3)) x4).1 x0 7) ||| (nI 0))) (fun M9 => h_B_addCage_77 d x0 x4 (nI 0) (nI 0) M9) else zL (zpi (zpl M5 (x0 + 5) (Int32.toNatClampNeg (M5.1 x0 3)) x4) x0 7 (((zpl M5 (x0 + 5) (Int32.toNatClampNeg (M5.1 x0 3)) x4).1 x0 7) ||| ((nI 1) <<< (((zpl M5 (x0 + 5) (Int32.toNatClampNeg (M5.1 x0 3)) x4).1 x0 3) &&& 31)))) (fun M11 => h_B_addCage_77 d x0 x4 (nI 0) (nI 0) M11)) else none)) else none) else none) else some (none, M))) = some r) : zEv (d + 1) zmB_addCage [.ref x0, .int x1, .int x2, .int x3, .long x4] M = some r := by
  rw [zEv_succ]
  show zEx0 (zEv d) zmB_addCage (0, [(0, .ref x0), (1, .int x1), (2, .int x2), (3, .int x3), (4, .long x4)], [], M) = some r
  refine y_pure (pc' := 1) (st' := [.ref x0]) rfl rfl ?_
  refine y_getf (pc' := 4) (v := .int (M.1 x0 3)) rfl rfl rfl hk0 rfl rfl ?_
  rcases zif_inv h with ⟨hc1, h⟩ | ⟨hc1, h⟩
  · refine y_cnd (pc' := 16) rfl rfl (zc_ltT hc1) rfl ?_
    exact y_ret rfl rfl rfl rfl h
  · refine y_cnd (pc' := 7) rfl rfl (zc_ltF hc1) rfl ?_
    refine y_pure (pc' := 8) (st' := [.ref x0]) rfl rfl ?_
    refine y_getf (pc' := 11) (v := .int (M.1 x0 3)) rfl rfl rfl hk0 rfl rfl ?_
    refine y_pure (pc' := 13) (st' := [.int (nI 12), .int (M.1 x0 3)]) rfl rfl ?_
    rcases zif_inv h with ⟨hc2, h⟩ | ⟨hc2, h⟩
    · refine y_cmp (pc' := 17) rfl rfl (zc_ltT hc2) rfl ?_
      refine y_pure (pc' := 18) (st' := [.ref x0]) rfl rfl ?_
      refine y_getf (pc' := 21) (v := .ref (x0 + 2)) rfl rfl rfl hk0 rfl rfl ?_
      refine y_pure (pc' := 22) (st' := [.ref x0, .ref (x0 + 2)]) rfl rfl ?_
      refine y_getf (pc' := 25) (v := .int (M.1 x0 3)) rfl rfl rfl hk0 rfl rfl ?_
      refine y_pure (pc' := 26) (st' := [.int x1, .int (M.1 x0 3), .ref (x0 + 2)]) rfl rfl ?_
      obtain ⟨hi3, h⟩ := zg_inv h
      refine y_iast (pc' := 27) rfl (zf_0_9 hk0) hi3 rfl ?_
      refine y_pure (pc' := 28) (st' := [.ref x0]) rfl rfl ?_
      refine y_getf (pc' := 31) (v := .ref (x0 + 3)) rfl rfl rfl hk0 rfl rfl ?_
      refine y_pure (pc' := 32) (st' := [.ref x0, .ref (x0 + 3)]) rfl rfl ?_
      refine y_getf (pc' := 35) (v := .int ((zpi M (x0 + 2) (Int32.toNatClampNeg (M.1 x0 3)) x1).1 x0 3)) rfl rfl rfl hk0 rfl rfl ?_
      refine y_pure (pc' := 36) (st' := [.int x2, .int ((zpi M (x0 + 2) (Int32.toNatClampNeg (M.1 x0 3)) x1).1 x0 3), .ref (x0 + 3)]) rfl rfl ?_
      obtain ⟨hi4, h⟩ := zg_inv h
      refine y_iast (pc' := 37) rfl (zf_0_10 hk0) hi4 rfl ?_
      obtain ⟨M5, e6, h⟩ := zL_inv h
      refine zM_gen e6 ?_
      refine y_pure (pc' := 38) (st' := [.ref x0]) rfl rfl ?_
      refine y_getf (pc' := 41) (v := .ref (x0 + 5)) rfl rfl rfl hk0 rfl rfl ?_
      refine y_pure (pc' := 42) (st' := [.ref x0, .ref (x0 + 5)]) rfl rfl ?_
      refine y_getf (pc' := 45) (v := .int (M5.1 x0 3)) rfl rfl rfl hk0 rfl rfl ?_
      refine y_pure (pc' := 47) (st' := [.long x4, .int (M5.1 x0 3), .ref (x0 + 5)]) rfl rfl ?_
      obtain ⟨hi7, h⟩ := zg_inv h
      refine y_last (pc' := 48) rfl (zf_0_12 hk0) hi7 rfl ?_
      refine y_pure (pc' := 49) (st' := [.ref x0]) rfl rfl ?_
      refine y_pure (pc' := 50) (st' := [.ref x0, .ref x0]) rfl rfl ?_
      refine y_getf (pc' := 53) (v := .int ((zpl M5 (x0 + 5) (Int32.toNatClampNeg (M5.1 x0 3)) x4).1 x0 7)) rfl rfl rfl hk0 rfl rfl ?_
      refine y_pure (pc' := 54) (st' := [.int x3, .int ((zpl M5 (x0 + 5) (Int32.toNatClampNeg (M5.1 x0 3)) x4).1 x0 7), .ref x0]) rfl rfl ?_
      rcases zif_inv h with ⟨hc8, h⟩ | ⟨hc8, h⟩
      · refine y_cnd (pc' := 66) rfl rfl (zc_eqT hc8) rfl ?_
        refine y_pure (pc' := 67) (st' := [.int (nI 0), .int ((zpl M5 (x0 + 5) (Int32.toNatClampNeg (M5.1 x0 3)) x4).1 x0 7), .ref x0]) rfl rfl ?_
        refine y_pure (pc' := 68) (st' := [.int (((zpl M5 (x0 + 5) (Int32.toNatClampNeg (M5.1 x0 3)) x4).1 x0 7) ||| (nI 0)), .ref x0]) rfl rfl ?_
        refine y_putI (pc' := 71) rfl rfl hk0 rfl ?_
        obtain ⟨M9, e10, h⟩ := zL_inv h
        refine zM_gen e10 ?_
        refine y_pure (pc' := 72) (st' := [.int (nI 0)]) rfl rfl ?_
        refine y_pure (pc' := 74) (ls' := [(0, .ref x0), (1, .int x1), (2, .int x2), (3, .int x3), (4, .long x4), (6, .int (nI 0))]) (st' := []) rfl rfl ?_
        refine y_pure (pc' := 75) (st' := [.int (nI 0)]) rfl rfl ?_
        refine y_pure (pc' := 77) (ls' := [(0, .ref x0), (1, .int x1), (2, .int x2), (3, .int x3), (4, .long x4), (6, .int (nI 0)), (7, .int (nI 0))]) (st' := []) rfl rfl ?_
        refine zEx_sub ?_ h
        exact ⟨rfl, rfl, rfl, rfl, trivial⟩
      · refine y_cnd (pc' := 57) rfl rfl (zc_eqF hc8) rfl ?_
        refine y_pure (pc' := 58) (st' := [.int (nI 1), .int ((zpl M5 (x0 + 5) (Int32.toNatClampNeg (M5.1 x0 3)) x4).1 x0 7), .ref x0]) rfl rfl ?_
        refine y_pure (pc' := 59) (st' := [.ref x0, .int (nI 1), .int ((zpl M5 (x0 + 5) (Int32.toNatClampNeg (M5.1 x0 3)) x4).1 x0 7), .ref x0]) rfl rfl ?_
        refine y_getf (pc' := 62) (v := .int ((zpl M5 (x0 + 5) (Int32.toNatClampNeg (M5.1 x0 3)) x4).1 x0 3)) rfl rfl rfl hk0 rfl rfl ?_
        refine y_pure (pc' := 63) (st' := [.int ((nI 1) <<< (((zpl M5 (x0 + 5) (Int32.toNatClampNeg (M5.1 x0 3)) x4).1 x0 3) &&& 31)), .int ((zpl M5 (x0 + 5) (Int32.toNatClampNeg (M5.1 x0 3)) x4).1 x0 7), .ref x0]) rfl rfl ?_
        refine y_pure (pc' := 67) rfl rfl ?_
        refine y_pure (pc' := 68) (st' := [.int (((zpl M5 (x0 + 5) (Int32.toNatClampNeg (M5.1 x0 3)) x4).1 x0 7) ||| ((nI 1) <<< (((zpl M5 (x0 + 5) (Int32.toNatClampNeg (M5.1 x0 3)) x4).1 x0 3) &&& 31))), .ref x0]) rfl rfl ?_
        refine y_putI (pc' := 71) rfl rfl hk0 rfl ?_
        obtain ⟨M11, e12, h⟩ := zL_inv h
        refine zM_gen e12 ?_
        refine y_pure (pc' := 72) (st' := [.int (nI 0)]) rfl rfl ?_
        refine y_pure (pc' := 74) (ls' := [(0, .ref x0), (1, .int x1), (2, .int x2), (3, .int x3), (4, .long x4), (6, .int (nI 0))]) (st' := []) rfl rfl ?_
        refine y_pure (pc' := 75) (st' := [.int (nI 0)]) rfl rfl ?_
        refine y_pure (pc' := 77) (ls' := [(0, .ref x0), (1, .int x1), (2, .int x2), (3, .int x3), (4, .long x4), (6, .int (nI 0)), (7, .int (nI 0))]) (st' := []) rfl rfl ?_
        refine zEx_sub ?_ h
        exact ⟨rfl, rfl, rfl, rfl, trivial⟩
    · refine y_cmp (pc' := 16) rfl rfl (zc_ltF hc2) rfl ?_
      exact y_ret rfl rfl rfl rfl h
noncomputable def h_B_cagesOf_4 (d : Nat) (x0 : Nat) (x1 : Int32) (x2 : Int32) (x3 : Int32) (M : ZM) : Option ZR := zEx0 (zEv d) zmB_cagesOf (4, [(0, .ref x0), (1, .int x1), (2, .int x2), (3, .int x3)], [], M)
theorem e_B_cagesOf_4 {d : Nat} {x0 : Nat} {x1 : Int32} {x2 : Int32} {x3 : Int32} {M : ZM} {r : ZR} (hk0 : zkd x0 = (10, 0)) (h : (if x3 < (M.1 x0 3) then (if x3 < (nI 12) then zC1 (zEv d zmB_isCell [.ref x0, .int x1] M) (fun v5 M4 => (if v5 = (nI 0) then h_B_cagesOf_4 d x0 x1 x2 (x3 + (nI 1)) M4 else (if zin x3 12 = true then (if (lg_cmp (((M4.2 (x0 + 5) (Int32.toNatClampNeg x3)) >>> (Int32.toInt64 x1 &&& 63)) &&& (nJ 1)) (nJ 1)) = (nI 0) then h_B_cagesOf_4 d x0 x1 (x2 ||| ((nI 1) <<< (x3 &&& 31))) (x3 + (nI 1)) M4 else h_B_cagesOf_4 d x0 x1 x2 (x3 + (nI 1)) M4) else none))) else some (some (.int x2), M)) else some (some (.int x2), M)) = some r) : h_B_cagesOf_4 d x0 x1 x2 x3 M = some r := by
  show zEx0 (zEv d) zmB_cagesOf (4, [(0, .ref x0), (1, .int x1), (2, .int x2), (3, .int x3)], [], M) = some r
  refine y_pure (pc' := 5) (st' := [.int x3]) rfl rfl ?_
  refine y_pure (pc' := 6) (st' := [.ref x0, .int x3]) rfl rfl ?_
  refine y_getf (pc' := 9) (v := .int (M.1 x0 3)) rfl rfl rfl hk0 rfl rfl ?_
  rcases zif_inv h with ⟨hc1, h⟩ | ⟨hc1, h⟩
  · refine y_cmp (pc' := 12) rfl rfl (zc_geF hc1) rfl ?_
    refine y_pure (pc' := 13) (st' := [.int x3]) rfl rfl ?_
    refine y_pure (pc' := 15) (st' := [.int (nI 12), .int x3]) rfl rfl ?_
    rcases zif_inv h with ⟨hc2, h⟩ | ⟨hc2, h⟩
    · refine y_cmp (pc' := 18) rfl rfl (zc_geF hc2) rfl ?_
      refine y_pure (pc' := 19) (st' := [.ref x0]) rfl rfl ?_
      refine y_pure (pc' := 20) (st' := [.int x1, .ref x0]) rfl rfl ?_
      obtain ⟨v5, M4, he3, h⟩ := zC1_inv h
      refine y_callV (pc' := 23) (y := zmB_isCell) (a' := [.int x1]) (st' := []) rfl rfl rfl rfl rfl (zrecv_o (o := 0) hk0 rfl) rfl he3 rfl rfl ?_
      rcases zif_inv h with ⟨hc6, h⟩ | ⟨hc6, h⟩
      · refine y_cnd (pc' := 47) rfl rfl (zc_eqT hc6) rfl ?_
        refine y_pure (pc' := 50) (ls' := [(0, .ref x0), (1, .int x1), (2, .int x2), (3, .int (x3 + (nI 1)))]) (st' := []) rfl rfl ?_
        refine y_pure (pc' := 4) rfl rfl ?_
        refine zEx_sub ?_ h
        exact ⟨rfl, rfl, rfl, rfl, trivial⟩
      · refine y_cnd (pc' := 26) rfl rfl (zc_eqF hc6) rfl ?_
        refine y_pure (pc' := 27) (st' := [.ref x0]) rfl rfl ?_
        refine y_getf (pc' := 30) (v := .ref (x0 + 5)) rfl rfl rfl hk0 rfl rfl ?_
        refine y_pure (pc' := 31) (st' := [.int x3, .ref (x0 + 5)]) rfl rfl ?_
        obtain ⟨hi7, h⟩ := zg_inv h
        refine y_lald (pc' := 32) rfl (zf_0_12 hk0) hi7 rfl ?_
        refine y_pure (pc' := 33) (st' := [.int x1, .long (M4.2 (x0 + 5) (Int32.toNatClampNeg x3))]) rfl rfl ?_
        refine y_pure (pc' := 34) (st' := [.long ((M4.2 (x0 + 5) (Int32.toNatClampNeg x3)) >>> (Int32.toInt64 x1 &&& 63))]) rfl rfl ?_
        refine y_pure (pc' := 35) (st' := [.long (nJ 1), .long ((M4.2 (x0 + 5) (Int32.toNatClampNeg x3)) >>> (Int32.toInt64 x1 &&& 63))]) rfl rfl ?_
        refine y_pure (pc' := 36) (st' := [.long (((M4.2 (x0 + 5) (Int32.toNatClampNeg x3)) >>> (Int32.toInt64 x1 &&& 63)) &&& (nJ 1))]) rfl rfl ?_
        refine y_pure (pc' := 37) (st' := [.long (nJ 1), .long (((M4.2 (x0 + 5) (Int32.toNatClampNeg x3)) >>> (Int32.toInt64 x1 &&& 63)) &&& (nJ 1))]) rfl rfl ?_
        refine y_pure (pc' := 38) (st' := [.int (lg_cmp (((M4.2 (x0 + 5) (Int32.toNatClampNeg x3)) >>> (Int32.toInt64 x1 &&& 63)) &&& (nJ 1)) (nJ 1))]) rfl rfl ?_
        rcases zif_inv h with ⟨hc8, h⟩ | ⟨hc8, h⟩
        · refine y_cnd (pc' := 41) rfl rfl (zc_neF hc8) rfl ?_
          refine y_pure (pc' := 42) (st' := [.int x2]) rfl rfl ?_
          refine y_pure (pc' := 43) (st' := [.int (nI 1), .int x2]) rfl rfl ?_
          refine y_pure (pc' := 44) (st' := [.int x3, .int (nI 1), .int x2]) rfl rfl ?_
          refine y_pure (pc' := 45) (st' := [.int ((nI 1) <<< (x3 &&& 31)), .int x2]) rfl rfl ?_
          refine y_pure (pc' := 46) (st' := [.int (x2 ||| ((nI 1) <<< (x3 &&& 31)))]) rfl rfl ?_
          refine y_pure (pc' := 47) (ls' := [(0, .ref x0), (1, .int x1), (2, .int (x2 ||| ((nI 1) <<< (x3 &&& 31)))), (3, .int x3)]) (st' := []) rfl rfl ?_
          refine y_pure (pc' := 50) (ls' := [(0, .ref x0), (1, .int x1), (2, .int (x2 ||| ((nI 1) <<< (x3 &&& 31)))), (3, .int (x3 + (nI 1)))]) (st' := []) rfl rfl ?_
          refine y_pure (pc' := 4) rfl rfl ?_
          refine zEx_sub ?_ h
          exact ⟨rfl, rfl, rfl, rfl, trivial⟩
        · refine y_cnd (pc' := 47) rfl rfl (zc_neT hc8) rfl ?_
          refine y_pure (pc' := 50) (ls' := [(0, .ref x0), (1, .int x1), (2, .int x2), (3, .int (x3 + (nI 1)))]) (st' := []) rfl rfl ?_
          refine y_pure (pc' := 4) rfl rfl ?_
          refine zEx_sub ?_ h
          exact ⟨rfl, rfl, rfl, rfl, trivial⟩
    · refine y_cmp (pc' := 53) rfl rfl (zc_geT hc2) rfl ?_
      refine y_pure (pc' := 54) (st' := [.int x2]) rfl rfl ?_
      exact y_ret rfl rfl rfl rfl h
  · refine y_cmp (pc' := 53) rfl rfl (zc_geT hc1) rfl ?_
    refine y_pure (pc' := 54) (st' := [.int x2]) rfl rfl ?_
    exact y_ret rfl rfl rfl rfl h
theorem e_B_cagesOf {d : Nat} {x0 : Nat} {x1 : Int32} {M : ZM} {r : ZR} (hk0 : zkd x0 = (10, 0)) (h : h_B_cagesOf_4 d x0 x1 (nI 0) (nI 0) M = some r) : zEv (d + 1) zmB_cagesOf [.ref x0, .int x1] M = some r := by
  rw [zEv_succ]
  show zEx0 (zEv d) zmB_cagesOf (0, [(0, .ref x0), (1, .int x1)], [], M) = some r
  refine y_pure (pc' := 1) (st' := [.int (nI 0)]) rfl rfl ?_
  refine y_pure (pc' := 2) (ls' := [(0, .ref x0), (1, .int x1), (2, .int (nI 0))]) (st' := []) rfl rfl ?_
  refine y_pure (pc' := 3) (st' := [.int (nI 0)]) rfl rfl ?_
  refine y_pure (pc' := 4) (ls' := [(0, .ref x0), (1, .int x1), (2, .int (nI 0)), (3, .int (nI 0))]) (st' := []) rfl rfl ?_
  refine zEx_sub ?_ h
  exact ⟨rfl, rfl, rfl, rfl, trivial⟩
theorem e_B_placeIn {d : Nat} {x0 : Nat} {x1 : Int32} {x2 : Int32} {M : ZM} {r : ZR} (hk0 : zkd x0 = (10, 0)) (h : zC1 (zEv d zmB_isCage [.ref x0, .int x1] M) (fun v3 M2 => (if v3 = (nI 0) then some (some (.int (-1 : Int32)), M2) else zC1 (zEv d zmB_isCell [.ref x0, .int x2] M2) (fun v7 M6 => (if v7 = (nI 0) then some (some (.int (-1 : Int32)), M6) else (if zin x1 12 = true then (if (lg_cmp (((M6.2 (x0 + 5) (Int32.toNatClampNeg x1)) >>> (Int32.toInt64 x2 &&& 63)) &&& (nJ 1)) (nJ 0)) = (nI 0) then some (some (.int (-1 : Int32)), M6) else zC1 (zEv d zmJL_bitCount [.long ((M6.2 (x0 + 5) (Int32.toNatClampNeg x1)) &&& (((nJ 1) <<< (Int32.toInt64 x2 &&& 63)) - (nJ 1)))] M6) (fun v13 M12 => some (some (.int v13), M12))) else none))))) = some r) : zEv (d + 1) zmB_placeIn [.ref x0, .int x1, .int x2] M = some r := by
  rw [zEv_succ]
  show zEx0 (zEv d) zmB_placeIn (0, [(0, .ref x0), (1, .int x1), (2, .int x2)], [], M) = some r
  refine y_pure (pc' := 1) (st' := [.ref x0]) rfl rfl ?_
  refine y_pure (pc' := 2) (st' := [.int x1, .ref x0]) rfl rfl ?_
  obtain ⟨v3, M2, he1, h⟩ := zC1_inv h
  refine y_callV (pc' := 5) (y := zmB_isCage) (a' := [.int x1]) (st' := []) rfl rfl rfl rfl rfl (zrecv_o (o := 0) hk0 rfl) rfl he1 rfl rfl ?_
  rcases zif_inv h with ⟨hc4, h⟩ | ⟨hc4, h⟩
  · refine y_cnd (pc' := 31) rfl rfl (zc_eqT hc4) rfl ?_
    refine y_pure (pc' := 32) (st' := [.int (-1 : Int32)]) rfl rfl ?_
    exact y_ret rfl rfl rfl rfl h
  · refine y_cnd (pc' := 8) rfl rfl (zc_eqF hc4) rfl ?_
    refine y_pure (pc' := 9) (st' := [.ref x0]) rfl rfl ?_
    refine y_pure (pc' := 10) (st' := [.int x2, .ref x0]) rfl rfl ?_
    obtain ⟨v7, M6, he5, h⟩ := zC1_inv h
    refine y_callV (pc' := 13) (y := zmB_isCell) (a' := [.int x2]) (st' := []) rfl rfl rfl rfl rfl (zrecv_o (o := 0) hk0 rfl) rfl he5 rfl rfl ?_
    rcases zif_inv h with ⟨hc8, h⟩ | ⟨hc8, h⟩
    · refine y_cnd (pc' := 31) rfl rfl (zc_eqT hc8) rfl ?_
      refine y_pure (pc' := 32) (st' := [.int (-1 : Int32)]) rfl rfl ?_
      exact y_ret rfl rfl rfl rfl h
    · refine y_cnd (pc' := 16) rfl rfl (zc_eqF hc8) rfl ?_
      refine y_pure (pc' := 17) (st' := [.ref x0]) rfl rfl ?_
      refine y_getf (pc' := 20) (v := .ref (x0 + 5)) rfl rfl rfl hk0 rfl rfl ?_
      refine y_pure (pc' := 21) (st' := [.int x1, .ref (x0 + 5)]) rfl rfl ?_
      obtain ⟨hi9, h⟩ := zg_inv h
      refine y_lald (pc' := 22) rfl (zf_0_12 hk0) hi9 rfl ?_
      refine y_pure (pc' := 23) (st' := [.int x2, .long (M6.2 (x0 + 5) (Int32.toNatClampNeg x1))]) rfl rfl ?_
      refine y_pure (pc' := 24) (st' := [.long ((M6.2 (x0 + 5) (Int32.toNatClampNeg x1)) >>> (Int32.toInt64 x2 &&& 63))]) rfl rfl ?_
      refine y_pure (pc' := 25) (st' := [.long (nJ 1), .long ((M6.2 (x0 + 5) (Int32.toNatClampNeg x1)) >>> (Int32.toInt64 x2 &&& 63))]) rfl rfl ?_
      refine y_pure (pc' := 26) (st' := [.long (((M6.2 (x0 + 5) (Int32.toNatClampNeg x1)) >>> (Int32.toInt64 x2 &&& 63)) &&& (nJ 1))]) rfl rfl ?_
      refine y_pure (pc' := 27) (st' := [.long (nJ 0), .long (((M6.2 (x0 + 5) (Int32.toNatClampNeg x1)) >>> (Int32.toInt64 x2 &&& 63)) &&& (nJ 1))]) rfl rfl ?_
      refine y_pure (pc' := 28) (st' := [.int (lg_cmp (((M6.2 (x0 + 5) (Int32.toNatClampNeg x1)) >>> (Int32.toInt64 x2 &&& 63)) &&& (nJ 1)) (nJ 0))]) rfl rfl ?_
      rcases zif_inv h with ⟨hc10, h⟩ | ⟨hc10, h⟩
      · refine y_cnd (pc' := 31) rfl rfl (zc_neF hc10) rfl ?_
        refine y_pure (pc' := 32) (st' := [.int (-1 : Int32)]) rfl rfl ?_
        exact y_ret rfl rfl rfl rfl h
      · refine y_cnd (pc' := 33) rfl rfl (zc_neT hc10) rfl ?_
        refine y_pure (pc' := 34) (st' := [.ref x0]) rfl rfl ?_
        refine y_getf (pc' := 37) (v := .ref (x0 + 5)) rfl rfl rfl hk0 rfl rfl ?_
        refine y_pure (pc' := 38) (st' := [.int x1, .ref (x0 + 5)]) rfl rfl ?_
        refine y_lald (pc' := 39) rfl (zf_0_12 hk0) hi9 rfl ?_
        refine y_pure (pc' := 40) (st' := [.long (nJ 1), .long (M6.2 (x0 + 5) (Int32.toNatClampNeg x1))]) rfl rfl ?_
        refine y_pure (pc' := 41) (st' := [.int x2, .long (nJ 1), .long (M6.2 (x0 + 5) (Int32.toNatClampNeg x1))]) rfl rfl ?_
        refine y_pure (pc' := 42) (st' := [.long ((nJ 1) <<< (Int32.toInt64 x2 &&& 63)), .long (M6.2 (x0 + 5) (Int32.toNatClampNeg x1))]) rfl rfl ?_
        refine y_pure (pc' := 43) (st' := [.long (nJ 1), .long ((nJ 1) <<< (Int32.toInt64 x2 &&& 63)), .long (M6.2 (x0 + 5) (Int32.toNatClampNeg x1))]) rfl rfl ?_
        refine y_pure (pc' := 44) (st' := [.long (((nJ 1) <<< (Int32.toInt64 x2 &&& 63)) - (nJ 1)), .long (M6.2 (x0 + 5) (Int32.toNatClampNeg x1))]) rfl rfl ?_
        refine y_pure (pc' := 45) (st' := [.long ((M6.2 (x0 + 5) (Int32.toNatClampNeg x1)) &&& (((nJ 1) <<< (Int32.toInt64 x2 &&& 63)) - (nJ 1)))]) rfl rfl ?_
        obtain ⟨v13, M12, he11, h⟩ := zC1_inv h
        refine y_callS (pc' := 48) (y := zmJL_bitCount) (a := [.long ((M6.2 (x0 + 5) (Int32.toNatClampNeg x1)) &&& (((nJ 1) <<< (Int32.toInt64 x2 &&& 63)) - (nJ 1)))]) (st' := []) rfl rfl rfl rfl rfl rfl he11 rfl rfl ?_
        exact y_ret rfl rfl rfl rfl h
theorem e_B_placeOf {d : Nat} {x0 : Nat} {x1 : Int32} {M : ZM} {r : ZR} (hk0 : zkd x0 = (10, 0)) (h : zC1 (zEv d zmB_isOpen [.ref x0, .int x1] M) (fun v3 M2 => (if v3 = (nI 0) then some (some (.int (-1 : Int32)), M2) else zC1 (zEv d zmJL_bitCount [.long ((M2.2 x0 4) &&& (((nJ 1) <<< (Int32.toInt64 x1 &&& 63)) - (nJ 1)))] M2) (fun v7 M6 => some (some (.int v7), M6)))) = some r) : zEv (d + 1) zmB_placeOf [.ref x0, .int x1] M = some r := by
  rw [zEv_succ]
  show zEx0 (zEv d) zmB_placeOf (0, [(0, .ref x0), (1, .int x1)], [], M) = some r
  refine y_pure (pc' := 1) (st' := [.ref x0]) rfl rfl ?_
  refine y_pure (pc' := 2) (st' := [.int x1, .ref x0]) rfl rfl ?_
  obtain ⟨v3, M2, he1, h⟩ := zC1_inv h
  refine y_callV (pc' := 5) (y := zmB_isOpen) (a' := [.int x1]) (st' := []) rfl rfl rfl rfl rfl (zrecv_o (o := 0) hk0 rfl) rfl he1 rfl rfl ?_
  rcases zif_inv h with ⟨hc4, h⟩ | ⟨hc4, h⟩
  · refine y_cnd (pc' := 24) rfl rfl (zc_eqT hc4) rfl ?_
    refine y_pure (pc' := 25) (st' := [.int (-1 : Int32)]) rfl rfl ?_
    exact y_ret rfl rfl rfl rfl h
  · refine y_cnd (pc' := 8) rfl rfl (zc_eqF hc4) rfl ?_
    refine y_pure (pc' := 9) (st' := [.ref x0]) rfl rfl ?_
    refine y_getf (pc' := 12) (v := .long (M2.2 x0 4)) rfl rfl rfl hk0 rfl rfl ?_
    refine y_pure (pc' := 13) (st' := [.long (nJ 1), .long (M2.2 x0 4)]) rfl rfl ?_
    refine y_pure (pc' := 14) (st' := [.int x1, .long (nJ 1), .long (M2.2 x0 4)]) rfl rfl ?_
    refine y_pure (pc' := 15) (st' := [.long ((nJ 1) <<< (Int32.toInt64 x1 &&& 63)), .long (M2.2 x0 4)]) rfl rfl ?_
    refine y_pure (pc' := 16) (st' := [.long (nJ 1), .long ((nJ 1) <<< (Int32.toInt64 x1 &&& 63)), .long (M2.2 x0 4)]) rfl rfl ?_
    refine y_pure (pc' := 17) (st' := [.long (((nJ 1) <<< (Int32.toInt64 x1 &&& 63)) - (nJ 1)), .long (M2.2 x0 4)]) rfl rfl ?_
    refine y_pure (pc' := 18) (st' := [.long ((M2.2 x0 4) &&& (((nJ 1) <<< (Int32.toInt64 x1 &&& 63)) - (nJ 1)))]) rfl rfl ?_
    obtain ⟨v7, M6, he5, h⟩ := zC1_inv h
    refine y_callS (pc' := 21) (y := zmJL_bitCount) (a := [.long ((M2.2 x0 4) &&& (((nJ 1) <<< (Int32.toInt64 x1 &&& 63)) - (nJ 1)))]) (st' := []) rfl rfl rfl rfl rfl rfl he5 rfl rfl ?_
    refine y_pure (pc' := 25) rfl rfl ?_
    exact y_ret rfl rfl rfl rfl h
theorem e_B_doneIn {d : Nat} {x0 : Nat} {x1 : Int32} {M : ZM} {r : ZR} (hk0 : zkd x0 = (10, 0)) (h : zC1 (zEv d zmB_isCage [.ref x0, .int x1] M) (fun v3 M2 => (if v3 = (nI 0) then some (some (.int (nI 0)), M2) else (if zin x1 12 = true then zC1 (zEv d zmJL_bitCount [.long ((M2.2 (x0 + 5) (Int32.toNatClampNeg x1)) &&& ((M2.2 x0 5) ||| (M2.2 x0 6)))] M2) (fun v8 M7 => some (some (.int v8), M7)) else none))) = some r) : zEv (d + 1) zmB_doneIn [.ref x0, .int x1] M = some r := by
  rw [zEv_succ]
  show zEx0 (zEv d) zmB_doneIn (0, [(0, .ref x0), (1, .int x1)], [], M) = some r
  refine y_pure (pc' := 1) (st' := [.ref x0]) rfl rfl ?_
  refine y_pure (pc' := 2) (st' := [.int x1, .ref x0]) rfl rfl ?_
  obtain ⟨v3, M2, he1, h⟩ := zC1_inv h
  refine y_callV (pc' := 5) (y := zmB_isCage) (a' := [.int x1]) (st' := []) rfl rfl rfl rfl rfl (zrecv_o (o := 0) hk0 rfl) rfl he1 rfl rfl ?_
  rcases zif_inv h with ⟨hc4, h⟩ | ⟨hc4, h⟩
  · refine y_cnd (pc' := 30) rfl rfl (zc_eqT hc4) rfl ?_
    refine y_pure (pc' := 31) (st' := [.int (nI 0)]) rfl rfl ?_
    exact y_ret rfl rfl rfl rfl h
  · refine y_cnd (pc' := 8) rfl rfl (zc_eqF hc4) rfl ?_
    refine y_pure (pc' := 9) (st' := [.ref x0]) rfl rfl ?_
    refine y_getf (pc' := 12) (v := .ref (x0 + 5)) rfl rfl rfl hk0 rfl rfl ?_
    refine y_pure (pc' := 13) (st' := [.int x1, .ref (x0 + 5)]) rfl rfl ?_
    obtain ⟨hi5, h⟩ := zg_inv h
    refine y_lald (pc' := 14) rfl (zf_0_12 hk0) hi5 rfl ?_
    refine y_pure (pc' := 15) (st' := [.ref x0, .long (M2.2 (x0 + 5) (Int32.toNatClampNeg x1))]) rfl rfl ?_
    refine y_getf (pc' := 18) (v := .long (M2.2 x0 5)) rfl rfl rfl hk0 rfl rfl ?_
    refine y_pure (pc' := 19) (st' := [.ref x0, .long (M2.2 x0 5), .long (M2.2 (x0 + 5) (Int32.toNatClampNeg x1))]) rfl rfl ?_
    refine y_getf (pc' := 22) (v := .long (M2.2 x0 6)) rfl rfl rfl hk0 rfl rfl ?_
    refine y_pure (pc' := 23) (st' := [.long ((M2.2 x0 5) ||| (M2.2 x0 6)), .long (M2.2 (x0 + 5) (Int32.toNatClampNeg x1))]) rfl rfl ?_
    refine y_pure (pc' := 24) (st' := [.long ((M2.2 (x0 + 5) (Int32.toNatClampNeg x1)) &&& ((M2.2 x0 5) ||| (M2.2 x0 6)))]) rfl rfl ?_
    obtain ⟨v8, M7, he6, h⟩ := zC1_inv h
    refine y_callS (pc' := 27) (y := zmJL_bitCount) (a := [.long ((M2.2 (x0 + 5) (Int32.toNatClampNeg x1)) &&& ((M2.2 x0 5) ||| (M2.2 x0 6)))]) (st' := []) rfl rfl rfl rfl rfl rfl he6 rfl rfl ?_
    refine y_pure (pc' := 31) rfl rfl ?_
    exact y_ret rfl rfl rfl rfl h
noncomputable def h_B_manyMarks_4 (d : Nat) (x0 : Nat) (x1 : Int32) (x2 : Int32) (M : ZM) : Option ZR := zEx0 (zEv d) zmB_manyMarks (4, [(0, .ref x0), (1, .int x1), (2, .int x2)], [], M)
theorem e_B_manyMarks_4 {d : Nat} {x0 : Nat} {x1 : Int32} {x2 : Int32} {M : ZM} {r : ZR} (hk0 : zkd x0 = (10, 0)) (h : (if x2 < (nI 36) then zC1 (zEv d zmB_isOpen [.ref x0, .int x2] M) (fun v4 M3 => (if v4 = (nI 0) then h_B_manyMarks_4 d x0 x1 (x2 + (nI 1)) M3 else (if zin x2 36 = true then zC1 (zEv d zmJI_bitCount [.int (M3.1 (x0 + 1) (Int32.toNatClampNeg x2))] M3) (fun v9 M8 => h_B_manyMarks_4 d x0 (x1 + v9) (x2 + (nI 1)) M8) else none))) else some (some (.int x1), M)) = some r) : h_B_manyMarks_4 d x0 x1 x2 M = some r := by
  show zEx0 (zEv d) zmB_manyMarks (4, [(0, .ref x0), (1, .int x1), (2, .int x2)], [], M) = some r
  refine y_pure (pc' := 5) (st' := [.int x2]) rfl rfl ?_
  refine y_pure (pc' := 7) (st' := [.int (nI 36), .int x2]) rfl rfl ?_
  rcases zif_inv h with ⟨hc1, h⟩ | ⟨hc1, h⟩
  · refine y_cmp (pc' := 10) rfl rfl (zc_geF hc1) rfl ?_
    refine y_pure (pc' := 11) (st' := [.ref x0]) rfl rfl ?_
    refine y_pure (pc' := 12) (st' := [.int x2, .ref x0]) rfl rfl ?_
    obtain ⟨v4, M3, he2, h⟩ := zC1_inv h
    refine y_callV (pc' := 15) (y := zmB_isOpen) (a' := [.int x2]) (st' := []) rfl rfl rfl rfl rfl (zrecv_o (o := 0) hk0 rfl) rfl he2 rfl rfl ?_
    rcases zif_inv h with ⟨hc5, h⟩ | ⟨hc5, h⟩
    · refine y_cnd (pc' := 30) rfl rfl (zc_eqT hc5) rfl ?_
      refine y_pure (pc' := 33) (ls' := [(0, .ref x0), (1, .int x1), (2, .int (x2 + (nI 1)))]) (st' := []) rfl rfl ?_
      refine y_pure (pc' := 4) rfl rfl ?_
      refine zEx_sub ?_ h
      exact ⟨rfl, rfl, rfl, trivial⟩
    · refine y_cnd (pc' := 18) rfl rfl (zc_eqF hc5) rfl ?_
      refine y_pure (pc' := 19) (st' := [.int x1]) rfl rfl ?_
      refine y_pure (pc' := 20) (st' := [.ref x0, .int x1]) rfl rfl ?_
      refine y_getf (pc' := 23) (v := .ref (x0 + 1)) rfl rfl rfl hk0 rfl rfl ?_
      refine y_pure (pc' := 24) (st' := [.int x2, .ref (x0 + 1), .int x1]) rfl rfl ?_
      obtain ⟨hi6, h⟩ := zg_inv h
      refine y_iald (pc' := 25) rfl (zf_0_8 hk0) hi6 rfl ?_
      obtain ⟨v9, M8, he7, h⟩ := zC1_inv h
      refine y_callS (pc' := 28) (y := zmJI_bitCount) (a := [.int (M3.1 (x0 + 1) (Int32.toNatClampNeg x2))]) (st' := [.int x1]) rfl rfl rfl rfl rfl rfl he7 rfl rfl ?_
      refine y_pure (pc' := 29) (st' := [.int (x1 + v9)]) rfl rfl ?_
      refine y_pure (pc' := 30) (ls' := [(0, .ref x0), (1, .int (x1 + v9)), (2, .int x2)]) (st' := []) rfl rfl ?_
      refine y_pure (pc' := 33) (ls' := [(0, .ref x0), (1, .int (x1 + v9)), (2, .int (x2 + (nI 1)))]) (st' := []) rfl rfl ?_
      refine y_pure (pc' := 4) rfl rfl ?_
      refine zEx_sub ?_ h
      exact ⟨rfl, rfl, rfl, trivial⟩
  · refine y_cmp (pc' := 36) rfl rfl (zc_geT hc1) rfl ?_
    refine y_pure (pc' := 37) (st' := [.int x1]) rfl rfl ?_
    exact y_ret rfl rfl rfl rfl h
theorem e_B_manyMarks {d : Nat} {x0 : Nat} {M : ZM} {r : ZR} (hk0 : zkd x0 = (10, 0)) (h : h_B_manyMarks_4 d x0 (nI 0) (nI 0) M = some r) : zEv (d + 1) zmB_manyMarks [.ref x0] M = some r := by
  rw [zEv_succ]
  show zEx0 (zEv d) zmB_manyMarks (0, [(0, .ref x0)], [], M) = some r
  refine y_pure (pc' := 1) (st' := [.int (nI 0)]) rfl rfl ?_
  refine y_pure (pc' := 2) (ls' := [(0, .ref x0), (1, .int (nI 0))]) (st' := []) rfl rfl ?_
  refine y_pure (pc' := 3) (st' := [.int (nI 0)]) rfl rfl ?_
  refine y_pure (pc' := 4) (ls' := [(0, .ref x0), (1, .int (nI 0)), (2, .int (nI 0))]) (st' := []) rfl rfl ?_
  refine zEx_sub ?_ h
  exact ⟨rfl, rfl, rfl, trivial⟩
noncomputable def h_B_marksByGiven_2 (d : Nat) (x0 : Nat) (x1 : Nat) (x2 : Int32) (x3 : Int32) (M : ZM) : Option ZR := zEx0 (zEv d) zmB_marksByGiven (2, [(0, .ref x0), (1, .ref x1), (2, .int x2), (3, .int x3)], [], M)
theorem e_B_marksByGiven_2 {d : Nat} {x0 : Nat} {x1 : Nat} {x2 : Int32} {x3 : Int32} {M : ZM} {r : ZR} (hk0 : zkd x0 = (10, 0)) (hk1 : zkd x1 = (1, 36)) (h : (if x3 < (nI 36) then (if x3 < (nI 36) then zC1 (zEv d zmB_isOpen [.ref x0, .int x3] M) (fun v5 M4 => (if v5 = (nI 0) then (if zin x3 36 = true then h_B_marksByGiven_2 d x0 x1 x2 (x3 + (nI 1)) (zpi M4 x1 (Int32.toNatClampNeg x3) (nI 0)) else none) else zC1 (zEv d zmB_isGiven [.ref x0, .int x3] M4) (fun v10 M9 => (if v10 = (nI 0) then zC1 (zEv d zmB_allDigits [.ref x0] M9) (fun v14 M13 => (if zin x3 36 = true then h_B_marksByGiven_2 d x0 x1 x2 (x3 + (nI 1)) (zpi M13 x1 (Int32.toNatClampNeg x3) v14) else none)) else (if x3 = x2 then zC1 (zEv d zmB_allDigits [.ref x0] M9) (fun v19 M18 => (if zin x3 36 = true then h_B_marksByGiven_2 d x0 x1 x2 (x3 + (nI 1)) (zpi M18 x1 (Int32.toNatClampNeg x3) v19) else none)) else (if zin x3 36 = true then h_B_marksByGiven_2 d x0 x1 x2 (x3 + (nI 1)) (zpi M9 x1 (Int32.toNatClampNeg x3) (M9.1 (x0 + 1) (Int32.toNatClampNeg x3))) else none)))))) else some (none, M)) else some (none, M)) = some r) : h_B_marksByGiven_2 d x0 x1 x2 x3 M = some r := by
  show zEx0 (zEv d) zmB_marksByGiven (2, [(0, .ref x0), (1, .ref x1), (2, .int x2), (3, .int x3)], [], M) = some r
  refine y_pure (pc' := 3) (st' := [.int x3]) rfl rfl ?_
  refine y_pure (pc' := 5) (st' := [.int (nI 36), .int x3]) rfl rfl ?_
  rcases zif_inv h with ⟨hc1, h⟩ | ⟨hc1, h⟩
  · refine y_cmp (pc' := 8) rfl rfl (zc_geF hc1) rfl ?_
    refine y_pure (pc' := 9) (st' := [.int x3]) rfl rfl ?_
    refine y_pure (pc' := 10) (st' := [.ref x1, .int x3]) rfl rfl ?_
    refine y_alen (pc' := 11) rfl hk1 (by decide) rfl rfl ?_
    rcases zif_inv h with ⟨hc2, h⟩ | ⟨hc2, h⟩
    · refine y_cmp (pc' := 14) rfl rfl (zc_geF hc2) rfl ?_
      refine y_pure (pc' := 15) (st' := [.ref x0]) rfl rfl ?_
      refine y_pure (pc' := 16) (st' := [.int x3, .ref x0]) rfl rfl ?_
      obtain ⟨v5, M4, he3, h⟩ := zC1_inv h
      refine y_callV (pc' := 19) (y := zmB_isOpen) (a' := [.int x3]) (st' := []) rfl rfl rfl rfl rfl (zrecv_o (o := 0) hk0 rfl) rfl he3 rfl rfl ?_
      rcases zif_inv h with ⟨hc6, h⟩ | ⟨hc6, h⟩
      · refine y_cnd (pc' := 22) rfl rfl (zc_neF hc6) rfl ?_
        refine y_pure (pc' := 23) (st' := [.ref x1]) rfl rfl ?_
        refine y_pure (pc' := 24) (st' := [.int x3, .ref x1]) rfl rfl ?_
        refine y_pure (pc' := 25) (st' := [.int (nI 0), .int x3, .ref x1]) rfl rfl ?_
        obtain ⟨hi7, h⟩ := zg_inv h
        refine y_iast (pc' := 26) rfl hk1 hi7 rfl ?_
        refine y_pure (pc' := 61) rfl rfl ?_
        refine y_pure (pc' := 64) (ls' := [(0, .ref x0), (1, .ref x1), (2, .int x2), (3, .int (x3 + (nI 1)))]) (st' := []) rfl rfl ?_
        refine y_pure (pc' := 2) rfl rfl ?_
        refine zEx_sub ?_ h
        exact ⟨rfl, rfl, rfl, rfl, trivial⟩
      · refine y_cnd (pc' := 29) rfl rfl (zc_neT hc6) rfl ?_
        refine y_pure (pc' := 30) (st' := [.ref x0]) rfl rfl ?_
        refine y_pure (pc' := 31) (st' := [.int x3, .ref x0]) rfl rfl ?_
        obtain ⟨v10, M9, he8, h⟩ := zC1_inv h
        refine y_callV (pc' := 34) (y := zmB_isGiven) (a' := [.int x3]) (st' := []) rfl rfl rfl rfl rfl (zrecv_o (o := 0) hk0 rfl) rfl he8 rfl rfl ?_
        rcases zif_inv h with ⟨hc11, h⟩ | ⟨hc11, h⟩
        · refine y_cnd (pc' := 54) rfl rfl (zc_eqT hc11) rfl ?_
          refine y_pure (pc' := 55) (st' := [.ref x1]) rfl rfl ?_
          refine y_pure (pc' := 56) (st' := [.int x3, .ref x1]) rfl rfl ?_
          refine y_pure (pc' := 57) (st' := [.ref x0, .int x3, .ref x1]) rfl rfl ?_
          obtain ⟨v14, M13, he12, h⟩ := zC1_inv h
          refine y_callV (pc' := 60) (y := zmB_allDigits) (a' := []) (st' := [.int x3, .ref x1]) rfl rfl rfl rfl rfl (zrecv_o (o := 0) hk0 rfl) rfl he12 rfl rfl ?_
          obtain ⟨hi15, h⟩ := zg_inv h
          refine y_iast (pc' := 61) rfl hk1 hi15 rfl ?_
          refine y_pure (pc' := 64) (ls' := [(0, .ref x0), (1, .ref x1), (2, .int x2), (3, .int (x3 + (nI 1)))]) (st' := []) rfl rfl ?_
          refine y_pure (pc' := 2) rfl rfl ?_
          refine zEx_sub ?_ h
          exact ⟨rfl, rfl, rfl, rfl, trivial⟩
        · refine y_cnd (pc' := 37) rfl rfl (zc_eqF hc11) rfl ?_
          refine y_pure (pc' := 38) (st' := [.int x3]) rfl rfl ?_
          refine y_pure (pc' := 39) (st' := [.int x2, .int x3]) rfl rfl ?_
          rcases zif_inv h with ⟨hc16, h⟩ | ⟨hc16, h⟩
          · refine y_cmp (pc' := 54) rfl rfl (zc_eqT hc16) rfl ?_
            refine y_pure (pc' := 55) (st' := [.ref x1]) rfl rfl ?_
            refine y_pure (pc' := 56) (st' := [.int x3, .ref x1]) rfl rfl ?_
            refine y_pure (pc' := 57) (st' := [.ref x0, .int x3, .ref x1]) rfl rfl ?_
            obtain ⟨v19, M18, he17, h⟩ := zC1_inv h
            refine y_callV (pc' := 60) (y := zmB_allDigits) (a' := []) (st' := [.int x3, .ref x1]) rfl rfl rfl rfl rfl (zrecv_o (o := 0) hk0 rfl) rfl he17 rfl rfl ?_
            obtain ⟨hi20, h⟩ := zg_inv h
            refine y_iast (pc' := 61) rfl hk1 hi20 rfl ?_
            refine y_pure (pc' := 64) (ls' := [(0, .ref x0), (1, .ref x1), (2, .int x2), (3, .int (x3 + (nI 1)))]) (st' := []) rfl rfl ?_
            refine y_pure (pc' := 2) rfl rfl ?_
            refine zEx_sub ?_ h
            exact ⟨rfl, rfl, rfl, rfl, trivial⟩
          · refine y_cmp (pc' := 42) rfl rfl (zc_eqF hc16) rfl ?_
            refine y_pure (pc' := 43) (st' := [.ref x1]) rfl rfl ?_
            refine y_pure (pc' := 44) (st' := [.int x3, .ref x1]) rfl rfl ?_
            refine y_pure (pc' := 45) (st' := [.ref x0, .int x3, .ref x1]) rfl rfl ?_
            refine y_getf (pc' := 48) (v := .ref (x0 + 1)) rfl rfl rfl hk0 rfl rfl ?_
            refine y_pure (pc' := 49) (st' := [.int x3, .ref (x0 + 1), .int x3, .ref x1]) rfl rfl ?_
            obtain ⟨hi21, h⟩ := zg_inv h
            refine y_iald (pc' := 50) rfl (zf_0_8 hk0) hi21 rfl ?_
            refine y_iast (pc' := 51) rfl hk1 hi21 rfl ?_
            refine y_pure (pc' := 61) rfl rfl ?_
            refine y_pure (pc' := 64) (ls' := [(0, .ref x0), (1, .ref x1), (2, .int x2), (3, .int (x3 + (nI 1)))]) (st' := []) rfl rfl ?_
            refine y_pure (pc' := 2) rfl rfl ?_
            refine zEx_sub ?_ h
            exact ⟨rfl, rfl, rfl, rfl, trivial⟩
    · refine y_cmp (pc' := 67) rfl rfl (zc_geT hc2) rfl ?_
      exact y_ret rfl rfl rfl rfl h
  · refine y_cmp (pc' := 67) rfl rfl (zc_geT hc1) rfl ?_
    exact y_ret rfl rfl rfl rfl h
theorem e_B_marksByGiven {d : Nat} {x0 : Nat} {x1 : Nat} {x2 : Int32} {M : ZM} {r : ZR} (hk0 : zkd x0 = (10, 0)) (hk1 : zkd x1 = (1, 36)) (h : h_B_marksByGiven_2 d x0 x1 x2 (nI 0) M = some r) : zEv (d + 1) zmB_marksByGiven [.ref x0, .ref x1, .int x2] M = some r := by
  rw [zEv_succ]
  show zEx0 (zEv d) zmB_marksByGiven (0, [(0, .ref x0), (1, .ref x1), (2, .int x2)], [], M) = some r
  refine y_pure (pc' := 1) (st' := [.int (nI 0)]) rfl rfl ?_
  refine y_pure (pc' := 2) (ls' := [(0, .ref x0), (1, .ref x1), (2, .int x2), (3, .int (nI 0))]) (st' := []) rfl rfl ?_
  refine zEx_sub ?_ h
  exact ⟨rfl, rfl, rfl, rfl, trivial⟩
noncomputable def h_K_drawDigits_23 (d : Nat) (x1 : Nat) (x3 : Int32) (x4 : Int32) (x5 : Int32) (M : ZM) : Option ZR := zEx0 (zEv d) zmK_drawDigits (23, [(0, .ref 632), (1, .ref x1), (3, .int x3), (4, .int x4), (5, .int x5)], [], M)
noncomputable def h_K_drawDigits_58 (d : Nat) (x1 : Nat) (x3 : Int32) (x5 : Int32) (M : ZM) : Option ZR := zEx0 (zEv d) zmK_drawDigits (58, [(0, .ref 632), (1, .ref x1), (3, .int x3), (5, .int x5)], [], M)
theorem e_K_drawDigits_23 {d : Nat} {x1 : Nat} {x3 : Int32} {x4 : Int32} {x5 : Int32} {M : ZM} {r : ZR} (hk1 : zkd x1 = (10, 0)) (h : (if x5 < (nI 18000) then (if x3 < (M.1 632 2) then (if x4 = (nI 0) then h_K_drawDigits_58 d x1 x3 x5 M else zC1 (zEv d zmK_draw [.ref 632, .int x3, .int (M.1 x1 2)] M) (fun v6 M5 => (if v6 = (nI 0) then some (some (.int (nI 0)), M5) else h_K_drawDigits_58 d x1 x3 x5 M5))) else (if x3 < (M.1 632 2) then some (some (.int (nI 0)), M) else some (some (.int (nI 1)), M))) else (if x3 < (M.1 632 2) then some (some (.int (nI 0)), M) else some (some (.int (nI 1)), M))) = some r) : h_K_drawDigits_23 d x1 x3 x4 x5 M = some r := by
  show zEx0 (zEv d) zmK_drawDigits (23, [(0, .ref 632), (1, .ref x1), (3, .int x3), (4, .int x4), (5, .int x5)], [], M) = some r
  refine y_pure (pc' := 25) (st' := [.int x5]) rfl rfl ?_
  refine y_pure (pc' := 28) (st' := [.int (nI 18000), .int x5]) rfl rfl ?_
  rcases zif_inv h with ⟨hc1, h⟩ | ⟨hc1, h⟩
  · refine y_cmp (pc' := 31) rfl rfl (zc_geF hc1) rfl ?_
    refine y_pure (pc' := 32) (st' := [.int x3]) rfl rfl ?_
    refine y_pure (pc' := 33) (st' := [.ref 632, .int x3]) rfl rfl ?_
    refine y_getf (pc' := 36) (v := .int (M.1 632 2)) rfl rfl rfl zc_632 rfl rfl ?_
    rcases zif_inv h with ⟨hc2, h⟩ | ⟨hc2, h⟩
    · refine y_cmp (pc' := 39) rfl rfl (zc_geF hc2) rfl ?_
      refine y_pure (pc' := 41) (st' := [.int x4]) rfl rfl ?_
      rcases zif_inv h with ⟨hc3, h⟩ | ⟨hc3, h⟩
      · refine y_cnd (pc' := 58) rfl rfl (zc_eqT hc3) rfl ?_
        refine zEx_sub ?_ h
        exact ⟨rfl, rfl, rfl, rfl, trivial⟩
      · refine y_cnd (pc' := 44) rfl rfl (zc_eqF hc3) rfl ?_
        refine y_pure (pc' := 45) (st' := [.ref 632]) rfl rfl ?_
        refine y_pure (pc' := 46) (st' := [.int x3, .ref 632]) rfl rfl ?_
        refine y_pure (pc' := 47) (st' := [.ref x1, .int x3, .ref 632]) rfl rfl ?_
        refine y_getf (pc' := 50) (v := .int (M.1 x1 2)) rfl rfl rfl hk1 rfl rfl ?_
        obtain ⟨v6, M5, he4, h⟩ := zC1_inv h
        refine y_callV (pc' := 53) (y := zmK_draw) (a' := [.int x3, .int (M.1 x1 2)]) (st' := []) rfl rfl rfl rfl rfl (zrecv_o (o := 2) zc_632 rfl) rfl he4 rfl rfl ?_
        rcases zif_inv h with ⟨hc7, h⟩ | ⟨hc7, h⟩
        · refine y_cnd (pc' := 56) rfl rfl (zc_neF hc7) rfl ?_
          refine y_pure (pc' := 57) (st' := [.int (nI 0)]) rfl rfl ?_
          exact y_retZ rfl rfl (by decide) h
        · refine y_cnd (pc' := 58) rfl rfl (zc_neT hc7) rfl ?_
          refine zEx_sub ?_ h
          exact ⟨rfl, rfl, rfl, rfl, trivial⟩
    · refine y_cmp (pc' := 94) rfl rfl (zc_geT hc2) rfl ?_
      refine y_pure (pc' := 95) (st' := [.int x3]) rfl rfl ?_
      refine y_pure (pc' := 96) (st' := [.ref 632, .int x3]) rfl rfl ?_
      refine y_getf (pc' := 99) (v := .int (M.1 632 2)) rfl rfl rfl zc_632 rfl rfl ?_
      rcases zif_inv h with ⟨hc8, h⟩ | ⟨hc8, h⟩
      · refine y_cmp (pc' := 106) rfl rfl (zc_ltT hc8) rfl ?_
        refine y_pure (pc' := 107) (st' := [.int (nI 0)]) rfl rfl ?_
        exact y_retZ rfl rfl (by decide) h
      · refine y_cmp (pc' := 102) rfl rfl (zc_ltF hc8) rfl ?_
        refine y_pure (pc' := 103) (st' := [.int (nI 1)]) rfl rfl ?_
        refine y_pure (pc' := 107) rfl rfl ?_
        exact y_retZ rfl rfl (by decide) h
  · refine y_cmp (pc' := 94) rfl rfl (zc_geT hc1) rfl ?_
    refine y_pure (pc' := 95) (st' := [.int x3]) rfl rfl ?_
    refine y_pure (pc' := 96) (st' := [.ref 632, .int x3]) rfl rfl ?_
    refine y_getf (pc' := 99) (v := .int (M.1 632 2)) rfl rfl rfl zc_632 rfl rfl ?_
    rcases zif_inv h with ⟨hc9, h⟩ | ⟨hc9, h⟩
    · refine y_cmp (pc' := 106) rfl rfl (zc_ltT hc9) rfl ?_
      refine y_pure (pc' := 107) (st' := [.int (nI 0)]) rfl rfl ?_
      exact y_retZ rfl rfl (by decide) h
    · refine y_cmp (pc' := 102) rfl rfl (zc_ltF hc9) rfl ?_
      refine y_pure (pc' := 103) (st' := [.int (nI 1)]) rfl rfl ?_
      refine y_pure (pc' := 107) rfl rfl ?_
      exact y_retZ rfl rfl (by decide) h
theorem e_K_drawDigits_58 {d : Nat} {x1 : Nat} {x3 : Int32} {x5 : Int32} {M : ZM} {r : ZR} (hk1 : zkd x1 = (10, 0)) (h : zC1 (zEv d zmK_tryNext [.ref 632, .int x3, .int (M.1 x1 2)] M) (fun v3 M2 => (if v3 = (nI 0) then (if (x3 + (-1 : Int32)) < (nI 0) then some (some (.int (nI 0)), M2) else h_K_drawDigits_23 d x1 (x3 + (-1 : Int32)) v3 (x5 + (nI 1)) M2) else (if (x3 + (nI 1)) < (nI 0) then some (some (.int (nI 0)), M2) else h_K_drawDigits_23 d x1 (x3 + (nI 1)) v3 (x5 + (nI 1)) M2))) = some r) : h_K_drawDigits_58 d x1 x3 x5 M = some r := by
  show zEx0 (zEv d) zmK_drawDigits (58, [(0, .ref 632), (1, .ref x1), (3, .int x3), (5, .int x5)], [], M) = some r
  refine y_pure (pc' := 59) (st' := [.ref 632]) rfl rfl ?_
  refine y_pure (pc' := 60) (st' := [.int x3, .ref 632]) rfl rfl ?_
  refine y_pure (pc' := 61) (st' := [.ref x1, .int x3, .ref 632]) rfl rfl ?_
  refine y_getf (pc' := 64) (v := .int (M.1 x1 2)) rfl rfl rfl hk1 rfl rfl ?_
  obtain ⟨v3, M2, he1, h⟩ := zC1_inv h
  refine y_callV (pc' := 67) (y := zmK_tryNext) (a' := [.int x3, .int (M.1 x1 2)]) (st' := []) rfl rfl rfl rfl rfl (zrecv_o (o := 2) zc_632 rfl) rfl he1 rfl rfl ?_
  refine y_pure (pc' := 69) (ls' := [(0, .ref 632), (1, .ref x1), (3, .int x3), (4, .int v3), (5, .int x5)]) (st' := []) rfl rfl ?_
  refine y_pure (pc' := 70) (st' := [.int x3]) rfl rfl ?_
  refine y_pure (pc' := 72) (st' := [.int v3, .int x3]) rfl rfl ?_
  rcases zif_inv h with ⟨hc4, h⟩ | ⟨hc4, h⟩
  · refine y_cnd (pc' := 79) rfl rfl (zc_eqT hc4) rfl ?_
    refine y_pure (pc' := 80) (st' := [.int (-1 : Int32), .int x3]) rfl rfl ?_
    refine y_pure (pc' := 81) (st' := [.int (x3 + (-1 : Int32))]) rfl rfl ?_
    refine y_pure (pc' := 82) (ls' := [(0, .ref 632), (1, .ref x1), (3, .int (x3 + (-1 : Int32))), (4, .int v3), (5, .int x5)]) (st' := []) rfl rfl ?_
    refine y_pure (pc' := 83) (st' := [.int (x3 + (-1 : Int32))]) rfl rfl ?_
    rcases zif_inv h with ⟨hc5, h⟩ | ⟨hc5, h⟩
    · refine y_cnd (pc' := 86) rfl rfl (zc_geF hc5) rfl ?_
      refine y_pure (pc' := 87) (st' := [.int (nI 0)]) rfl rfl ?_
      exact y_retZ rfl rfl (by decide) h
    · refine y_cnd (pc' := 88) rfl rfl (zc_geT hc5) rfl ?_
      refine y_pure (pc' := 91) (ls' := [(0, .ref 632), (1, .ref x1), (3, .int (x3 + (-1 : Int32))), (4, .int v3), (5, .int (x5 + (nI 1)))]) (st' := []) rfl rfl ?_
      refine y_pure (pc' := 23) rfl rfl ?_
      refine zEx_sub ?_ h
      exact ⟨rfl, rfl, rfl, rfl, rfl, trivial⟩
  · refine y_cnd (pc' := 75) rfl rfl (zc_eqF hc4) rfl ?_
    refine y_pure (pc' := 76) (st' := [.int (nI 1), .int x3]) rfl rfl ?_
    refine y_pure (pc' := 80) rfl rfl ?_
    refine y_pure (pc' := 81) (st' := [.int (x3 + (nI 1))]) rfl rfl ?_
    refine y_pure (pc' := 82) (ls' := [(0, .ref 632), (1, .ref x1), (3, .int (x3 + (nI 1))), (4, .int v3), (5, .int x5)]) (st' := []) rfl rfl ?_
    refine y_pure (pc' := 83) (st' := [.int (x3 + (nI 1))]) rfl rfl ?_
    rcases zif_inv h with ⟨hc6, h⟩ | ⟨hc6, h⟩
    · refine y_cnd (pc' := 86) rfl rfl (zc_geF hc6) rfl ?_
      refine y_pure (pc' := 87) (st' := [.int (nI 0)]) rfl rfl ?_
      exact y_retZ rfl rfl (by decide) h
    · refine y_cnd (pc' := 88) rfl rfl (zc_geT hc6) rfl ?_
      refine y_pure (pc' := 91) (ls' := [(0, .ref 632), (1, .ref x1), (3, .int (x3 + (nI 1))), (4, .int v3), (5, .int (x5 + (nI 1)))]) (st' := []) rfl rfl ?_
      refine y_pure (pc' := 23) rfl rfl ?_
      refine zEx_sub ?_ h
      exact ⟨rfl, rfl, rfl, rfl, rfl, trivial⟩
theorem e_K_drawDigits {d : Nat} {x1 : Nat} {x2 : Int32} {M : ZM} {r : ZR} (hk1 : zkd x1 = (10, 0)) (h : zC0 (zEv d zmK_layOut [.ref 632, .ref x1] (zpi (zpi M 632 0 x2) 632 1 (nI 0))) (fun M2 => h_K_drawDigits_23 d x1 (nI 0) (nI 1) (nI 0) M2) = some r) : zEv (d + 1) zmK_drawDigits [.ref 632, .ref x1, .int x2] M = some r := by
  rw [zEv_succ]
  show zEx0 (zEv d) zmK_drawDigits (0, [(0, .ref 632), (1, .ref x1), (2, .int x2)], [], M) = some r
  refine y_pure (pc' := 1) (st' := [.ref 632]) rfl rfl ?_
  refine y_pure (pc' := 2) (st' := [.int x2, .ref 632]) rfl rfl ?_
  refine y_putI (pc' := 5) rfl rfl zc_632 rfl ?_
  refine y_pure (pc' := 6) (st' := [.ref 632]) rfl rfl ?_
  refine y_pure (pc' := 7) (st' := [.int (nI 0), .ref 632]) rfl rfl ?_
  refine y_putI (pc' := 10) rfl rfl zc_632 rfl ?_
  refine y_pure (pc' := 11) (st' := [.ref 632]) rfl rfl ?_
  refine y_pure (pc' := 12) (st' := [.ref x1, .ref 632]) rfl rfl ?_
  obtain ⟨M2, he1, h⟩ := zC0_inv h
  refine y_callV (pc' := 15) (y := zmK_layOut) (a' := [.ref x1]) (st' := []) rfl rfl rfl rfl rfl (zrecv_o (o := 2) zc_632 rfl) rfl he1 rfl rfl ?_
  refine y_pure (pc' := 16) (st' := [.int (nI 0)]) rfl rfl ?_
  refine y_pure (pc' := 17) (ls' := [(0, .ref 632), (1, .ref x1), (2, .int x2), (3, .int (nI 0))]) (st' := []) rfl rfl ?_
  refine y_pure (pc' := 18) (st' := [.int (nI 1)]) rfl rfl ?_
  refine y_pure (pc' := 20) (ls' := [(0, .ref 632), (1, .ref x1), (2, .int x2), (3, .int (nI 0)), (4, .int (nI 1))]) (st' := []) rfl rfl ?_
  refine y_pure (pc' := 21) (st' := [.int (nI 0)]) rfl rfl ?_
  refine y_pure (pc' := 23) (ls' := [(0, .ref 632), (1, .ref x1), (2, .int x2), (3, .int (nI 0)), (4, .int (nI 1)), (5, .int (nI 0))]) (st' := []) rfl rfl ?_
  refine zEx_sub ?_ h
  exact ⟨rfl, rfl, rfl, rfl, rfl, trivial⟩
noncomputable def h_K_layOut_7 (d : Nat) (x1 : Nat) (x2 : Int32) (M : ZM) : Option ZR := zEx0 (zEv d) zmK_layOut (7, [(0, .ref 632), (1, .ref x1), (2, .int x2)], [], M)
theorem e_K_layOut_7 {d : Nat} {x1 : Nat} {x2 : Int32} {M : ZM} {r : ZR} (hk1 : zkd x1 = (10, 0)) (h : (if x2 < (nI 36) then zC1 (zEv d zmB_isOpen [.ref x1, .int x2] M) (fun v4 M3 => (if v4 = (nI 0) then h_K_layOut_7 d x1 (x2 + (nI 1)) M3 else (if (M3.1 632 2) < (nI 16) then (if zin (M3.1 632 2) 16 = true then zC1 (zEv d zmK_unlikeAhead [.ref 632, .ref x1, .int x2] (zpi M3 633 (Int32.toNatClampNeg (M3.1 632 2)) x2)) (fun v10 M9 => (if zin ((zpi M3 633 (Int32.toNatClampNeg (M3.1 632 2)) x2).1 632 2) 16 = true then zL (zpi (zpi M9 634 (Int32.toNatClampNeg ((zpi M3 633 (Int32.toNatClampNeg (M3.1 632 2)) x2).1 632 2)) v10) 632 2 (((zpi M9 634 (Int32.toNatClampNeg ((zpi M3 633 (Int32.toNatClampNeg (M3.1 632 2)) x2).1 632 2)) v10).1 632 2) + (nI 1))) (fun M12 => h_K_layOut_7 d x1 (x2 + (nI 1)) M12) else none)) else none) else h_K_layOut_7 d x1 (x2 + (nI 1)) M3))) else some (none, M)) = some r) : h_K_layOut_7 d x1 x2 M = some r := by
  show zEx0 (zEv d) zmK_layOut (7, [(0, .ref 632), (1, .ref x1), (2, .int x2)], [], M) = some r
  refine y_pure (pc' := 8) (st' := [.int x2]) rfl rfl ?_
  refine y_pure (pc' := 10) (st' := [.int (nI 36), .int x2]) rfl rfl ?_
  rcases zif_inv h with ⟨hc1, h⟩ | ⟨hc1, h⟩
  · refine y_cmp (pc' := 13) rfl rfl (zc_geF hc1) rfl ?_
    refine y_pure (pc' := 14) (st' := [.ref x1]) rfl rfl ?_
    refine y_pure (pc' := 15) (st' := [.int x2, .ref x1]) rfl rfl ?_
    obtain ⟨v4, M3, he2, h⟩ := zC1_inv h
    refine y_callV (pc' := 18) (y := zmB_isOpen) (a' := [.int x2]) (st' := []) rfl rfl rfl rfl rfl (zrecv_o (o := 0) hk1 rfl) rfl he2 rfl rfl ?_
    rcases zif_inv h with ⟨hc5, h⟩ | ⟨hc5, h⟩
    · refine y_cnd (pc' := 65) rfl rfl (zc_eqT hc5) rfl ?_
      refine y_pure (pc' := 68) (ls' := [(0, .ref 632), (1, .ref x1), (2, .int (x2 + (nI 1)))]) (st' := []) rfl rfl ?_
      refine y_pure (pc' := 7) rfl rfl ?_
      refine zEx_sub ?_ h
      exact ⟨rfl, rfl, rfl, trivial⟩
    · refine y_cnd (pc' := 21) rfl rfl (zc_eqF hc5) rfl ?_
      refine y_pure (pc' := 22) (st' := [.ref 632]) rfl rfl ?_
      refine y_getf (pc' := 25) (v := .int (M3.1 632 2)) rfl rfl rfl zc_632 rfl rfl ?_
      refine y_pure (pc' := 27) (st' := [.int (nI 16), .int (M3.1 632 2)]) rfl rfl ?_
      rcases zif_inv h with ⟨hc6, h⟩ | ⟨hc6, h⟩
      · refine y_cmp (pc' := 30) rfl rfl (zc_geF hc6) rfl ?_
        refine y_pure (pc' := 31) (st' := [.ref 632]) rfl rfl ?_
        refine y_getf (pc' := 34) (v := .ref 633) rfl rfl rfl zc_632 rfl rfl ?_
        refine y_pure (pc' := 35) (st' := [.ref 632, .ref 633]) rfl rfl ?_
        refine y_getf (pc' := 38) (v := .int (M3.1 632 2)) rfl rfl rfl zc_632 rfl rfl ?_
        refine y_pure (pc' := 39) (st' := [.int x2, .int (M3.1 632 2), .ref 633]) rfl rfl ?_
        obtain ⟨hi7, h⟩ := zg_inv h
        refine y_iast (pc' := 40) rfl zc_633 hi7 rfl ?_
        refine y_pure (pc' := 41) (st' := [.ref 632]) rfl rfl ?_
        refine y_getf (pc' := 44) (v := .ref 634) rfl rfl rfl zc_632 rfl rfl ?_
        refine y_pure (pc' := 45) (st' := [.ref 632, .ref 634]) rfl rfl ?_
        refine y_getf (pc' := 48) (v := .int ((zpi M3 633 (Int32.toNatClampNeg (M3.1 632 2)) x2).1 632 2)) rfl rfl rfl zc_632 rfl rfl ?_
        refine y_pure (pc' := 49) (st' := [.ref 632, .int ((zpi M3 633 (Int32.toNatClampNeg (M3.1 632 2)) x2).1 632 2), .ref 634]) rfl rfl ?_
        refine y_pure (pc' := 50) (st' := [.ref x1, .ref 632, .int ((zpi M3 633 (Int32.toNatClampNeg (M3.1 632 2)) x2).1 632 2), .ref 634]) rfl rfl ?_
        refine y_pure (pc' := 51) (st' := [.int x2, .ref x1, .ref 632, .int ((zpi M3 633 (Int32.toNatClampNeg (M3.1 632 2)) x2).1 632 2), .ref 634]) rfl rfl ?_
        obtain ⟨v10, M9, he8, h⟩ := zC1_inv h
        refine y_callV (pc' := 54) (y := zmK_unlikeAhead) (a' := [.ref x1, .int x2]) (st' := [.int ((zpi M3 633 (Int32.toNatClampNeg (M3.1 632 2)) x2).1 632 2), .ref 634]) rfl rfl rfl rfl rfl (zrecv_o (o := 2) zc_632 rfl) rfl he8 rfl rfl ?_
        obtain ⟨hi11, h⟩ := zg_inv h
        refine y_iast (pc' := 55) rfl zc_634 hi11 rfl ?_
        refine y_pure (pc' := 56) (st' := [.ref 632]) rfl rfl ?_
        refine y_pure (pc' := 57) (st' := [.ref 632, .ref 632]) rfl rfl ?_
        refine y_getf (pc' := 60) (v := .int ((zpi M9 634 (Int32.toNatClampNeg ((zpi M3 633 (Int32.toNatClampNeg (M3.1 632 2)) x2).1 632 2)) v10).1 632 2)) rfl rfl rfl zc_632 rfl rfl ?_
        refine y_pure (pc' := 61) (st' := [.int (nI 1), .int ((zpi M9 634 (Int32.toNatClampNeg ((zpi M3 633 (Int32.toNatClampNeg (M3.1 632 2)) x2).1 632 2)) v10).1 632 2), .ref 632]) rfl rfl ?_
        refine y_pure (pc' := 62) (st' := [.int (((zpi M9 634 (Int32.toNatClampNeg ((zpi M3 633 (Int32.toNatClampNeg (M3.1 632 2)) x2).1 632 2)) v10).1 632 2) + (nI 1)), .ref 632]) rfl rfl ?_
        refine y_putI (pc' := 65) rfl rfl zc_632 rfl ?_
        obtain ⟨M12, e13, h⟩ := zL_inv h
        refine zM_gen e13 ?_
        refine y_pure (pc' := 68) (ls' := [(0, .ref 632), (1, .ref x1), (2, .int (x2 + (nI 1)))]) (st' := []) rfl rfl ?_
        refine y_pure (pc' := 7) rfl rfl ?_
        refine zEx_sub ?_ h
        exact ⟨rfl, rfl, rfl, trivial⟩
      · refine y_cmp (pc' := 65) rfl rfl (zc_geT hc6) rfl ?_
        refine y_pure (pc' := 68) (ls' := [(0, .ref 632), (1, .ref x1), (2, .int (x2 + (nI 1)))]) (st' := []) rfl rfl ?_
        refine y_pure (pc' := 7) rfl rfl ?_
        refine zEx_sub ?_ h
        exact ⟨rfl, rfl, rfl, trivial⟩
  · refine y_cmp (pc' := 71) rfl rfl (zc_geT hc1) rfl ?_
    exact y_ret rfl rfl rfl rfl h
theorem e_K_layOut {d : Nat} {x1 : Nat} {M : ZM} {r : ZR} (hk1 : zkd x1 = (10, 0)) (h : h_K_layOut_7 d x1 (nI 0) (zpi M 632 2 (nI 0)) = some r) : zEv (d + 1) zmK_layOut [.ref 632, .ref x1] M = some r := by
  rw [zEv_succ]
  show zEx0 (zEv d) zmK_layOut (0, [(0, .ref 632), (1, .ref x1)], [], M) = some r
  refine y_pure (pc' := 1) (st' := [.ref 632]) rfl rfl ?_
  refine y_pure (pc' := 2) (st' := [.int (nI 0), .ref 632]) rfl rfl ?_
  refine y_putI (pc' := 5) rfl rfl zc_632 rfl ?_
  refine y_pure (pc' := 6) (st' := [.int (nI 0)]) rfl rfl ?_
  refine y_pure (pc' := 7) (ls' := [(0, .ref 632), (1, .ref x1), (2, .int (nI 0))]) (st' := []) rfl rfl ?_
  refine zEx_sub ?_ h
  exact ⟨rfl, rfl, rfl, trivial⟩
noncomputable def h_K_unlikeAhead_5 (d : Nat) (x1 : Nat) (x2 : Int32) (x3 : Int32) (x4 : Int32) (M : ZM) : Option ZR := zEx0 (zEv d) zmK_unlikeAhead (5, [(0, .ref 632), (1, .ref x1), (2, .int x2), (3, .int x3), (4, .int x4)], [], M)
theorem e_K_unlikeAhead_5 {d : Nat} {x1 : Nat} {x2 : Int32} {x3 : Int32} {x4 : Int32} {M : ZM} {r : ZR} (hk1 : zkd x1 = (10, 0)) (h : (if x4 < (M.1 632 2) then zC1 (zEv d zmB_cagesOf [.ref x1, .int x2] M) (fun v4 M3 => (if zin x4 16 = true then zC1 (zEv d zmB_cagesOf [.ref x1, .int (M3.1 633 (Int32.toNatClampNeg x4))] M3) (fun v8 M7 => (if ((v4 &&& v8) &&& ((M7.1 x1 7) ^^^ (-1 : Int32))) = (nI 0) then h_K_unlikeAhead_5 d x1 x2 x3 (x4 + (nI 1)) M7 else h_K_unlikeAhead_5 d x1 x2 (x3 ||| ((nI 1) <<< (x4 &&& 31))) (x4 + (nI 1)) M7)) else none)) else some (some (.int x3), M)) = some r) : h_K_unlikeAhead_5 d x1 x2 x3 x4 M = some r := by
  show zEx0 (zEv d) zmK_unlikeAhead (5, [(0, .ref 632), (1, .ref x1), (2, .int x2), (3, .int x3), (4, .int x4)], [], M) = some r
  refine y_pure (pc' := 7) (st' := [.int x4]) rfl rfl ?_
  refine y_pure (pc' := 8) (st' := [.ref 632, .int x4]) rfl rfl ?_
  refine y_getf (pc' := 11) (v := .int (M.1 632 2)) rfl rfl rfl zc_632 rfl rfl ?_
  rcases zif_inv h with ⟨hc1, h⟩ | ⟨hc1, h⟩
  · refine y_cmp (pc' := 14) rfl rfl (zc_geF hc1) rfl ?_
    refine y_pure (pc' := 15) (st' := [.ref x1]) rfl rfl ?_
    refine y_pure (pc' := 16) (st' := [.int x2, .ref x1]) rfl rfl ?_
    obtain ⟨v4, M3, he2, h⟩ := zC1_inv h
    refine y_callV (pc' := 19) (y := zmB_cagesOf) (a' := [.int x2]) (st' := []) rfl rfl rfl rfl rfl (zrecv_o (o := 0) hk1 rfl) rfl he2 rfl rfl ?_
    refine y_pure (pc' := 20) (st' := [.ref x1, .int v4]) rfl rfl ?_
    refine y_pure (pc' := 21) (st' := [.ref 632, .ref x1, .int v4]) rfl rfl ?_
    refine y_getf (pc' := 24) (v := .ref 633) rfl rfl rfl zc_632 rfl rfl ?_
    refine y_pure (pc' := 26) (st' := [.int x4, .ref 633, .ref x1, .int v4]) rfl rfl ?_
    obtain ⟨hi5, h⟩ := zg_inv h
    refine y_iald (pc' := 27) rfl zc_633 hi5 rfl ?_
    obtain ⟨v8, M7, he6, h⟩ := zC1_inv h
    refine y_callV (pc' := 30) (y := zmB_cagesOf) (a' := [.int (M3.1 633 (Int32.toNatClampNeg x4))]) (st' := [.int v4]) rfl rfl rfl rfl rfl (zrecv_o (o := 0) hk1 rfl) rfl he6 rfl rfl ?_
    refine y_pure (pc' := 31) (st' := [.int (v4 &&& v8)]) rfl rfl ?_
    refine y_pure (pc' := 32) (st' := [.ref x1, .int (v4 &&& v8)]) rfl rfl ?_
    refine y_getf (pc' := 35) (v := .int (M7.1 x1 7)) rfl rfl rfl hk1 rfl rfl ?_
    refine y_pure (pc' := 36) (st' := [.int (-1 : Int32), .int (M7.1 x1 7), .int (v4 &&& v8)]) rfl rfl ?_
    refine y_pure (pc' := 37) (st' := [.int ((M7.1 x1 7) ^^^ (-1 : Int32)), .int (v4 &&& v8)]) rfl rfl ?_
    refine y_pure (pc' := 38) (st' := [.int ((v4 &&& v8) &&& ((M7.1 x1 7) ^^^ (-1 : Int32)))]) rfl rfl ?_
    rcases zif_inv h with ⟨hc9, h⟩ | ⟨hc9, h⟩
    · refine y_cnd (pc' := 48) rfl rfl (zc_eqT hc9) rfl ?_
      refine y_pure (pc' := 51) (ls' := [(0, .ref 632), (1, .ref x1), (2, .int x2), (3, .int x3), (4, .int (x4 + (nI 1)))]) (st' := []) rfl rfl ?_
      refine y_pure (pc' := 5) rfl rfl ?_
      refine zEx_sub ?_ h
      exact ⟨rfl, rfl, rfl, rfl, rfl, trivial⟩
    · refine y_cnd (pc' := 41) rfl rfl (zc_eqF hc9) rfl ?_
      refine y_pure (pc' := 42) (st' := [.int x3]) rfl rfl ?_
      refine y_pure (pc' := 43) (st' := [.int (nI 1), .int x3]) rfl rfl ?_
      refine y_pure (pc' := 45) (st' := [.int x4, .int (nI 1), .int x3]) rfl rfl ?_
      refine y_pure (pc' := 46) (st' := [.int ((nI 1) <<< (x4 &&& 31)), .int x3]) rfl rfl ?_
      refine y_pure (pc' := 47) (st' := [.int (x3 ||| ((nI 1) <<< (x4 &&& 31)))]) rfl rfl ?_
      refine y_pure (pc' := 48) (ls' := [(0, .ref 632), (1, .ref x1), (2, .int x2), (3, .int (x3 ||| ((nI 1) <<< (x4 &&& 31)))), (4, .int x4)]) (st' := []) rfl rfl ?_
      refine y_pure (pc' := 51) (ls' := [(0, .ref 632), (1, .ref x1), (2, .int x2), (3, .int (x3 ||| ((nI 1) <<< (x4 &&& 31)))), (4, .int (x4 + (nI 1)))]) (st' := []) rfl rfl ?_
      refine y_pure (pc' := 5) rfl rfl ?_
      refine zEx_sub ?_ h
      exact ⟨rfl, rfl, rfl, rfl, rfl, trivial⟩
  · refine y_cmp (pc' := 54) rfl rfl (zc_geT hc1) rfl ?_
    refine y_pure (pc' := 55) (st' := [.int x3]) rfl rfl ?_
    exact y_ret rfl rfl rfl rfl h
theorem e_K_unlikeAhead {d : Nat} {x1 : Nat} {x2 : Int32} {M : ZM} {r : ZR} (hk1 : zkd x1 = (10, 0)) (h : h_K_unlikeAhead_5 d x1 x2 (nI 0) (nI 0) M = some r) : zEv (d + 1) zmK_unlikeAhead [.ref 632, .ref x1, .int x2] M = some r := by
  rw [zEv_succ]
  show zEx0 (zEv d) zmK_unlikeAhead (0, [(0, .ref 632), (1, .ref x1), (2, .int x2)], [], M) = some r
  refine y_pure (pc' := 1) (st' := [.int (nI 0)]) rfl rfl ?_
  refine y_pure (pc' := 2) (ls' := [(0, .ref 632), (1, .ref x1), (2, .int x2), (3, .int (nI 0))]) (st' := []) rfl rfl ?_
  refine y_pure (pc' := 3) (st' := [.int (nI 0)]) rfl rfl ?_
  refine y_pure (pc' := 5) (ls' := [(0, .ref 632), (1, .ref x1), (2, .int x2), (3, .int (nI 0)), (4, .int (nI 0))]) (st' := []) rfl rfl ?_
  refine zEx_sub ?_ h
  exact ⟨rfl, rfl, rfl, rfl, rfl, trivial⟩
theorem e_K_draw {d : Nat} {x1 : Int32} {x2 : Int32} {M : ZM} {r : ZR}  (h : (if (M.1 632 1) < (nI 2000) then (if x2 < (nI 1) then some (some (.int (nI 0)), M) else (if x2 = nI 0 then none else (if zin x1 16 = true then zL (zpi (zpi (zpi M 632 1 ((M.1 632 1) + (nI 1))) 632 0 ((((zpi M 632 1 ((M.1 632 1) + (nI 1))).1 632 0) * (nI 1103515245)) + (nI 12345))) 635 (Int32.toNatClampNeg x1) (((Int32.toUInt32 ((zpi (zpi M 632 1 ((M.1 632 1) + (nI 1))) 632 0 ((((zpi M 632 1 ((M.1 632 1) + (nI 1))).1 632 0) * (nI 1103515245)) + (nI 12345))).1 632 0) >>> (Int32.toUInt32 (nI 16) &&& Int32.toUInt32 31)).toInt32) - ((Int32.toUInt32 ((zpi (zpi M 632 1 ((M.1 632 1) + (nI 1))) 632 0 ((((zpi M 632 1 ((M.1 632 1) + (nI 1))).1 632 0) * (nI 1103515245)) + (nI 12345))).1 632 0) >>> (Int32.toUInt32 (nI 16) &&& Int32.toUInt32 31)).toInt32) / x2 * x2)) (fun M5 => some (some (.int (nI 1)), (zpi M5 636 (Int32.toNatClampNeg x1) (nI 0)))) else none))) else some (some (.int (nI 0)), M)) = some r) : zEv (d + 1) zmK_draw [.ref 632, .int x1, .int x2] M = some r := by
  rw [zEv_succ]
  show zEx0 (zEv d) zmK_draw (0, [(0, .ref 632), (1, .int x1), (2, .int x2)], [], M) = some r
  refine y_pure (pc' := 1) (st' := [.ref 632]) rfl rfl ?_
  refine y_getf (pc' := 4) (v := .int (M.1 632 1)) rfl rfl rfl zc_632 rfl rfl ?_
  refine y_pure (pc' := 7) (st' := [.int (nI 2000), .int (M.1 632 1)]) rfl rfl ?_
  rcases zif_inv h with ⟨hc1, h⟩ | ⟨hc1, h⟩
  · refine y_cmp (pc' := 10) rfl rfl (zc_geF hc1) rfl ?_
    refine y_pure (pc' := 11) (st' := [.int x2]) rfl rfl ?_
    refine y_pure (pc' := 12) (st' := [.int (nI 1), .int x2]) rfl rfl ?_
    rcases zif_inv h with ⟨hc2, h⟩ | ⟨hc2, h⟩
    · refine y_cmp (pc' := 15) rfl rfl (zc_geF hc2) rfl ?_
      refine y_pure (pc' := 16) (st' := [.int (nI 0)]) rfl rfl ?_
      exact y_retZ rfl rfl (by decide) h
    · refine y_cmp (pc' := 17) rfl rfl (zc_geT hc2) rfl ?_
      refine y_pure (pc' := 18) (st' := [.ref 632]) rfl rfl ?_
      refine y_pure (pc' := 19) (st' := [.ref 632, .ref 632]) rfl rfl ?_
      refine y_getf (pc' := 22) (v := .int (M.1 632 1)) rfl rfl rfl zc_632 rfl rfl ?_
      refine y_pure (pc' := 23) (st' := [.int (nI 1), .int (M.1 632 1), .ref 632]) rfl rfl ?_
      refine y_pure (pc' := 24) (st' := [.int ((M.1 632 1) + (nI 1)), .ref 632]) rfl rfl ?_
      refine y_putI (pc' := 27) rfl rfl zc_632 rfl ?_
      refine y_pure (pc' := 28) (st' := [.ref 632]) rfl rfl ?_
      refine y_pure (pc' := 29) (st' := [.ref 632, .ref 632]) rfl rfl ?_
      refine y_getf (pc' := 32) (v := .int ((zpi M 632 1 ((M.1 632 1) + (nI 1))).1 632 0)) rfl rfl rfl zc_632 rfl rfl ?_
      refine y_pure (pc' := 34) (st' := [.int (nI 1103515245), .int ((zpi M 632 1 ((M.1 632 1) + (nI 1))).1 632 0), .ref 632]) rfl rfl ?_
      refine y_pure (pc' := 35) (st' := [.int (((zpi M 632 1 ((M.1 632 1) + (nI 1))).1 632 0) * (nI 1103515245)), .ref 632]) rfl rfl ?_
      refine y_pure (pc' := 38) (st' := [.int (nI 12345), .int (((zpi M 632 1 ((M.1 632 1) + (nI 1))).1 632 0) * (nI 1103515245)), .ref 632]) rfl rfl ?_
      refine y_pure (pc' := 39) (st' := [.int ((((zpi M 632 1 ((M.1 632 1) + (nI 1))).1 632 0) * (nI 1103515245)) + (nI 12345)), .ref 632]) rfl rfl ?_
      refine y_putI (pc' := 42) rfl rfl zc_632 rfl ?_
      refine y_pure (pc' := 43) (st' := [.ref 632]) rfl rfl ?_
      refine y_getf (pc' := 46) (v := .ref 635) rfl rfl rfl zc_632 rfl rfl ?_
      refine y_pure (pc' := 47) (st' := [.int x1, .ref 635]) rfl rfl ?_
      refine y_pure (pc' := 48) (st' := [.ref 632, .int x1, .ref 635]) rfl rfl ?_
      refine y_getf (pc' := 51) (v := .int ((zpi (zpi M 632 1 ((M.1 632 1) + (nI 1))) 632 0 ((((zpi M 632 1 ((M.1 632 1) + (nI 1))).1 632 0) * (nI 1103515245)) + (nI 12345))).1 632 0)) rfl rfl rfl zc_632 rfl rfl ?_
      refine y_pure (pc' := 53) (st' := [.int (nI 16), .int ((zpi (zpi M 632 1 ((M.1 632 1) + (nI 1))) 632 0 ((((zpi M 632 1 ((M.1 632 1) + (nI 1))).1 632 0) * (nI 1103515245)) + (nI 12345))).1 632 0), .int x1, .ref 635]) rfl rfl ?_
      refine y_pure (pc' := 54) (st' := [.int ((Int32.toUInt32 ((zpi (zpi M 632 1 ((M.1 632 1) + (nI 1))) 632 0 ((((zpi M 632 1 ((M.1 632 1) + (nI 1))).1 632 0) * (nI 1103515245)) + (nI 12345))).1 632 0) >>> (Int32.toUInt32 (nI 16) &&& Int32.toUInt32 31)).toInt32), .int x1, .ref 635]) rfl rfl ?_
      refine y_pure (pc' := 55) (st' := [.int x2, .int ((Int32.toUInt32 ((zpi (zpi M 632 1 ((M.1 632 1) + (nI 1))) 632 0 ((((zpi M 632 1 ((M.1 632 1) + (nI 1))).1 632 0) * (nI 1103515245)) + (nI 12345))).1 632 0) >>> (Int32.toUInt32 (nI 16) &&& Int32.toUInt32 31)).toInt32), .int x1, .ref 635]) rfl rfl ?_
      obtain ⟨hb3, h⟩ := zd_inv h
      refine y_irem (pc' := 56) (st := [.int x1, .ref 635]) rfl hb3 rfl ?_
      obtain ⟨hi4, h⟩ := zg_inv h
      refine y_iast (pc' := 57) rfl zc_635 hi4 rfl ?_
      obtain ⟨M5, e6, h⟩ := zL_inv h
      refine zM_gen e6 ?_
      refine y_pure (pc' := 58) (st' := [.ref 632]) rfl rfl ?_
      refine y_getf (pc' := 61) (v := .ref 636) rfl rfl rfl zc_632 rfl rfl ?_
      refine y_pure (pc' := 62) (st' := [.int x1, .ref 636]) rfl rfl ?_
      refine y_pure (pc' := 63) (st' := [.int (nI 0), .int x1, .ref 636]) rfl rfl ?_
      refine y_iast (pc' := 64) rfl zc_636 hi4 rfl ?_
      refine y_pure (pc' := 65) (st' := [.int (nI 1)]) rfl rfl ?_
      exact y_retZ rfl rfl (by decide) h
  · refine y_cmp (pc' := 15) rfl rfl (zc_geT hc1) rfl ?_
    refine y_pure (pc' := 16) (st' := [.int (nI 0)]) rfl rfl ?_
    exact y_retZ rfl rfl (by decide) h
noncomputable def h_K_tryNext_0 (d : Nat) (x1 : Int32) (x2 : Int32) (M : ZM) : Option ZR := zEx0 (zEv d) zmK_tryNext (0, [(0, .ref 632), (1, .int x1), (2, .int x2)], [], M)
theorem e_K_tryNext_0 {d : Nat} {x1 : Int32} {x2 : Int32} {M : ZM} {r : ZR}  (h : (if zin x1 16 = true then (if (M.1 636 (Int32.toNatClampNeg x1)) < x2 then (if (nI 0) < x2 then (if x2 = nI 0 then none else zL ((((M.1 635 (Int32.toNatClampNeg x1)) + (M.1 636 (Int32.toNatClampNeg x1))) - ((M.1 635 (Int32.toNatClampNeg x1)) + (M.1 636 (Int32.toNatClampNeg x1))) / x2 * x2) + (nI 1)) (fun y5 => zC1 (zEv d zmK_mayStand [.ref 632, .int x1, .int y5] (zpi M 636 (Int32.toNatClampNeg x1) ((M.1 636 (Int32.toNatClampNeg x1)) + (nI 1)))) (fun v9 M8 => (if v9 = (nI 0) then h_K_tryNext_0 d x1 x2 M8 else some (some (.int (nI 1)), (zpi M8 637 (Int32.toNatClampNeg x1) y5)))))) else some (some (.int (nI 0)), M)) else some (some (.int (nI 0)), M)) else none) = some r) : h_K_tryNext_0 d x1 x2 M = some r := by
  show zEx0 (zEv d) zmK_tryNext (0, [(0, .ref 632), (1, .int x1), (2, .int x2)], [], M) = some r
  refine y_pure (pc' := 1) (st' := [.ref 632]) rfl rfl ?_
  refine y_getf (pc' := 4) (v := .ref 636) rfl rfl rfl zc_632 rfl rfl ?_
  refine y_pure (pc' := 5) (st' := [.int x1, .ref 636]) rfl rfl ?_
  obtain ⟨hi1, h⟩ := zg_inv h
  refine y_iald (pc' := 6) rfl zc_636 hi1 rfl ?_
  refine y_pure (pc' := 7) (st' := [.int x2, .int (M.1 636 (Int32.toNatClampNeg x1))]) rfl rfl ?_
  rcases zif_inv h with ⟨hc2, h⟩ | ⟨hc2, h⟩
  · refine y_cmp (pc' := 10) rfl rfl (zc_geF hc2) rfl ?_
    refine y_pure (pc' := 11) (st' := [.int x2]) rfl rfl ?_
    rcases zif_inv h with ⟨hc3, h⟩ | ⟨hc3, h⟩
    · refine y_cnd (pc' := 14) rfl rfl (zc_leF hc3) rfl ?_
      refine y_pure (pc' := 15) (st' := [.ref 632]) rfl rfl ?_
      refine y_getf (pc' := 18) (v := .ref 635) rfl rfl rfl zc_632 rfl rfl ?_
      refine y_pure (pc' := 19) (st' := [.int x1, .ref 635]) rfl rfl ?_
      refine y_iald (pc' := 20) rfl zc_635 hi1 rfl ?_
      refine y_pure (pc' := 21) (st' := [.ref 632, .int (M.1 635 (Int32.toNatClampNeg x1))]) rfl rfl ?_
      refine y_getf (pc' := 24) (v := .ref 636) rfl rfl rfl zc_632 rfl rfl ?_
      refine y_pure (pc' := 25) (st' := [.int x1, .ref 636, .int (M.1 635 (Int32.toNatClampNeg x1))]) rfl rfl ?_
      refine y_iald (pc' := 26) rfl zc_636 hi1 rfl ?_
      refine y_pure (pc' := 27) (st' := [.int ((M.1 635 (Int32.toNatClampNeg x1)) + (M.1 636 (Int32.toNatClampNeg x1)))]) rfl rfl ?_
      refine y_pure (pc' := 28) (st' := [.int x2, .int ((M.1 635 (Int32.toNatClampNeg x1)) + (M.1 636 (Int32.toNatClampNeg x1)))]) rfl rfl ?_
      obtain ⟨hb4, h⟩ := zd_inv h
      refine y_irem (pc' := 29) (st := []) rfl hb4 rfl ?_
      refine y_pure (pc' := 30) (st' := [.int (nI 1), .int (((M.1 635 (Int32.toNatClampNeg x1)) + (M.1 636 (Int32.toNatClampNeg x1))) - ((M.1 635 (Int32.toNatClampNeg x1)) + (M.1 636 (Int32.toNatClampNeg x1))) / x2 * x2)]) rfl rfl ?_
      refine y_pure (pc' := 31) (st' := [.int ((((M.1 635 (Int32.toNatClampNeg x1)) + (M.1 636 (Int32.toNatClampNeg x1))) - ((M.1 635 (Int32.toNatClampNeg x1)) + (M.1 636 (Int32.toNatClampNeg x1))) / x2 * x2) + (nI 1))]) rfl rfl ?_
      obtain ⟨y5, e6, h⟩ := zL_inv h
      refine zT_gen e6 ?_
      refine y_pure (pc' := 32) (ls' := [(0, .ref 632), (1, .int x1), (2, .int x2), (3, .int y5)]) (st' := []) rfl rfl ?_
      refine y_pure (pc' := 33) (st' := [.ref 632]) rfl rfl ?_
      refine y_getf (pc' := 36) (v := .ref 636) rfl rfl rfl zc_632 rfl rfl ?_
      refine y_pure (pc' := 37) (st' := [.int x1, .ref 636]) rfl rfl ?_
      refine y_pure (pc' := 38) (st' := [.int x1, .ref 636, .int x1, .ref 636]) rfl rfl ?_
      refine y_iald (pc' := 39) rfl zc_636 hi1 rfl ?_
      refine y_pure (pc' := 40) (st' := [.int (nI 1), .int (M.1 636 (Int32.toNatClampNeg x1)), .int x1, .ref 636]) rfl rfl ?_
      refine y_pure (pc' := 41) (st' := [.int ((M.1 636 (Int32.toNatClampNeg x1)) + (nI 1)), .int x1, .ref 636]) rfl rfl ?_
      refine y_iast (pc' := 42) rfl zc_636 hi1 rfl ?_
      refine y_pure (pc' := 43) (st' := [.ref 632]) rfl rfl ?_
      refine y_pure (pc' := 44) (st' := [.int x1, .ref 632]) rfl rfl ?_
      refine y_pure (pc' := 45) (st' := [.int y5, .int x1, .ref 632]) rfl rfl ?_
      obtain ⟨v9, M8, he7, h⟩ := zC1_inv h
      refine y_callV (pc' := 48) (y := zmK_mayStand) (a' := [.int x1, .int y5]) (st' := []) rfl rfl rfl rfl rfl (zrecv_o (o := 2) zc_632 rfl) rfl he7 rfl rfl ?_
      rcases zif_inv h with ⟨hc10, h⟩ | ⟨hc10, h⟩
      · refine y_cnd (pc' := 60) rfl rfl (zc_eqT hc10) rfl ?_
        refine y_pure (pc' := 0) rfl rfl ?_
        refine zEx_sub ?_ h
        exact ⟨rfl, rfl, rfl, trivial⟩
      · refine y_cnd (pc' := 51) rfl rfl (zc_eqF hc10) rfl ?_
        refine y_pure (pc' := 52) (st' := [.ref 632]) rfl rfl ?_
        refine y_getf (pc' := 55) (v := .ref 637) rfl rfl rfl zc_632 rfl rfl ?_
        refine y_pure (pc' := 56) (st' := [.int x1, .ref 637]) rfl rfl ?_
        refine y_pure (pc' := 57) (st' := [.int y5, .int x1, .ref 637]) rfl rfl ?_
        refine y_iast (pc' := 58) rfl zc_637 hi1 rfl ?_
        refine y_pure (pc' := 59) (st' := [.int (nI 1)]) rfl rfl ?_
        exact y_retZ rfl rfl (by decide) h
    · refine y_cnd (pc' := 63) rfl rfl (zc_leT hc3) rfl ?_
      refine y_pure (pc' := 64) (st' := [.int (nI 0)]) rfl rfl ?_
      exact y_retZ rfl rfl (by decide) h
  · refine y_cmp (pc' := 63) rfl rfl (zc_geT hc2) rfl ?_
    refine y_pure (pc' := 64) (st' := [.int (nI 0)]) rfl rfl ?_
    exact y_retZ rfl rfl (by decide) h
theorem e_K_tryNext {d : Nat} {x1 : Int32} {x2 : Int32} {M : ZM} {r : ZR}  (h : h_K_tryNext_0 d x1 x2 M = some r) : zEv (d + 1) zmK_tryNext [.ref 632, .int x1, .int x2] M = some r := by
  rw [zEv_succ]
  show zEx0 (zEv d) zmK_tryNext (0, [(0, .ref 632), (1, .int x1), (2, .int x2)], [], M) = some r
  refine zEx_sub ?_ h
  exact ⟨rfl, rfl, rfl, trivial⟩
noncomputable def h_K_mayStand_2 (d : Nat) (x1 : Int32) (x2 : Int32) (x3 : Int32) (M : ZM) : Option ZR := zEx0 (zEv d) zmK_mayStand (2, [(0, .ref 632), (1, .int x1), (2, .int x2), (3, .int x3)], [], M)
theorem e_K_mayStand_2 {d : Nat} {x1 : Int32} {x2 : Int32} {x3 : Int32} {M : ZM} {r : ZR}  (h : (if x3 < x1 then (if zin x1 16 = true then (if (((M.1 634 (Int32.toNatClampNeg x1)) >>> (x3 &&& 31)) &&& (nI 1)) = (nI 1) then (if zin x3 16 = true then (if (M.1 637 (Int32.toNatClampNeg x3)) = x2 then some (some (.int (nI 0)), M) else h_K_mayStand_2 d x1 x2 (x3 + (nI 1)) M) else none) else h_K_mayStand_2 d x1 x2 (x3 + (nI 1)) M) else none) else some (some (.int (nI 1)), M)) = some r) : h_K_mayStand_2 d x1 x2 x3 M = some r := by
  show zEx0 (zEv d) zmK_mayStand (2, [(0, .ref 632), (1, .int x1), (2, .int x2), (3, .int x3)], [], M) = some r
  refine y_pure (pc' := 3) (st' := [.int x3]) rfl rfl ?_
  refine y_pure (pc' := 4) (st' := [.int x1, .int x3]) rfl rfl ?_
  rcases zif_inv h with ⟨hc1, h⟩ | ⟨hc1, h⟩
  · refine y_cmp (pc' := 7) rfl rfl (zc_geF hc1) rfl ?_
    refine y_pure (pc' := 8) (st' := [.ref 632]) rfl rfl ?_
    refine y_getf (pc' := 11) (v := .ref 634) rfl rfl rfl zc_632 rfl rfl ?_
    refine y_pure (pc' := 12) (st' := [.int x1, .ref 634]) rfl rfl ?_
    obtain ⟨hi2, h⟩ := zg_inv h
    refine y_iald (pc' := 13) rfl zc_634 hi2 rfl ?_
    refine y_pure (pc' := 14) (st' := [.int x3, .int (M.1 634 (Int32.toNatClampNeg x1))]) rfl rfl ?_
    refine y_pure (pc' := 15) (st' := [.int ((M.1 634 (Int32.toNatClampNeg x1)) >>> (x3 &&& 31))]) rfl rfl ?_
    refine y_pure (pc' := 16) (st' := [.int (nI 1), .int ((M.1 634 (Int32.toNatClampNeg x1)) >>> (x3 &&& 31))]) rfl rfl ?_
    refine y_pure (pc' := 17) (st' := [.int (((M.1 634 (Int32.toNatClampNeg x1)) >>> (x3 &&& 31)) &&& (nI 1))]) rfl rfl ?_
    refine y_pure (pc' := 18) (st' := [.int (nI 1), .int (((M.1 634 (Int32.toNatClampNeg x1)) >>> (x3 &&& 31)) &&& (nI 1))]) rfl rfl ?_
    rcases zif_inv h with ⟨hc3, h⟩ | ⟨hc3, h⟩
    · refine y_cmp (pc' := 21) rfl rfl (zc_neF hc3) rfl ?_
      refine y_pure (pc' := 22) (st' := [.ref 632]) rfl rfl ?_
      refine y_getf (pc' := 25) (v := .ref 637) rfl rfl rfl zc_632 rfl rfl ?_
      refine y_pure (pc' := 26) (st' := [.int x3, .ref 637]) rfl rfl ?_
      obtain ⟨hi4, h⟩ := zg_inv h
      refine y_iald (pc' := 27) rfl zc_637 hi4 rfl ?_
      refine y_pure (pc' := 28) (st' := [.int x2, .int (M.1 637 (Int32.toNatClampNeg x3))]) rfl rfl ?_
      rcases zif_inv h with ⟨hc5, h⟩ | ⟨hc5, h⟩
      · refine y_cmp (pc' := 31) rfl rfl (zc_neF hc5) rfl ?_
        refine y_pure (pc' := 32) (st' := [.int (nI 0)]) rfl rfl ?_
        exact y_retZ rfl rfl (by decide) h
      · refine y_cmp (pc' := 33) rfl rfl (zc_neT hc5) rfl ?_
        refine y_pure (pc' := 36) (ls' := [(0, .ref 632), (1, .int x1), (2, .int x2), (3, .int (x3 + (nI 1)))]) (st' := []) rfl rfl ?_
        refine y_pure (pc' := 2) rfl rfl ?_
        refine zEx_sub ?_ h
        exact ⟨rfl, rfl, rfl, rfl, trivial⟩
    · refine y_cmp (pc' := 33) rfl rfl (zc_neT hc3) rfl ?_
      refine y_pure (pc' := 36) (ls' := [(0, .ref 632), (1, .int x1), (2, .int x2), (3, .int (x3 + (nI 1)))]) (st' := []) rfl rfl ?_
      refine y_pure (pc' := 2) rfl rfl ?_
      refine zEx_sub ?_ h
      exact ⟨rfl, rfl, rfl, rfl, trivial⟩
  · refine y_cmp (pc' := 39) rfl rfl (zc_geT hc1) rfl ?_
    refine y_pure (pc' := 40) (st' := [.int (nI 1)]) rfl rfl ?_
    exact y_retZ rfl rfl (by decide) h
theorem e_K_mayStand {d : Nat} {x1 : Int32} {x2 : Int32} {M : ZM} {r : ZR}  (h : h_K_mayStand_2 d x1 x2 (nI 0) M = some r) : zEv (d + 1) zmK_mayStand [.ref 632, .int x1, .int x2] M = some r := by
  rw [zEv_succ]
  show zEx0 (zEv d) zmK_mayStand (0, [(0, .ref 632), (1, .int x1), (2, .int x2)], [], M) = some r
  refine y_pure (pc' := 1) (st' := [.int (nI 0)]) rfl rfl ?_
  refine y_pure (pc' := 2) (ls' := [(0, .ref 632), (1, .int x1), (2, .int x2), (3, .int (nI 0))]) (st' := []) rfl rfl ?_
  refine zEx_sub ?_ h
  exact ⟨rfl, rfl, rfl, rfl, trivial⟩
theorem e_K_digitAt {d : Nat} {x1 : Int32} {M : ZM} {r : ZR}  (h : (if x1 < (nI 0) then some (some (.int (nI 0)), M) else (if x1 < (nI 16) then (if zin x1 16 = true then some (some (.int (M.1 637 (Int32.toNatClampNeg x1))), M) else none) else some (some (.int (nI 0)), M))) = some r) : zEv (d + 1) zmK_digitAt [.ref 632, .int x1] M = some r := by
  rw [zEv_succ]
  show zEx0 (zEv d) zmK_digitAt (0, [(0, .ref 632), (1, .int x1)], [], M) = some r
  refine y_pure (pc' := 1) (st' := [.int x1]) rfl rfl ?_
  rcases zif_inv h with ⟨hc1, h⟩ | ⟨hc1, h⟩
  · refine y_cnd (pc' := 19) rfl rfl (zc_ltT hc1) rfl ?_
    refine y_pure (pc' := 20) (st' := [.int (nI 0)]) rfl rfl ?_
    exact y_ret rfl rfl rfl rfl h
  · refine y_cnd (pc' := 4) rfl rfl (zc_ltF hc1) rfl ?_
    refine y_pure (pc' := 5) (st' := [.int x1]) rfl rfl ?_
    refine y_pure (pc' := 7) (st' := [.int (nI 16), .int x1]) rfl rfl ?_
    rcases zif_inv h with ⟨hc2, h⟩ | ⟨hc2, h⟩
    · refine y_cmp (pc' := 10) rfl rfl (zc_geF hc2) rfl ?_
      refine y_pure (pc' := 11) (st' := [.ref 632]) rfl rfl ?_
      refine y_getf (pc' := 14) (v := .ref 637) rfl rfl rfl zc_632 rfl rfl ?_
      refine y_pure (pc' := 15) (st' := [.int x1, .ref 637]) rfl rfl ?_
      obtain ⟨hi3, h⟩ := zg_inv h
      refine y_iald (pc' := 16) rfl zc_637 hi3 rfl ?_
      refine y_pure (pc' := 20) rfl rfl ?_
      exact y_ret rfl rfl rfl rfl h
    · refine y_cmp (pc' := 19) rfl rfl (zc_geT hc2) rfl ?_
      refine y_pure (pc' := 20) (st' := [.int (nI 0)]) rfl rfl ?_
      exact y_ret rfl rfl rfl rfl h
noncomputable def h_K_tellTotals_21 (d : Nat) (x1 : Nat) (x2 : Int32) (M : ZM) : Option ZR := zEx0 (zEv d) zmK_tellTotals (21, [(0, .ref 632), (1, .ref x1), (2, .int x2)], [], M)
noncomputable def h_K_tellTotals_40 (d : Nat) (x1 : Nat) (x2 : Int32) (x3 : Int32) (x4 : Int32) (x5 : Int32) (x6 : Int32) (M : ZM) : Option ZR := zEx0 (zEv d) zmK_tellTotals (40, [(0, .ref 632), (1, .ref x1), (2, .int x2), (3, .int x3), (4, .int x4), (5, .int x5), (6, .int x6)], [], M)
theorem e_K_tellTotals_21 {d : Nat} {x1 : Nat} {x2 : Int32} {M : ZM} {r : ZR} (hk1 : zkd x1 = (10, 0)) (h : (if x2 < (M.1 x1 3) then h_K_tellTotals_40 d x1 x2 (nI 0) (nI 1) (nI 0) (nI 0) M else some (none, M)) = some r) : h_K_tellTotals_21 d x1 x2 M = some r := by
  show zEx0 (zEv d) zmK_tellTotals (21, [(0, .ref 632), (1, .ref x1), (2, .int x2)], [], M) = some r
  refine y_pure (pc' := 22) (st' := [.int x2]) rfl rfl ?_
  refine y_pure (pc' := 23) (st' := [.ref x1, .int x2]) rfl rfl ?_
  refine y_getf (pc' := 26) (v := .int (M.1 x1 3)) rfl rfl rfl hk1 rfl rfl ?_
  rcases zif_inv h with ⟨hc1, h⟩ | ⟨hc1, h⟩
  · refine y_cmp (pc' := 29) rfl rfl (zc_geF hc1) rfl ?_
    refine y_pure (pc' := 30) (st' := [.int (nI 0)]) rfl rfl ?_
    refine y_pure (pc' := 31) (ls' := [(0, .ref 632), (1, .ref x1), (2, .int x2), (3, .int (nI 0))]) (st' := []) rfl rfl ?_
    refine y_pure (pc' := 32) (st' := [.int (nI 1)]) rfl rfl ?_
    refine y_pure (pc' := 34) (ls' := [(0, .ref 632), (1, .ref x1), (2, .int x2), (3, .int (nI 0)), (4, .int (nI 1))]) (st' := []) rfl rfl ?_
    refine y_pure (pc' := 35) (st' := [.int (nI 0)]) rfl rfl ?_
    refine y_pure (pc' := 37) (ls' := [(0, .ref 632), (1, .ref x1), (2, .int x2), (3, .int (nI 0)), (4, .int (nI 1)), (5, .int (nI 0))]) (st' := []) rfl rfl ?_
    refine y_pure (pc' := 38) (st' := [.int (nI 0)]) rfl rfl ?_
    refine y_pure (pc' := 40) (ls' := [(0, .ref 632), (1, .ref x1), (2, .int x2), (3, .int (nI 0)), (4, .int (nI 1)), (5, .int (nI 0)), (6, .int (nI 0))]) (st' := []) rfl rfl ?_
    refine zEx_sub ?_ h
    exact ⟨rfl, rfl, rfl, rfl, rfl, rfl, rfl, trivial⟩
  · refine y_cmp (pc' := 144) rfl rfl (zc_geT hc1) rfl ?_
    exact y_ret rfl rfl rfl rfl h
theorem e_K_tellTotals_40 {d : Nat} {x1 : Nat} {x2 : Int32} {x3 : Int32} {x4 : Int32} {x5 : Int32} {x6 : Int32} {M : ZM} {r : ZR} (hk1 : zkd x1 = (10, 0)) (h : (if zin x2 12 = true then (if x6 < (M.1 (x1 + 4) (Int32.toNatClampNeg x2)) then (if zin x6 6 = true then zC1 (zEv d zmB_placeOf [.ref x1, .int (M.1 (x1 + 7 + (Int32.toNatClampNeg x2)) (Int32.toNatClampNeg x6))] M) (fun v6 M5 => zC1 (zEv d zmK_digitAt [.ref 632, .int v6] M5) (fun v9 M8 => h_K_tellTotals_40 d x1 x2 (x3 + v9) (x4 * v9) (x5 ||| ((nI 1) <<< (v9 &&& 31))) (x6 + (nI 1)) M8)) else none) else (if (M.1 (x1 + 2) (Int32.toNatClampNeg x2)) = (nI 0) then h_K_tellTotals_21 d x1 (x2 + (nI 1)) (zpi M (x1 + 3) (Int32.toNatClampNeg x2) x3) else (if (M.1 (x1 + 2) (Int32.toNatClampNeg x2)) = (nI 1) then h_K_tellTotals_21 d x1 (x2 + (nI 1)) (zpi M (x1 + 3) (Int32.toNatClampNeg x2) x4) else zC1 (zEv d zmC_totalOfSet [.int (M.1 (x1 + 2) (Int32.toNatClampNeg x2)), .int x5] M) (fun v14 M13 => h_K_tellTotals_21 d x1 (x2 + (nI 1)) (zpi M13 (x1 + 3) (Int32.toNatClampNeg x2) v14))))) else none) = some r) : h_K_tellTotals_40 d x1 x2 x3 x4 x5 x6 M = some r := by
  show zEx0 (zEv d) zmK_tellTotals (40, [(0, .ref 632), (1, .ref x1), (2, .int x2), (3, .int x3), (4, .int x4), (5, .int x5), (6, .int x6)], [], M) = some r
  refine y_pure (pc' := 42) (st' := [.int x6]) rfl rfl ?_
  refine y_pure (pc' := 43) (st' := [.ref x1, .int x6]) rfl rfl ?_
  refine y_getf (pc' := 46) (v := .ref (x1 + 4)) rfl rfl rfl hk1 rfl rfl ?_
  refine y_pure (pc' := 47) (st' := [.int x2, .ref (x1 + 4), .int x6]) rfl rfl ?_
  obtain ⟨hi1, h⟩ := zg_inv h
  refine y_iald (pc' := 48) rfl (zf_0_11 hk1) hi1 rfl ?_
  rcases zif_inv h with ⟨hc2, h⟩ | ⟨hc2, h⟩
  · refine y_cmp (pc' := 51) rfl rfl (zc_geF hc2) rfl ?_
    refine y_pure (pc' := 52) (st' := [.ref 632]) rfl rfl ?_
    refine y_pure (pc' := 53) (st' := [.ref x1, .ref 632]) rfl rfl ?_
    refine y_pure (pc' := 54) (st' := [.ref x1, .ref x1, .ref 632]) rfl rfl ?_
    refine y_getf (pc' := 57) (v := .ref (x1 + 6)) rfl rfl rfl hk1 rfl rfl ?_
    refine y_pure (pc' := 58) (st' := [.int x2, .ref (x1 + 6), .ref x1, .ref 632]) rfl rfl ?_
    refine y_aald (pc' := 59) (q' := x1 + 7 + (Int32.toNatClampNeg x2)) rfl (zf_0_13 hk1) hi1 (congrArg (HAdd.hAdd (x1 + 7)) (Nat.one_mul _)) rfl ?_
    refine y_pure (pc' := 61) (st' := [.int x6, .ref (x1 + 7 + (Int32.toNatClampNeg x2)), .ref x1, .ref 632]) rfl rfl ?_
    obtain ⟨hi3, h⟩ := zg_inv h
    refine y_iald (pc' := 62) rfl (zl_0 (zf_0_13 hk1) hi1) hi3 rfl ?_
    obtain ⟨v6, M5, he4, h⟩ := zC1_inv h
    refine y_callV (pc' := 65) (y := zmB_placeOf) (a' := [.int (M.1 (x1 + 7 + (Int32.toNatClampNeg x2)) (Int32.toNatClampNeg x6))]) (st' := [.ref 632]) rfl rfl rfl rfl rfl (zrecv_o (o := 0) hk1 rfl) rfl he4 rfl rfl ?_
    obtain ⟨v9, M8, he7, h⟩ := zC1_inv h
    refine y_callV (pc' := 68) (y := zmK_digitAt) (a' := [.int v6]) (st' := []) rfl rfl rfl rfl rfl (zrecv_o (o := 2) zc_632 rfl) rfl he7 rfl rfl ?_
    refine y_pure (pc' := 70) (ls' := [(0, .ref 632), (1, .ref x1), (2, .int x2), (3, .int x3), (4, .int x4), (5, .int x5), (6, .int x6), (7, .int v9)]) (st' := []) rfl rfl ?_
    refine y_pure (pc' := 71) (st' := [.int x3]) rfl rfl ?_
    refine y_pure (pc' := 73) (st' := [.int v9, .int x3]) rfl rfl ?_
    refine y_pure (pc' := 74) (st' := [.int (x3 + v9)]) rfl rfl ?_
    refine y_pure (pc' := 75) (ls' := [(0, .ref 632), (1, .ref x1), (2, .int x2), (3, .int (x3 + v9)), (4, .int x4), (5, .int x5), (6, .int x6), (7, .int v9)]) (st' := []) rfl rfl ?_
    refine y_pure (pc' := 77) (st' := [.int x4]) rfl rfl ?_
    refine y_pure (pc' := 79) (st' := [.int v9, .int x4]) rfl rfl ?_
    refine y_pure (pc' := 80) (st' := [.int (x4 * v9)]) rfl rfl ?_
    refine y_pure (pc' := 82) (ls' := [(0, .ref 632), (1, .ref x1), (2, .int x2), (3, .int (x3 + v9)), (4, .int (x4 * v9)), (5, .int x5), (6, .int x6), (7, .int v9)]) (st' := []) rfl rfl ?_
    refine y_pure (pc' := 84) (st' := [.int x5]) rfl rfl ?_
    refine y_pure (pc' := 85) (st' := [.int (nI 1), .int x5]) rfl rfl ?_
    refine y_pure (pc' := 87) (st' := [.int v9, .int (nI 1), .int x5]) rfl rfl ?_
    refine y_pure (pc' := 88) (st' := [.int ((nI 1) <<< (v9 &&& 31)), .int x5]) rfl rfl ?_
    refine y_pure (pc' := 89) (st' := [.int (x5 ||| ((nI 1) <<< (v9 &&& 31)))]) rfl rfl ?_
    refine y_pure (pc' := 91) (ls' := [(0, .ref 632), (1, .ref x1), (2, .int x2), (3, .int (x3 + v9)), (4, .int (x4 * v9)), (5, .int (x5 ||| ((nI 1) <<< (v9 &&& 31)))), (6, .int x6), (7, .int v9)]) (st' := []) rfl rfl ?_
    refine y_pure (pc' := 94) (ls' := [(0, .ref 632), (1, .ref x1), (2, .int x2), (3, .int (x3 + v9)), (4, .int (x4 * v9)), (5, .int (x5 ||| ((nI 1) <<< (v9 &&& 31)))), (6, .int (x6 + (nI 1))), (7, .int v9)]) (st' := []) rfl rfl ?_
    refine y_pure (pc' := 40) rfl rfl ?_
    refine zEx_sub ?_ h
    exact ⟨rfl, rfl, rfl, rfl, rfl, rfl, rfl, trivial⟩
  · refine y_cmp (pc' := 97) rfl rfl (zc_geT hc2) rfl ?_
    refine y_pure (pc' := 98) (st' := [.ref x1]) rfl rfl ?_
    refine y_getf (pc' := 101) (v := .ref (x1 + 2)) rfl rfl rfl hk1 rfl rfl ?_
    refine y_pure (pc' := 102) (st' := [.int x2, .ref (x1 + 2)]) rfl rfl ?_
    refine y_iald (pc' := 103) rfl (zf_0_9 hk1) hi1 rfl ?_
    refine y_pure (pc' := 105) (ls' := [(0, .ref 632), (1, .ref x1), (2, .int x2), (3, .int x3), (4, .int x4), (5, .int x5), (6, .int (M.1 (x1 + 2) (Int32.toNatClampNeg x2)))]) (st' := []) rfl rfl ?_
    refine y_pure (pc' := 106) (st' := [.ref x1]) rfl rfl ?_
    refine y_getf (pc' := 109) (v := .ref (x1 + 3)) rfl rfl rfl hk1 rfl rfl ?_
    refine y_pure (pc' := 110) (st' := [.int x2, .ref (x1 + 3)]) rfl rfl ?_
    refine y_pure (pc' := 112) (st' := [.int (M.1 (x1 + 2) (Int32.toNatClampNeg x2)), .int x2, .ref (x1 + 3)]) rfl rfl ?_
    rcases zif_inv h with ⟨hc10, h⟩ | ⟨hc10, h⟩
    · refine y_cnd (pc' := 115) rfl rfl (zc_neF hc10) rfl ?_
      refine y_pure (pc' := 116) (st' := [.int x3, .int x2, .ref (x1 + 3)]) rfl rfl ?_
      refine y_pure (pc' := 137) rfl rfl ?_
      refine y_iast (pc' := 138) rfl (zf_0_10 hk1) hi1 rfl ?_
      refine y_pure (pc' := 141) (ls' := [(0, .ref 632), (1, .ref x1), (2, .int (x2 + (nI 1))), (3, .int x3), (4, .int x4), (5, .int x5), (6, .int (M.1 (x1 + 2) (Int32.toNatClampNeg x2)))]) (st' := []) rfl rfl ?_
      refine y_pure (pc' := 21) rfl rfl ?_
      refine zEx_sub ?_ h
      exact ⟨rfl, rfl, rfl, trivial⟩
    · refine y_cnd (pc' := 119) rfl rfl (zc_neT hc10) rfl ?_
      refine y_pure (pc' := 121) (st' := [.int (M.1 (x1 + 2) (Int32.toNatClampNeg x2)), .int x2, .ref (x1 + 3)]) rfl rfl ?_
      refine y_pure (pc' := 122) (st' := [.int (nI 1), .int (M.1 (x1 + 2) (Int32.toNatClampNeg x2)), .int x2, .ref (x1 + 3)]) rfl rfl ?_
      rcases zif_inv h with ⟨hc11, h⟩ | ⟨hc11, h⟩
      · refine y_cmp (pc' := 125) rfl rfl (zc_neF hc11) rfl ?_
        refine y_pure (pc' := 127) (st' := [.int x4, .int x2, .ref (x1 + 3)]) rfl rfl ?_
        refine y_pure (pc' := 137) rfl rfl ?_
        refine y_iast (pc' := 138) rfl (zf_0_10 hk1) hi1 rfl ?_
        refine y_pure (pc' := 141) (ls' := [(0, .ref 632), (1, .ref x1), (2, .int (x2 + (nI 1))), (3, .int x3), (4, .int x4), (5, .int x5), (6, .int (M.1 (x1 + 2) (Int32.toNatClampNeg x2)))]) (st' := []) rfl rfl ?_
        refine y_pure (pc' := 21) rfl rfl ?_
        refine zEx_sub ?_ h
        exact ⟨rfl, rfl, rfl, trivial⟩
      · refine y_cmp (pc' := 130) rfl rfl (zc_neT hc11) rfl ?_
        refine y_pure (pc' := 132) (st' := [.int (M.1 (x1 + 2) (Int32.toNatClampNeg x2)), .int x2, .ref (x1 + 3)]) rfl rfl ?_
        refine y_pure (pc' := 134) (st' := [.int x5, .int (M.1 (x1 + 2) (Int32.toNatClampNeg x2)), .int x2, .ref (x1 + 3)]) rfl rfl ?_
        obtain ⟨v14, M13, he12, h⟩ := zC1_inv h
        refine y_callS (pc' := 137) (y := zmC_totalOfSet) (a := [.int (M.1 (x1 + 2) (Int32.toNatClampNeg x2)), .int x5]) (st' := [.int x2, .ref (x1 + 3)]) rfl rfl rfl rfl rfl rfl he12 rfl rfl ?_
        refine y_iast (pc' := 138) rfl (zf_0_10 hk1) hi1 rfl ?_
        refine y_pure (pc' := 141) (ls' := [(0, .ref 632), (1, .ref x1), (2, .int (x2 + (nI 1))), (3, .int x3), (4, .int x4), (5, .int x5), (6, .int (M.1 (x1 + 2) (Int32.toNatClampNeg x2)))]) (st' := []) rfl rfl ?_
        refine y_pure (pc' := 21) rfl rfl ?_
        refine zEx_sub ?_ h
        exact ⟨rfl, rfl, rfl, trivial⟩
theorem e_K_tellTotals {d : Nat} {x1 : Nat} {M : ZM} {r : ZR} (hk1 : zkd x1 = (10, 0)) (h : zC0 (zEv d zmB_marksByGiven [.ref x1, .ref (x1 + 1), .int (-1 : Int32)] (zpl (zpl M x1 5 (nJ 0)) x1 6 (nJ 0))) (fun M2 => h_K_tellTotals_21 d x1 (nI 0) M2) = some r) : zEv (d + 1) zmK_tellTotals [.ref 632, .ref x1] M = some r := by
  rw [zEv_succ]
  show zEx0 (zEv d) zmK_tellTotals (0, [(0, .ref 632), (1, .ref x1)], [], M) = some r
  refine y_pure (pc' := 1) (st' := [.ref x1]) rfl rfl ?_
  refine y_pure (pc' := 2) (st' := [.long (nJ 0), .ref x1]) rfl rfl ?_
  refine y_putL (pc' := 5) rfl rfl hk1 rfl ?_
  refine y_pure (pc' := 6) (st' := [.ref x1]) rfl rfl ?_
  refine y_pure (pc' := 7) (st' := [.long (nJ 0), .ref x1]) rfl rfl ?_
  refine y_putL (pc' := 10) rfl rfl hk1 rfl ?_
  refine y_pure (pc' := 11) (st' := [.ref x1]) rfl rfl ?_
  refine y_pure (pc' := 12) (st' := [.ref x1, .ref x1]) rfl rfl ?_
  refine y_getf (pc' := 15) (v := .ref (x1 + 1)) rfl rfl rfl hk1 rfl rfl ?_
  refine y_pure (pc' := 16) (st' := [.int (-1 : Int32), .ref (x1 + 1), .ref x1]) rfl rfl ?_
  obtain ⟨M2, he1, h⟩ := zC0_inv h
  refine y_callV (pc' := 19) (y := zmB_marksByGiven) (a' := [.ref (x1 + 1), .int (-1 : Int32)]) (st' := []) rfl rfl rfl rfl rfl (zrecv_o (o := 0) hk1 rfl) rfl he1 rfl rfl ?_
  refine y_pure (pc' := 20) (st' := [.int (nI 0)]) rfl rfl ?_
  refine y_pure (pc' := 21) (ls' := [(0, .ref 632), (1, .ref x1), (2, .int (nI 0))]) (st' := []) rfl rfl ?_
  refine zEx_sub ?_ h
  exact ⟨rfl, rfl, rfl, trivial⟩
theorem e_RS_ready {d : Nat} {x0 : Nat} {x1 : Nat} {x2 : Int32} {M : ZM} {r : ZR} (hk0 : zkd x0 = (14, 0)) (hk1 : zkd x1 = (10, 0)) (h : (if x2 < (nI 0) then some (some (.ref (x0 + 2)), M) else (if x2 < (nI 12) then (if zin x2 12 = true then zC1 (zEv d zmB_isAlike [.ref x1, .int x2] M) (fun v6 M5 => zC0 (zEv d zmR_fit [.ref (x0 + 12 + 10 * (Int32.toNatClampNeg x2)), .int (M.1 (x1 + 2) (Int32.toNatClampNeg x2)), .int v6, .int (M5.1 (x1 + 3) (Int32.toNatClampNeg x2)), .int (M5.1 (x1 + 4) (Int32.toNatClampNeg x2))] M5) (fun M8 => some (some (.ref (x0 + 12 + 10 * (Int32.toNatClampNeg x2))), M8))) else none) else some (some (.ref (x0 + 2)), M))) = some r) : zEv (d + 1) zmRS_ready [.ref x0, .ref x1, .int x2] M = some r := by
  rw [zEv_succ]
  show zEx0 (zEv d) zmRS_ready (0, [(0, .ref x0), (1, .ref x1), (2, .int x2)], [], M) = some r
  refine y_pure (pc' := 1) (st' := [.int x2]) rfl rfl ?_
  rcases zif_inv h with ⟨hc1, h⟩ | ⟨hc1, h⟩
  · refine y_cnd (pc' := 10) rfl rfl (zc_ltT hc1) rfl ?_
    refine y_pure (pc' := 11) (st' := [.ref x0]) rfl rfl ?_
    refine y_getf (pc' := 14) (v := .ref (x0 + 2)) rfl rfl rfl hk0 rfl rfl ?_
    exact y_ret rfl rfl rfl rfl h
  · refine y_cnd (pc' := 4) rfl rfl (zc_ltF hc1) rfl ?_
    refine y_pure (pc' := 5) (st' := [.int x2]) rfl rfl ?_
    refine y_pure (pc' := 7) (st' := [.int (nI 12), .int x2]) rfl rfl ?_
    rcases zif_inv h with ⟨hc2, h⟩ | ⟨hc2, h⟩
    · refine y_cmp (pc' := 15) rfl rfl (zc_ltT hc2) rfl ?_
      refine y_pure (pc' := 16) (st' := [.ref x0]) rfl rfl ?_
      refine y_getf (pc' := 19) (v := .ref (x0 + 1)) rfl rfl rfl hk0 rfl rfl ?_
      refine y_pure (pc' := 20) (st' := [.int x2, .ref (x0 + 1)]) rfl rfl ?_
      obtain ⟨hi3, h⟩ := zg_inv h
      refine y_aald (pc' := 21) (q' := x0 + 12 + 10 * (Int32.toNatClampNeg x2)) rfl (zf_4_0 hk0) hi3 (by show x0 + 1 + 11 + 10 * (Int32.toNatClampNeg x2) = _; omega) rfl ?_
      refine y_pure (pc' := 22) (ls' := [(0, .ref x0), (1, .ref x1), (2, .int x2), (3, .ref (x0 + 12 + 10 * (Int32.toNatClampNeg x2)))]) (st' := []) rfl rfl ?_
      refine y_pure (pc' := 23) (st' := [.ref (x0 + 12 + 10 * (Int32.toNatClampNeg x2))]) rfl rfl ?_
      refine y_pure (pc' := 24) (st' := [.ref x1, .ref (x0 + 12 + 10 * (Int32.toNatClampNeg x2))]) rfl rfl ?_
      refine y_getf (pc' := 27) (v := .ref (x1 + 2)) rfl rfl rfl hk1 rfl rfl ?_
      refine y_pure (pc' := 28) (st' := [.int x2, .ref (x1 + 2), .ref (x0 + 12 + 10 * (Int32.toNatClampNeg x2))]) rfl rfl ?_
      refine y_iald (pc' := 29) rfl (zf_0_9 hk1) hi3 rfl ?_
      refine y_pure (pc' := 30) (st' := [.ref x1, .int (M.1 (x1 + 2) (Int32.toNatClampNeg x2)), .ref (x0 + 12 + 10 * (Int32.toNatClampNeg x2))]) rfl rfl ?_
      refine y_pure (pc' := 31) (st' := [.int x2, .ref x1, .int (M.1 (x1 + 2) (Int32.toNatClampNeg x2)), .ref (x0 + 12 + 10 * (Int32.toNatClampNeg x2))]) rfl rfl ?_
      obtain ⟨v6, M5, he4, h⟩ := zC1_inv h
      refine y_callV (pc' := 34) (y := zmB_isAlike) (a' := [.int x2]) (st' := [.int (M.1 (x1 + 2) (Int32.toNatClampNeg x2)), .ref (x0 + 12 + 10 * (Int32.toNatClampNeg x2))]) rfl rfl rfl rfl rfl (zrecv_o (o := 0) hk1 rfl) rfl he4 rfl rfl ?_
      refine y_pure (pc' := 35) (st' := [.ref x1, .int v6, .int (M.1 (x1 + 2) (Int32.toNatClampNeg x2)), .ref (x0 + 12 + 10 * (Int32.toNatClampNeg x2))]) rfl rfl ?_
      refine y_getf (pc' := 38) (v := .ref (x1 + 3)) rfl rfl rfl hk1 rfl rfl ?_
      refine y_pure (pc' := 39) (st' := [.int x2, .ref (x1 + 3), .int v6, .int (M.1 (x1 + 2) (Int32.toNatClampNeg x2)), .ref (x0 + 12 + 10 * (Int32.toNatClampNeg x2))]) rfl rfl ?_
      refine y_iald (pc' := 40) rfl (zf_0_10 hk1) hi3 rfl ?_
      refine y_pure (pc' := 41) (st' := [.ref x1, .int (M5.1 (x1 + 3) (Int32.toNatClampNeg x2)), .int v6, .int (M.1 (x1 + 2) (Int32.toNatClampNeg x2)), .ref (x0 + 12 + 10 * (Int32.toNatClampNeg x2))]) rfl rfl ?_
      refine y_getf (pc' := 44) (v := .ref (x1 + 4)) rfl rfl rfl hk1 rfl rfl ?_
      refine y_pure (pc' := 45) (st' := [.int x2, .ref (x1 + 4), .int (M5.1 (x1 + 3) (Int32.toNatClampNeg x2)), .int v6, .int (M.1 (x1 + 2) (Int32.toNatClampNeg x2)), .ref (x0 + 12 + 10 * (Int32.toNatClampNeg x2))]) rfl rfl ?_
      refine y_iald (pc' := 46) rfl (zf_0_11 hk1) hi3 rfl ?_
      obtain ⟨M8, he7, h⟩ := zC0_inv h
      refine y_callV (pc' := 49) (y := zmR_fit) (a' := [.int (M.1 (x1 + 2) (Int32.toNatClampNeg x2)), .int v6, .int (M5.1 (x1 + 3) (Int32.toNatClampNeg x2)), .int (M5.1 (x1 + 4) (Int32.toNatClampNeg x2))]) (st' := []) rfl rfl rfl rfl rfl (zrecv_o (o := 3) (zl_3 (zf_4_0 hk0) hi3) rfl) rfl he7 rfl rfl ?_
      refine y_pure (pc' := 50) (st' := [.ref (x0 + 12 + 10 * (Int32.toNatClampNeg x2))]) rfl rfl ?_
      exact y_ret rfl rfl rfl rfl h
    · refine y_cmp (pc' := 10) rfl rfl (zc_ltF hc2) rfl ?_
      refine y_pure (pc' := 11) (st' := [.ref x0]) rfl rfl ?_
      refine y_getf (pc' := 14) (v := .ref (x0 + 2)) rfl rfl rfl hk0 rfl rfl ?_
      exact y_ret rfl rfl rfl rfl h
theorem e_RS_spare {d : Nat} {x0 : Nat} {x1 : Nat} {x2 : Int32} {M : ZM} {r : ZR} (hk0 : zkd x0 = (14, 0)) (hk1 : zkd x1 = (10, 0)) (h : (if x2 < (nI 0) then some (some (.ref (x0 + 2)), M) else (if x2 < (nI 12) then zC1 (zEv d zmB_isAlike [.ref x1, .int x2] M) (fun v5 M4 => (if zin x2 12 = true then zC0 (zEv d zmR_fit [.ref (x0 + 2), .int (nI 3), .int v5, .int (nI 0), .int (M4.1 (x1 + 4) (Int32.toNatClampNeg x2))] M4) (fun M8 => some (some (.ref (x0 + 2)), M8)) else none)) else some (some (.ref (x0 + 2)), M))) = some r) : zEv (d + 1) zmRS_spare [.ref x0, .ref x1, .int x2] M = some r := by
  rw [zEv_succ]
  show zEx0 (zEv d) zmRS_spare (0, [(0, .ref x0), (1, .ref x1), (2, .int x2)], [], M) = some r
  refine y_pure (pc' := 1) (st' := [.int x2]) rfl rfl ?_
  rcases zif_inv h with ⟨hc1, h⟩ | ⟨hc1, h⟩
  · refine y_cnd (pc' := 30) rfl rfl (zc_ltT hc1) rfl ?_
    refine y_pure (pc' := 31) (st' := [.ref x0]) rfl rfl ?_
    refine y_getf (pc' := 34) (v := .ref (x0 + 2)) rfl rfl rfl hk0 rfl rfl ?_
    exact y_ret rfl rfl rfl rfl h
  · refine y_cnd (pc' := 4) rfl rfl (zc_ltF hc1) rfl ?_
    refine y_pure (pc' := 5) (st' := [.int x2]) rfl rfl ?_
    refine y_pure (pc' := 7) (st' := [.int (nI 12), .int x2]) rfl rfl ?_
    rcases zif_inv h with ⟨hc2, h⟩ | ⟨hc2, h⟩
    · refine y_cmp (pc' := 10) rfl rfl (zc_geF hc2) rfl ?_
      refine y_pure (pc' := 11) (st' := [.ref x0]) rfl rfl ?_
      refine y_getf (pc' := 14) (v := .ref (x0 + 2)) rfl rfl rfl hk0 rfl rfl ?_
      refine y_pure (pc' := 15) (st' := [.int (nI 3), .ref (x0 + 2)]) rfl rfl ?_
      refine y_pure (pc' := 16) (st' := [.ref x1, .int (nI 3), .ref (x0 + 2)]) rfl rfl ?_
      refine y_pure (pc' := 17) (st' := [.int x2, .ref x1, .int (nI 3), .ref (x0 + 2)]) rfl rfl ?_
      obtain ⟨v5, M4, he3, h⟩ := zC1_inv h
      refine y_callV (pc' := 20) (y := zmB_isAlike) (a' := [.int x2]) (st' := [.int (nI 3), .ref (x0 + 2)]) rfl rfl rfl rfl rfl (zrecv_o (o := 0) hk1 rfl) rfl he3 rfl rfl ?_
      refine y_pure (pc' := 21) (st' := [.int (nI 0), .int v5, .int (nI 3), .ref (x0 + 2)]) rfl rfl ?_
      refine y_pure (pc' := 22) (st' := [.ref x1, .int (nI 0), .int v5, .int (nI 3), .ref (x0 + 2)]) rfl rfl ?_
      refine y_getf (pc' := 25) (v := .ref (x1 + 4)) rfl rfl rfl hk1 rfl rfl ?_
      refine y_pure (pc' := 26) (st' := [.int x2, .ref (x1 + 4), .int (nI 0), .int v5, .int (nI 3), .ref (x0 + 2)]) rfl rfl ?_
      obtain ⟨hi6, h⟩ := zg_inv h
      refine y_iald (pc' := 27) rfl (zf_0_11 hk1) hi6 rfl ?_
      obtain ⟨M8, he7, h⟩ := zC0_inv h
      refine y_callV (pc' := 30) (y := zmR_fit) (a' := [.int (nI 3), .int v5, .int (nI 0), .int (M4.1 (x1 + 4) (Int32.toNatClampNeg x2))]) (st' := []) rfl rfl rfl rfl rfl (zrecv_o (o := 3) (zf_4_1 hk0) rfl) rfl he7 rfl rfl ?_
      refine y_pure (pc' := 31) (st' := [.ref x0]) rfl rfl ?_
      refine y_getf (pc' := 34) (v := .ref (x0 + 2)) rfl rfl rfl hk0 rfl rfl ?_
      exact y_ret rfl rfl rfl rfl h
    · refine y_cmp (pc' := 30) rfl rfl (zc_geT hc2) rfl ?_
      refine y_pure (pc' := 31) (st' := [.ref x0]) rfl rfl ?_
      refine y_getf (pc' := 34) (v := .ref (x0 + 2)) rfl rfl rfl hk0 rfl rfl ?_
      exact y_ret rfl rfl rfl rfl h
noncomputable def h_Y_tally_11 (d : Nat) (x0 : Nat) (x1 : Nat) (x2 : Nat) (x3 : Nat) (x4 : Int32) (x5 : Int32) (M : ZM) : Option ZR := zEx0 (zEv d) zmY_tally (11, [(0, .ref x0), (1, .ref x1), (2, .ref x2), (3, .ref x3), (4, .int x4), (5, .int x5)], [], M)
theorem e_Y_tally_11 {d : Nat} {x0 : Nat} {x1 : Nat} {x2 : Nat} {x3 : Nat} {x4 : Int32} {x5 : Int32} {M : ZM} {r : ZR} (hk0 : zkd x0 = (17, 0)) (hk1 : zkd x1 = (13, 0)) (hk2 : zkd x2 = (1, 36)) (hk3 : zkd x3 = (1, 6)) (h : (if x5 < (nI 128) then (if zin x5 128 = true then h_Y_tally_11 d x0 x1 x2 x3 x4 (x5 + (nI 1)) (zpi M (x0 + 1) (Int32.toNatClampNeg x5) (nI 0)) else none) else (if x4 = (nI 0) then some (none, M) else zC1 (zEv d zmR_isOfSets [.ref x1] M) (fun v6 M5 => (if v6 = (nI 0) then zC0 (zEv d zmY_walk [.ref x0, .ref x1, .ref x2, .ref x3, .int (nI 0), .int (nI 0), .int (nI 0)] M5) (fun M9 => some (none, M9)) else zC0 (zEv d zmY_tallyBySets [.ref x0, .ref x1, .ref x2, .ref x3] M5) (fun M11 => some (none, M11)))))) = some r) : h_Y_tally_11 d x0 x1 x2 x3 x4 x5 M = some r := by
  show zEx0 (zEv d) zmY_tally (11, [(0, .ref x0), (1, .ref x1), (2, .ref x2), (3, .ref x3), (4, .int x4), (5, .int x5)], [], M) = some r
  refine y_pure (pc' := 13) (st' := [.int x5]) rfl rfl ?_
  refine y_pure (pc' := 16) (st' := [.int (nI 128), .int x5]) rfl rfl ?_
  rcases zif_inv h with ⟨hc1, h⟩ | ⟨hc1, h⟩
  · refine y_cmp (pc' := 19) rfl rfl (zc_geF hc1) rfl ?_
    refine y_pure (pc' := 20) (st' := [.ref x0]) rfl rfl ?_
    refine y_getf (pc' := 23) (v := .ref (x0 + 1)) rfl rfl rfl hk0 rfl rfl ?_
    refine y_pure (pc' := 25) (st' := [.int x5, .ref (x0 + 1)]) rfl rfl ?_
    refine y_pure (pc' := 26) (st' := [.int (nI 0), .int x5, .ref (x0 + 1)]) rfl rfl ?_
    obtain ⟨hi2, h⟩ := zg_inv h
    refine y_iast (pc' := 27) rfl (zf_7_0 hk0) hi2 rfl ?_
    refine y_pure (pc' := 30) (ls' := [(0, .ref x0), (1, .ref x1), (2, .ref x2), (3, .ref x3), (4, .int x4), (5, .int (x5 + (nI 1)))]) (st' := []) rfl rfl ?_
    refine y_pure (pc' := 11) rfl rfl ?_
    refine zEx_sub ?_ h
    exact ⟨rfl, rfl, rfl, rfl, rfl, rfl, trivial⟩
  · refine y_cmp (pc' := 33) rfl rfl (zc_geT hc1) rfl ?_
    refine y_pure (pc' := 35) (st' := [.int x4]) rfl rfl ?_
    rcases zif_inv h with ⟨hc3, h⟩ | ⟨hc3, h⟩
    · refine y_cnd (pc' := 38) rfl rfl (zc_neF hc3) rfl ?_
      exact y_ret rfl rfl rfl rfl h
    · refine y_cnd (pc' := 39) rfl rfl (zc_neT hc3) rfl ?_
      refine y_pure (pc' := 40) (st' := [.ref x1]) rfl rfl ?_
      obtain ⟨v6, M5, he4, h⟩ := zC1_inv h
      refine y_callV (pc' := 43) (y := zmR_isOfSets) (a' := []) (st' := []) rfl rfl rfl rfl rfl (zrecv_o (o := 3) hk1 rfl) rfl he4 rfl rfl ?_
      rcases zif_inv h with ⟨hc7, h⟩ | ⟨hc7, h⟩
      · refine y_cnd (pc' := 56) rfl rfl (zc_eqT hc7) rfl ?_
        refine y_pure (pc' := 57) (st' := [.ref x0]) rfl rfl ?_
        refine y_pure (pc' := 58) (st' := [.ref x1, .ref x0]) rfl rfl ?_
        refine y_pure (pc' := 59) (st' := [.ref x2, .ref x1, .ref x0]) rfl rfl ?_
        refine y_pure (pc' := 60) (st' := [.ref x3, .ref x2, .ref x1, .ref x0]) rfl rfl ?_
        refine y_pure (pc' := 61) (st' := [.int (nI 0), .ref x3, .ref x2, .ref x1, .ref x0]) rfl rfl ?_
        refine y_pure (pc' := 62) (st' := [.int (nI 0), .int (nI 0), .ref x3, .ref x2, .ref x1, .ref x0]) rfl rfl ?_
        refine y_pure (pc' := 63) (st' := [.int (nI 0), .int (nI 0), .int (nI 0), .ref x3, .ref x2, .ref x1, .ref x0]) rfl rfl ?_
        obtain ⟨M9, he8, h⟩ := zC0_inv h
        refine y_callS (pc' := 66) (y := zmY_walk) (a := [.ref x0, .ref x1, .ref x2, .ref x3, .int (nI 0), .int (nI 0), .int (nI 0)]) (st' := []) rfl rfl rfl rfl rfl rfl he8 rfl rfl ?_
        exact y_ret rfl rfl rfl rfl h
      · refine y_cnd (pc' := 46) rfl rfl (zc_eqF hc7) rfl ?_
        refine y_pure (pc' := 47) (st' := [.ref x0]) rfl rfl ?_
        refine y_pure (pc' := 48) (st' := [.ref x1, .ref x0]) rfl rfl ?_
        refine y_pure (pc' := 49) (st' := [.ref x2, .ref x1, .ref x0]) rfl rfl ?_
        refine y_pure (pc' := 50) (st' := [.ref x3, .ref x2, .ref x1, .ref x0]) rfl rfl ?_
        obtain ⟨M11, he10, h⟩ := zC0_inv h
        refine y_callV (pc' := 53) (y := zmY_tallyBySets) (a' := [.ref x1, .ref x2, .ref x3]) (st' := []) rfl rfl rfl rfl rfl (zrecv_o (o := 7) hk0 rfl) rfl he10 rfl rfl ?_
        refine y_pure (pc' := 66) rfl rfl ?_
        exact y_ret rfl rfl rfl rfl h
theorem e_Y_tally {d : Nat} {x0 : Nat} {x1 : Nat} {x2 : Nat} {x3 : Nat} {M : ZM} {r : ZR} (hk0 : zkd x0 = (17, 0)) (hk1 : zkd x1 = (13, 0)) (hk2 : zkd x2 = (1, 36)) (hk3 : zkd x3 = (1, 6)) (h : zC1 (zEv d zmR_weigh [.ref x1, .ref x2, .ref x3] M) (fun v3 M2 => h_Y_tally_11 d x0 x1 x2 x3 v3 (nI 0) M2) = some r) : zEv (d + 1) zmY_tally [.ref x0, .ref x1, .ref x2, .ref x3] M = some r := by
  rw [zEv_succ]
  show zEx0 (zEv d) zmY_tally (0, [(0, .ref x0), (1, .ref x1), (2, .ref x2), (3, .ref x3)], [], M) = some r
  refine y_pure (pc' := 1) (st' := [.ref x1]) rfl rfl ?_
  refine y_pure (pc' := 2) (st' := [.ref x2, .ref x1]) rfl rfl ?_
  refine y_pure (pc' := 3) (st' := [.ref x3, .ref x2, .ref x1]) rfl rfl ?_
  obtain ⟨v3, M2, he1, h⟩ := zC1_inv h
  refine y_callV (pc' := 6) (y := zmR_weigh) (a' := [.ref x2, .ref x3]) (st' := []) rfl rfl rfl rfl rfl (zrecv_o (o := 3) hk1 rfl) rfl he1 rfl rfl ?_
  refine y_pure (pc' := 8) (ls' := [(0, .ref x0), (1, .ref x1), (2, .ref x2), (3, .ref x3), (4, .int v3)]) (st' := []) rfl rfl ?_
  refine y_pure (pc' := 9) (st' := [.int (nI 0)]) rfl rfl ?_
  refine y_pure (pc' := 11) (ls' := [(0, .ref x0), (1, .ref x1), (2, .ref x2), (3, .ref x3), (4, .int v3), (5, .int (nI 0))]) (st' := []) rfl rfl ?_
  refine zEx_sub ?_ h
  exact ⟨rfl, rfl, rfl, rfl, rfl, rfl, trivial⟩
noncomputable def h_Y_tallyBySets_10 (d : Nat) (x0 : Nat) (x1 : Nat) (x2 : Nat) (x3 : Nat) (x4 : Int32) (M : ZM) : Option ZR := zEx0 (zEv d) zmY_tallyBySets (10, [(0, .ref x0), (1, .ref x1), (2, .ref x2), (3, .ref x3), (4, .int x4)], [], M)
noncomputable def h_Y_tallyBySets_39 (d : Nat) (x0 : Nat) (x1 : Nat) (x2 : Nat) (x3 : Nat) (x4 : Int32) (x5 : Int32) (x6 : Int32) (M : ZM) : Option ZR := zEx0 (zEv d) zmY_tallyBySets (39, [(0, .ref x0), (1, .ref x1), (2, .ref x2), (3, .ref x3), (4, .int x4), (5, .int x5), (6, .int x6)], [], M)
noncomputable def h_Y_tallyBySets_184 (d : Nat) (x0 : Nat) (x1 : Nat) (x4 : Int32) (M : ZM) : Option ZR := zEx0 (zEv d) zmY_tallyBySets (184, [(0, .ref x0), (1, .ref x1), (4, .int x4)], [], M)
noncomputable def h_Y_tallyBySets_64 (d : Nat) (x0 : Nat) (x1 : Nat) (x2 : Nat) (x3 : Nat) (x4 : Int32) (x5 : Int32) (x6 : Int32) (M : ZM) : Option ZR := zEx0 (zEv d) zmY_tallyBySets (64, [(0, .ref x0), (1, .ref x1), (2, .ref x2), (3, .ref x3), (4, .int x4), (5, .int x5), (6, .int x6)], [], M)
noncomputable def h_Y_tallyBySets_75 (d : Nat) (x0 : Nat) (x1 : Nat) (x2 : Nat) (x3 : Nat) (x4 : Int32) (x5 : Int32) (x6 : Int32) (x7 : Int32) (M : ZM) : Option ZR := zEx0 (zEv d) zmY_tallyBySets (75, [(0, .ref x0), (1, .ref x1), (2, .ref x2), (3, .ref x3), (4, .int x4), (5, .int x5), (6, .int x6), (7, .int x7)], [], M)
theorem e_Y_tallyBySets_10 {d : Nat} {x0 : Nat} {x1 : Nat} {x2 : Nat} {x3 : Nat} {x4 : Int32} {M : ZM} {r : ZR} (hk0 : zkd x0 = (17, 0)) (hk1 : zkd x1 = (13, 0)) (hk2 : zkd x2 = (1, 36)) (hk3 : zkd x3 = (1, 6)) (h : zC1 (zEv d zmR_size [.ref x1] M) (fun v3 M2 => (if x4 < v3 then (if x4 < (nI 6) then (if zin x4 6 = true then zC1 (zEv d zmR_marksAt [.ref x2, .int (M2.1 x3 (Int32.toNatClampNeg x4))] M2) (fun v9 M8 => h_Y_tallyBySets_39 d x0 x1 x2 x3 x4 v9 (nI 0) M8) else none) else h_Y_tallyBySets_184 d x0 x1 (nI 0) M2) else h_Y_tallyBySets_184 d x0 x1 (nI 0) M2)) = some r) : h_Y_tallyBySets_10 d x0 x1 x2 x3 x4 M = some r := by
  show zEx0 (zEv d) zmY_tallyBySets (10, [(0, .ref x0), (1, .ref x1), (2, .ref x2), (3, .ref x3), (4, .int x4)], [], M) = some r
  refine y_pure (pc' := 12) (st' := [.int x4]) rfl rfl ?_
  refine y_pure (pc' := 13) (st' := [.ref x1, .int x4]) rfl rfl ?_
  obtain ⟨v3, M2, he1, h⟩ := zC1_inv h
  refine y_callV (pc' := 16) (y := zmR_size) (a' := []) (st' := [.int x4]) rfl rfl rfl rfl rfl (zrecv_o (o := 3) hk1 rfl) rfl he1 rfl rfl ?_
  rcases zif_inv h with ⟨hc4, h⟩ | ⟨hc4, h⟩
  · refine y_cmp (pc' := 19) rfl rfl (zc_geF hc4) rfl ?_
    refine y_pure (pc' := 21) (st' := [.int x4]) rfl rfl ?_
    refine y_pure (pc' := 22) (st' := [.ref x3, .int x4]) rfl rfl ?_
    refine y_alen (pc' := 23) rfl hk3 (by decide) rfl rfl ?_
    rcases zif_inv h with ⟨hc5, h⟩ | ⟨hc5, h⟩
    · refine y_cmp (pc' := 26) rfl rfl (zc_geF hc5) rfl ?_
      refine y_pure (pc' := 27) (st' := [.ref x2]) rfl rfl ?_
      refine y_pure (pc' := 28) (st' := [.ref x3, .ref x2]) rfl rfl ?_
      refine y_pure (pc' := 30) (st' := [.int x4, .ref x3, .ref x2]) rfl rfl ?_
      obtain ⟨hi6, h⟩ := zg_inv h
      refine y_iald (pc' := 31) rfl hk3 hi6 rfl ?_
      obtain ⟨v9, M8, he7, h⟩ := zC1_inv h
      refine y_callS (pc' := 34) (y := zmR_marksAt) (a := [.ref x2, .int (M2.1 x3 (Int32.toNatClampNeg x4))]) (st' := []) rfl rfl rfl rfl rfl rfl he7 rfl rfl ?_
      refine y_pure (pc' := 36) (ls' := [(0, .ref x0), (1, .ref x1), (2, .ref x2), (3, .ref x3), (4, .int x4), (5, .int v9)]) (st' := []) rfl rfl ?_
      refine y_pure (pc' := 37) (st' := [.int (nI 0)]) rfl rfl ?_
      refine y_pure (pc' := 39) (ls' := [(0, .ref x0), (1, .ref x1), (2, .ref x2), (3, .ref x3), (4, .int x4), (5, .int v9), (6, .int (nI 0))]) (st' := []) rfl rfl ?_
      refine zEx_sub ?_ h
      exact ⟨rfl, rfl, rfl, rfl, rfl, rfl, rfl, trivial⟩
    · refine y_cmp (pc' := 181) rfl rfl (zc_geT hc5) rfl ?_
      refine y_pure (pc' := 182) (st' := [.int (nI 0)]) rfl rfl ?_
      refine y_pure (pc' := 184) (ls' := [(0, .ref x0), (1, .ref x1), (2, .ref x2), (3, .ref x3), (4, .int (nI 0))]) (st' := []) rfl rfl ?_
      refine zEx_sub ?_ h
      exact ⟨rfl, rfl, rfl, trivial⟩
  · refine y_cmp (pc' := 181) rfl rfl (zc_geT hc4) rfl ?_
    refine y_pure (pc' := 182) (st' := [.int (nI 0)]) rfl rfl ?_
    refine y_pure (pc' := 184) (ls' := [(0, .ref x0), (1, .ref x1), (2, .ref x2), (3, .ref x3), (4, .int (nI 0))]) (st' := []) rfl rfl ?_
    refine zEx_sub ?_ h
    exact ⟨rfl, rfl, rfl, trivial⟩
theorem e_Y_tallyBySets_39 {d : Nat} {x0 : Nat} {x1 : Nat} {x2 : Nat} {x3 : Nat} {x4 : Int32} {x5 : Int32} {x6 : Int32} {M : ZM} {r : ZR} (hk0 : zkd x0 = (17, 0)) (hk1 : zkd x1 = (13, 0)) (hk2 : zkd x2 = (1, 36)) (hk3 : zkd x3 = (1, 6)) (h : (if x6 < (nI 128) then (if zin x6 128 = true then h_Y_tallyBySets_39 d x0 x1 x2 x3 x4 x5 (x6 + (nI 1)) (zpi M (x0 + 2) (Int32.toNatClampNeg x6) (nI 0)) else none) else h_Y_tallyBySets_64 d x0 x1 x2 x3 x4 x5 (nI 0) M) = some r) : h_Y_tallyBySets_39 d x0 x1 x2 x3 x4 x5 x6 M = some r := by
  show zEx0 (zEv d) zmY_tallyBySets (39, [(0, .ref x0), (1, .ref x1), (2, .ref x2), (3, .ref x3), (4, .int x4), (5, .int x5), (6, .int x6)], [], M) = some r
  refine y_pure (pc' := 41) (st' := [.int x6]) rfl rfl ?_
  refine y_pure (pc' := 44) (st' := [.int (nI 128), .int x6]) rfl rfl ?_
  rcases zif_inv h with ⟨hc1, h⟩ | ⟨hc1, h⟩
  · refine y_cmp (pc' := 47) rfl rfl (zc_geF hc1) rfl ?_
    refine y_pure (pc' := 48) (st' := [.ref x0]) rfl rfl ?_
    refine y_getf (pc' := 51) (v := .ref (x0 + 2)) rfl rfl rfl hk0 rfl rfl ?_
    refine y_pure (pc' := 53) (st' := [.int x6, .ref (x0 + 2)]) rfl rfl ?_
    refine y_pure (pc' := 54) (st' := [.int (nI 0), .int x6, .ref (x0 + 2)]) rfl rfl ?_
    obtain ⟨hi2, h⟩ := zg_inv h
    refine y_iast (pc' := 55) rfl (zf_7_1 hk0) hi2 rfl ?_
    refine y_pure (pc' := 58) (ls' := [(0, .ref x0), (1, .ref x1), (2, .ref x2), (3, .ref x3), (4, .int x4), (5, .int x5), (6, .int (x6 + (nI 1)))]) (st' := []) rfl rfl ?_
    refine y_pure (pc' := 39) rfl rfl ?_
    refine zEx_sub ?_ h
    exact ⟨rfl, rfl, rfl, rfl, rfl, rfl, rfl, trivial⟩
  · refine y_cmp (pc' := 61) rfl rfl (zc_geT hc1) rfl ?_
    refine y_pure (pc' := 62) (st' := [.int (nI 0)]) rfl rfl ?_
    refine y_pure (pc' := 64) (ls' := [(0, .ref x0), (1, .ref x1), (2, .ref x2), (3, .ref x3), (4, .int x4), (5, .int x5), (6, .int (nI 0))]) (st' := []) rfl rfl ?_
    refine zEx_sub ?_ h
    exact ⟨rfl, rfl, rfl, rfl, rfl, rfl, rfl, trivial⟩
theorem e_Y_tallyBySets_184 {d : Nat} {x0 : Nat} {x1 : Nat} {x4 : Int32} {M : ZM} {r : ZR} (hk0 : zkd x0 = (17, 0)) (hk1 : zkd x1 = (13, 0)) (h : (if x4 < (nI 128) then zC1 (zEv d zmR_isReached [.ref x1, .int x4] M) (fun v4 M3 => (if v4 = (nI 0) then (if zin x4 128 = true then h_Y_tallyBySets_184 d x0 x1 (x4 + (nI 1)) (zpi M3 (x0 + 1) (Int32.toNatClampNeg x4) (nI 0)) else none) else (if zin x4 128 = true then h_Y_tallyBySets_184 d x0 x1 (x4 + (nI 1)) (zpi M3 (x0 + 1) (Int32.toNatClampNeg x4) (M3.1 (x0 + 1) (Int32.toNatClampNeg x4))) else none))) else some (none, M)) = some r) : h_Y_tallyBySets_184 d x0 x1 x4 M = some r := by
  show zEx0 (zEv d) zmY_tallyBySets (184, [(0, .ref x0), (1, .ref x1), (4, .int x4)], [], M) = some r
  refine y_pure (pc' := 186) (st' := [.int x4]) rfl rfl ?_
  refine y_pure (pc' := 189) (st' := [.int (nI 128), .int x4]) rfl rfl ?_
  rcases zif_inv h with ⟨hc1, h⟩ | ⟨hc1, h⟩
  · refine y_cmp (pc' := 192) rfl rfl (zc_geF hc1) rfl ?_
    refine y_pure (pc' := 193) (st' := [.ref x0]) rfl rfl ?_
    refine y_getf (pc' := 196) (v := .ref (x0 + 1)) rfl rfl rfl hk0 rfl rfl ?_
    refine y_pure (pc' := 198) (st' := [.int x4, .ref (x0 + 1)]) rfl rfl ?_
    refine y_pure (pc' := 199) (st' := [.ref x1, .int x4, .ref (x0 + 1)]) rfl rfl ?_
    refine y_pure (pc' := 201) (st' := [.int x4, .ref x1, .int x4, .ref (x0 + 1)]) rfl rfl ?_
    obtain ⟨v4, M3, he2, h⟩ := zC1_inv h
    refine y_callV (pc' := 204) (y := zmR_isReached) (a' := [.int x4]) (st' := [.int x4, .ref (x0 + 1)]) rfl rfl rfl rfl rfl (zrecv_o (o := 3) hk1 rfl) rfl he2 rfl rfl ?_
    rcases zif_inv h with ⟨hc5, h⟩ | ⟨hc5, h⟩
    · refine y_cnd (pc' := 217) rfl rfl (zc_eqT hc5) rfl ?_
      refine y_pure (pc' := 218) (st' := [.int (nI 0), .int x4, .ref (x0 + 1)]) rfl rfl ?_
      obtain ⟨hi6, h⟩ := zg_inv h
      refine y_iast (pc' := 219) rfl (zf_7_0 hk0) hi6 rfl ?_
      refine y_pure (pc' := 222) (ls' := [(0, .ref x0), (1, .ref x1), (4, .int (x4 + (nI 1)))]) (st' := []) rfl rfl ?_
      refine y_pure (pc' := 184) rfl rfl ?_
      refine zEx_sub ?_ h
      exact ⟨rfl, rfl, rfl, trivial⟩
    · refine y_cnd (pc' := 207) rfl rfl (zc_eqF hc5) rfl ?_
      refine y_pure (pc' := 208) (st' := [.ref x0, .int x4, .ref (x0 + 1)]) rfl rfl ?_
      refine y_getf (pc' := 211) (v := .ref (x0 + 1)) rfl rfl rfl hk0 rfl rfl ?_
      refine y_pure (pc' := 213) (st' := [.int x4, .ref (x0 + 1), .int x4, .ref (x0 + 1)]) rfl rfl ?_
      obtain ⟨hi7, h⟩ := zg_inv h
      refine y_iald (pc' := 214) rfl (zf_7_0 hk0) hi7 rfl ?_
      refine y_pure (pc' := 218) rfl rfl ?_
      refine y_iast (pc' := 219) rfl (zf_7_0 hk0) hi7 rfl ?_
      refine y_pure (pc' := 222) (ls' := [(0, .ref x0), (1, .ref x1), (4, .int (x4 + (nI 1)))]) (st' := []) rfl rfl ?_
      refine y_pure (pc' := 184) rfl rfl ?_
      refine zEx_sub ?_ h
      exact ⟨rfl, rfl, rfl, trivial⟩
  · refine y_cmp (pc' := 225) rfl rfl (zc_geT hc1) rfl ?_
    exact y_ret rfl rfl rfl rfl h
theorem e_Y_tallyBySets_64 {d : Nat} {x0 : Nat} {x1 : Nat} {x2 : Nat} {x3 : Nat} {x4 : Int32} {x5 : Int32} {x6 : Int32} {M : ZM} {r : ZR} (hk0 : zkd x0 = (17, 0)) (hk1 : zkd x1 = (13, 0)) (hk2 : zkd x2 = (1, 36)) (hk3 : zkd x3 = (1, 6)) (h : (if x6 < (nI 128) then h_Y_tallyBySets_75 d x0 x1 x2 x3 x4 x5 x6 (nI 1) M else (if x0 + 2 ≠ x0 + 1 then h_Y_tallyBySets_10 d x0 x1 x2 x3 (x4 + (nI 1)) (zsi M (x0 + 1) (va_cpy (M.1 (x0 + 2)) (M.1 (x0 + 1)) (0) (0) (128))) else none)) = some r) : h_Y_tallyBySets_64 d x0 x1 x2 x3 x4 x5 x6 M = some r := by
  show zEx0 (zEv d) zmY_tallyBySets (64, [(0, .ref x0), (1, .ref x1), (2, .ref x2), (3, .ref x3), (4, .int x4), (5, .int x5), (6, .int x6)], [], M) = some r
  refine y_pure (pc' := 66) (st' := [.int x6]) rfl rfl ?_
  refine y_pure (pc' := 69) (st' := [.int (nI 128), .int x6]) rfl rfl ?_
  rcases zif_inv h with ⟨hc1, h⟩ | ⟨hc1, h⟩
  · refine y_cmp (pc' := 72) rfl rfl (zc_geF hc1) rfl ?_
    refine y_pure (pc' := 73) (st' := [.int (nI 1)]) rfl rfl ?_
    refine y_pure (pc' := 75) (ls' := [(0, .ref x0), (1, .ref x1), (2, .ref x2), (3, .ref x3), (4, .int x4), (5, .int x5), (6, .int x6), (7, .int (nI 1))]) (st' := []) rfl rfl ?_
    refine zEx_sub ?_ h
    exact ⟨rfl, rfl, rfl, rfl, rfl, rfl, rfl, rfl, trivial⟩
  · refine y_cmp (pc' := 159) rfl rfl (zc_geT hc1) rfl ?_
    refine y_pure (pc' := 160) (st' := [.ref x0]) rfl rfl ?_
    refine y_getf (pc' := 163) (v := .ref (x0 + 2)) rfl rfl rfl hk0 rfl rfl ?_
    refine y_pure (pc' := 164) (st' := [.int (nI 0), .ref (x0 + 2)]) rfl rfl ?_
    refine y_pure (pc' := 165) (st' := [.ref x0, .int (nI 0), .ref (x0 + 2)]) rfl rfl ?_
    refine y_getf (pc' := 168) (v := .ref (x0 + 1)) rfl rfl rfl hk0 rfl rfl ?_
    refine y_pure (pc' := 169) (st' := [.int (nI 0), .ref (x0 + 1), .int (nI 0), .ref (x0 + 2)]) rfl rfl ?_
    refine y_pure (pc' := 172) (st' := [.int (nI 128), .int (nI 0), .ref (x0 + 1), .int (nI 0), .ref (x0 + 2)]) rfl rfl ?_
    obtain ⟨hg2, h⟩ := zg_inv h
    refine y_copyI (pc' := 175) rfl rfl rfl (zf_7_1 hk0) (zf_7_0 hk0) hg2 (by decide) rfl ?_
    refine y_pure (pc' := 178) (ls' := [(0, .ref x0), (1, .ref x1), (2, .ref x2), (3, .ref x3), (4, .int (x4 + (nI 1))), (5, .int x5), (6, .int x6)]) (st' := []) rfl rfl ?_
    refine y_pure (pc' := 10) rfl rfl ?_
    refine zEx_sub ?_ h
    exact ⟨rfl, rfl, rfl, rfl, rfl, trivial⟩
theorem e_Y_tallyBySets_75 {d : Nat} {x0 : Nat} {x1 : Nat} {x2 : Nat} {x3 : Nat} {x4 : Int32} {x5 : Int32} {x6 : Int32} {x7 : Int32} {M : ZM} {r : ZR} (hk0 : zkd x0 = (17, 0)) (hk1 : zkd x1 = (13, 0)) (hk2 : zkd x2 = (1, 36)) (hk3 : zkd x3 = (1, 6)) (h : (if (nI 7) < x7 then h_Y_tallyBySets_64 d x0 x1 x2 x3 x4 x5 (x6 + (nI 1)) M else (if zin x6 128 = true then (if (nI 0) < (M.1 (x0 + 1) (Int32.toNatClampNeg x6)) then (if ((x5 >>> (x7 &&& 31)) &&& (nI 1)) = (nI 1) then zC1 (zEv d zmR_after [.ref x1, .int x6, .int x7] M) (fun v7 M6 => (if v7 < (nI 0) then h_Y_tallyBySets_75 d x0 x1 x2 x3 x4 x5 x6 (x7 + (nI 1)) M6 else (if v7 < (nI 128) then (if zin v7 128 = true then h_Y_tallyBySets_75 d x0 x1 x2 x3 x4 x5 x6 (x7 + (nI 1)) (zpi M6 (x0 + 2) (Int32.toNatClampNeg v7) ((M6.1 (x0 + 2) (Int32.toNatClampNeg v7)) + (M6.1 (x0 + 1) (Int32.toNatClampNeg x6)))) else none) else h_Y_tallyBySets_75 d x0 x1 x2 x3 x4 x5 x6 (x7 + (nI 1)) M6))) else h_Y_tallyBySets_75 d x0 x1 x2 x3 x4 x5 x6 (x7 + (nI 1)) M) else h_Y_tallyBySets_64 d x0 x1 x2 x3 x4 x5 (x6 + (nI 1)) M) else none)) = some r) : h_Y_tallyBySets_75 d x0 x1 x2 x3 x4 x5 x6 x7 M = some r := by
  show zEx0 (zEv d) zmY_tallyBySets (75, [(0, .ref x0), (1, .ref x1), (2, .ref x2), (3, .ref x3), (4, .int x4), (5, .int x5), (6, .int x6), (7, .int x7)], [], M) = some r
  refine y_pure (pc' := 77) (st' := [.int x7]) rfl rfl ?_
  refine y_pure (pc' := 79) (st' := [.int (nI 7), .int x7]) rfl rfl ?_
  rcases zif_inv h with ⟨hc1, h⟩ | ⟨hc1, h⟩
  · refine y_cmp (pc' := 153) rfl rfl (zc_gtT hc1) rfl ?_
    refine y_pure (pc' := 156) (ls' := [(0, .ref x0), (1, .ref x1), (2, .ref x2), (3, .ref x3), (4, .int x4), (5, .int x5), (6, .int (x6 + (nI 1))), (7, .int x7)]) (st' := []) rfl rfl ?_
    refine y_pure (pc' := 64) rfl rfl ?_
    refine zEx_sub ?_ h
    exact ⟨rfl, rfl, rfl, rfl, rfl, rfl, rfl, trivial⟩
  · refine y_cmp (pc' := 82) rfl rfl (zc_gtF hc1) rfl ?_
    refine y_pure (pc' := 83) (st' := [.ref x0]) rfl rfl ?_
    refine y_getf (pc' := 86) (v := .ref (x0 + 1)) rfl rfl rfl hk0 rfl rfl ?_
    refine y_pure (pc' := 88) (st' := [.int x6, .ref (x0 + 1)]) rfl rfl ?_
    obtain ⟨hi2, h⟩ := zg_inv h
    refine y_iald (pc' := 89) rfl (zf_7_0 hk0) hi2 rfl ?_
    rcases zif_inv h with ⟨hc3, h⟩ | ⟨hc3, h⟩
    · refine y_cnd (pc' := 92) rfl rfl (zc_leF hc3) rfl ?_
      refine y_pure (pc' := 94) (st' := [.int x5]) rfl rfl ?_
      refine y_pure (pc' := 96) (st' := [.int x7, .int x5]) rfl rfl ?_
      refine y_pure (pc' := 97) (st' := [.int (x5 >>> (x7 &&& 31))]) rfl rfl ?_
      refine y_pure (pc' := 98) (st' := [.int (nI 1), .int (x5 >>> (x7 &&& 31))]) rfl rfl ?_
      refine y_pure (pc' := 99) (st' := [.int ((x5 >>> (x7 &&& 31)) &&& (nI 1))]) rfl rfl ?_
      refine y_pure (pc' := 100) (st' := [.int (nI 1), .int ((x5 >>> (x7 &&& 31)) &&& (nI 1))]) rfl rfl ?_
      rcases zif_inv h with ⟨hc4, h⟩ | ⟨hc4, h⟩
      · refine y_cmp (pc' := 103) rfl rfl (zc_neF hc4) rfl ?_
        refine y_pure (pc' := 104) (st' := [.ref x1]) rfl rfl ?_
        refine y_pure (pc' := 106) (st' := [.int x6, .ref x1]) rfl rfl ?_
        refine y_pure (pc' := 108) (st' := [.int x7, .int x6, .ref x1]) rfl rfl ?_
        obtain ⟨v7, M6, he5, h⟩ := zC1_inv h
        refine y_callV (pc' := 111) (y := zmR_after) (a' := [.int x6, .int x7]) (st' := []) rfl rfl rfl rfl rfl (zrecv_o (o := 3) hk1 rfl) rfl he5 rfl rfl ?_
        refine y_pure (pc' := 115) rfl rfl ?_
        refine y_pure (pc' := 117) (ls' := [(0, .ref x0), (1, .ref x1), (2, .ref x2), (3, .ref x3), (4, .int x4), (5, .int x5), (6, .int x6), (7, .int x7), (8, .int v7)]) (st' := []) rfl rfl ?_
        refine y_pure (pc' := 119) (st' := [.int v7]) rfl rfl ?_
        rcases zif_inv h with ⟨hc8, h⟩ | ⟨hc8, h⟩
        · refine y_cnd (pc' := 147) rfl rfl (zc_ltT hc8) rfl ?_
          refine y_pure (pc' := 150) (ls' := [(0, .ref x0), (1, .ref x1), (2, .ref x2), (3, .ref x3), (4, .int x4), (5, .int x5), (6, .int x6), (7, .int (x7 + (nI 1))), (8, .int v7)]) (st' := []) rfl rfl ?_
          refine y_pure (pc' := 75) rfl rfl ?_
          refine zEx_sub ?_ h
          exact ⟨rfl, rfl, rfl, rfl, rfl, rfl, rfl, rfl, trivial⟩
        · refine y_cnd (pc' := 122) rfl rfl (zc_ltF hc8) rfl ?_
          refine y_pure (pc' := 124) (st' := [.int v7]) rfl rfl ?_
          refine y_pure (pc' := 127) (st' := [.int (nI 128), .int v7]) rfl rfl ?_
          rcases zif_inv h with ⟨hc9, h⟩ | ⟨hc9, h⟩
          · refine y_cmp (pc' := 130) rfl rfl (zc_geF hc9) rfl ?_
            refine y_pure (pc' := 131) (st' := [.ref x0]) rfl rfl ?_
            refine y_getf (pc' := 134) (v := .ref (x0 + 2)) rfl rfl rfl hk0 rfl rfl ?_
            refine y_pure (pc' := 136) (st' := [.int v7, .ref (x0 + 2)]) rfl rfl ?_
            refine y_pure (pc' := 137) (st' := [.int v7, .ref (x0 + 2), .int v7, .ref (x0 + 2)]) rfl rfl ?_
            obtain ⟨hi10, h⟩ := zg_inv h
            refine y_iald (pc' := 138) rfl (zf_7_1 hk0) hi10 rfl ?_
            refine y_pure (pc' := 139) (st' := [.ref x0, .int (M6.1 (x0 + 2) (Int32.toNatClampNeg v7)), .int v7, .ref (x0 + 2)]) rfl rfl ?_
            refine y_getf (pc' := 142) (v := .ref (x0 + 1)) rfl rfl rfl hk0 rfl rfl ?_
            refine y_pure (pc' := 144) (st' := [.int x6, .ref (x0 + 1), .int (M6.1 (x0 + 2) (Int32.toNatClampNeg v7)), .int v7, .ref (x0 + 2)]) rfl rfl ?_
            refine y_iald (pc' := 145) rfl (zf_7_0 hk0) hi2 rfl ?_
            refine y_pure (pc' := 146) (st' := [.int ((M6.1 (x0 + 2) (Int32.toNatClampNeg v7)) + (M6.1 (x0 + 1) (Int32.toNatClampNeg x6))), .int v7, .ref (x0 + 2)]) rfl rfl ?_
            refine y_iast (pc' := 147) rfl (zf_7_1 hk0) hi10 rfl ?_
            refine y_pure (pc' := 150) (ls' := [(0, .ref x0), (1, .ref x1), (2, .ref x2), (3, .ref x3), (4, .int x4), (5, .int x5), (6, .int x6), (7, .int (x7 + (nI 1))), (8, .int v7)]) (st' := []) rfl rfl ?_
            refine y_pure (pc' := 75) rfl rfl ?_
            refine zEx_sub ?_ h
            exact ⟨rfl, rfl, rfl, rfl, rfl, rfl, rfl, rfl, trivial⟩
          · refine y_cmp (pc' := 147) rfl rfl (zc_geT hc9) rfl ?_
            refine y_pure (pc' := 150) (ls' := [(0, .ref x0), (1, .ref x1), (2, .ref x2), (3, .ref x3), (4, .int x4), (5, .int x5), (6, .int x6), (7, .int (x7 + (nI 1))), (8, .int v7)]) (st' := []) rfl rfl ?_
            refine y_pure (pc' := 75) rfl rfl ?_
            refine zEx_sub ?_ h
            exact ⟨rfl, rfl, rfl, rfl, rfl, rfl, rfl, rfl, trivial⟩
      · refine y_cmp (pc' := 114) rfl rfl (zc_neT hc4) rfl ?_
        refine y_pure (pc' := 115) (st' := [.int (-1 : Int32)]) rfl rfl ?_
        refine y_pure (pc' := 117) (ls' := [(0, .ref x0), (1, .ref x1), (2, .ref x2), (3, .ref x3), (4, .int x4), (5, .int x5), (6, .int x6), (7, .int x7), (8, .int (-1 : Int32))]) (st' := []) rfl rfl ?_
        refine y_pure (pc' := 119) (st' := [.int (-1 : Int32)]) rfl rfl ?_
        refine y_cnd (pc' := 147) rfl rfl (zc_ltT (by decide)) rfl ?_
        refine y_pure (pc' := 150) (ls' := [(0, .ref x0), (1, .ref x1), (2, .ref x2), (3, .ref x3), (4, .int x4), (5, .int x5), (6, .int x6), (7, .int (x7 + (nI 1))), (8, .int (-1 : Int32))]) (st' := []) rfl rfl ?_
        refine y_pure (pc' := 75) rfl rfl ?_
        refine zEx_sub ?_ h
        exact ⟨rfl, rfl, rfl, rfl, rfl, rfl, rfl, rfl, trivial⟩
    · refine y_cnd (pc' := 153) rfl rfl (zc_leT hc3) rfl ?_
      refine y_pure (pc' := 156) (ls' := [(0, .ref x0), (1, .ref x1), (2, .ref x2), (3, .ref x3), (4, .int x4), (5, .int x5), (6, .int (x6 + (nI 1))), (7, .int x7)]) (st' := []) rfl rfl ?_
      refine y_pure (pc' := 64) rfl rfl ?_
      refine zEx_sub ?_ h
      exact ⟨rfl, rfl, rfl, rfl, rfl, rfl, rfl, trivial⟩
theorem e_Y_tallyBySets {d : Nat} {x0 : Nat} {x1 : Nat} {x2 : Nat} {x3 : Nat} {M : ZM} {r : ZR} (hk0 : zkd x0 = (17, 0)) (hk1 : zkd x1 = (13, 0)) (hk2 : zkd x2 = (1, 36)) (hk3 : zkd x3 = (1, 6)) (h : h_Y_tallyBySets_10 d x0 x1 x2 x3 (nI 0) (zpi M (x0 + 1) 0 (nI 1)) = some r) : zEv (d + 1) zmY_tallyBySets [.ref x0, .ref x1, .ref x2, .ref x3] M = some r := by
  rw [zEv_succ]
  show zEx0 (zEv d) zmY_tallyBySets (0, [(0, .ref x0), (1, .ref x1), (2, .ref x2), (3, .ref x3)], [], M) = some r
  refine y_pure (pc' := 1) (st' := [.ref x0]) rfl rfl ?_
  refine y_getf (pc' := 4) (v := .ref (x0 + 1)) rfl rfl rfl hk0 rfl rfl ?_
  refine y_pure (pc' := 5) (st' := [.int (nI 0), .ref (x0 + 1)]) rfl rfl ?_
  refine y_pure (pc' := 6) (st' := [.int (nI 1), .int (nI 0), .ref (x0 + 1)]) rfl rfl ?_
  refine y_iast (pc' := 7) rfl (zf_7_0 hk0) (by decide) rfl ?_
  refine y_pure (pc' := 8) (st' := [.int (nI 0)]) rfl rfl ?_
  refine y_pure (pc' := 10) (ls' := [(0, .ref x0), (1, .ref x1), (2, .ref x2), (3, .ref x3), (4, .int (nI 0))]) (st' := []) rfl rfl ?_
  refine zEx_sub ?_ h
  exact ⟨rfl, rfl, rfl, rfl, rfl, trivial⟩
noncomputable def h_Y_walk_44 (d : Nat) (x0 : Nat) (x1 : Nat) (x2 : Nat) (x3 : Nat) (x4 : Int32) (x5 : Int32) (x6 : Int32) (x7 : Int32) (x8 : Int32) (M : ZM) : Option ZR := zEx0 (zEv d) zmY_walk (44, [(0, .ref x0), (1, .ref x1), (2, .ref x2), (3, .ref x3), (4, .int x4), (5, .int x5), (6, .int x6), (7, .int x7), (8, .int x8)], [], M)
theorem e_Y_walk_44 {d : Nat} {x0 : Nat} {x1 : Nat} {x2 : Nat} {x3 : Nat} {x4 : Int32} {x5 : Int32} {x6 : Int32} {x7 : Int32} {x8 : Int32} {M : ZM} {r : ZR} (hk0 : zkd x0 = (17, 0)) (hk1 : zkd x1 = (13, 0)) (hk2 : zkd x2 = (1, 36)) (hk3 : zkd x3 = (1, 6)) (h : (if (nI 7) < x8 then some (none, M) else (if ((x7 >>> (x8 &&& 31)) &&& (nI 1)) = (nI 1) then zC1 (zEv d zmR_after [.ref x1, .int x5, .int x8] M) (fun v5 M4 => zC1 (zEv d zmR_canEnd [.ref x1, .int (x4 + (nI 1)), .int v5] M4) (fun v8 M7 => (if v8 = (nI 0) then h_Y_walk_44 d x0 x1 x2 x3 x4 x5 x6 x7 (x8 + (nI 1)) M7 else zC0 (zEv d zmY_walk [.ref x0, .ref x1, .ref x2, .ref x3, .int (x4 + (nI 1)), .int v5, .int (x6 ||| ((nI 1) <<< ((x8 - (nI 1)) &&& 31)))] M7) (fun M11 => h_Y_walk_44 d x0 x1 x2 x3 x4 x5 x6 x7 (x8 + (nI 1)) M11)))) else h_Y_walk_44 d x0 x1 x2 x3 x4 x5 x6 x7 (x8 + (nI 1)) M)) = some r) : h_Y_walk_44 d x0 x1 x2 x3 x4 x5 x6 x7 x8 M = some r := by
  show zEx0 (zEv d) zmY_walk (44, [(0, .ref x0), (1, .ref x1), (2, .ref x2), (3, .ref x3), (4, .int x4), (5, .int x5), (6, .int x6), (7, .int x7), (8, .int x8)], [], M) = some r
  refine y_pure (pc' := 46) (st' := [.int x8]) rfl rfl ?_
  refine y_pure (pc' := 48) (st' := [.int (nI 7), .int x8]) rfl rfl ?_
  rcases zif_inv h with ⟨hc1, h⟩ | ⟨hc1, h⟩
  · refine y_cmp (pc' := 113) rfl rfl (zc_gtT hc1) rfl ?_
    exact y_ret rfl rfl rfl rfl h
  · refine y_cmp (pc' := 51) rfl rfl (zc_gtF hc1) rfl ?_
    refine y_pure (pc' := 53) (st' := [.int x7]) rfl rfl ?_
    refine y_pure (pc' := 55) (st' := [.int x8, .int x7]) rfl rfl ?_
    refine y_pure (pc' := 56) (st' := [.int (x7 >>> (x8 &&& 31))]) rfl rfl ?_
    refine y_pure (pc' := 57) (st' := [.int (nI 1), .int (x7 >>> (x8 &&& 31))]) rfl rfl ?_
    refine y_pure (pc' := 58) (st' := [.int ((x7 >>> (x8 &&& 31)) &&& (nI 1))]) rfl rfl ?_
    refine y_pure (pc' := 59) (st' := [.int (nI 1), .int ((x7 >>> (x8 &&& 31)) &&& (nI 1))]) rfl rfl ?_
    rcases zif_inv h with ⟨hc2, h⟩ | ⟨hc2, h⟩
    · refine y_cmp (pc' := 62) rfl rfl (zc_neF hc2) rfl ?_
      refine y_pure (pc' := 63) (st' := [.ref x1]) rfl rfl ?_
      refine y_pure (pc' := 65) (st' := [.int x5, .ref x1]) rfl rfl ?_
      refine y_pure (pc' := 67) (st' := [.int x8, .int x5, .ref x1]) rfl rfl ?_
      obtain ⟨v5, M4, he3, h⟩ := zC1_inv h
      refine y_callV (pc' := 70) (y := zmR_after) (a' := [.int x5, .int x8]) (st' := []) rfl rfl rfl rfl rfl (zrecv_o (o := 3) hk1 rfl) rfl he3 rfl rfl ?_
      refine y_pure (pc' := 72) (ls' := [(0, .ref x0), (1, .ref x1), (2, .ref x2), (3, .ref x3), (4, .int x4), (5, .int x5), (6, .int x6), (7, .int x7), (8, .int x8), (9, .int v5)]) (st' := []) rfl rfl ?_
      refine y_pure (pc' := 73) (st' := [.ref x1]) rfl rfl ?_
      refine y_pure (pc' := 75) (st' := [.int x4, .ref x1]) rfl rfl ?_
      refine y_pure (pc' := 76) (st' := [.int (nI 1), .int x4, .ref x1]) rfl rfl ?_
      refine y_pure (pc' := 77) (st' := [.int (x4 + (nI 1)), .ref x1]) rfl rfl ?_
      refine y_pure (pc' := 79) (st' := [.int v5, .int (x4 + (nI 1)), .ref x1]) rfl rfl ?_
      obtain ⟨v8, M7, he6, h⟩ := zC1_inv h
      refine y_callV (pc' := 82) (y := zmR_canEnd) (a' := [.int (x4 + (nI 1)), .int v5]) (st' := []) rfl rfl rfl rfl rfl (zrecv_o (o := 3) hk1 rfl) rfl he6 rfl rfl ?_
      rcases zif_inv h with ⟨hc9, h⟩ | ⟨hc9, h⟩
      · refine y_cnd (pc' := 107) rfl rfl (zc_eqT hc9) rfl ?_
        refine y_pure (pc' := 110) (ls' := [(0, .ref x0), (1, .ref x1), (2, .ref x2), (3, .ref x3), (4, .int x4), (5, .int x5), (6, .int x6), (7, .int x7), (8, .int (x8 + (nI 1))), (9, .int v5)]) (st' := []) rfl rfl ?_
        refine y_pure (pc' := 44) rfl rfl ?_
        refine zEx_sub ?_ h
        exact ⟨rfl, rfl, rfl, rfl, rfl, rfl, rfl, rfl, rfl, trivial⟩
      · refine y_cnd (pc' := 85) rfl rfl (zc_eqF hc9) rfl ?_
        refine y_pure (pc' := 86) (st' := [.ref x0]) rfl rfl ?_
        refine y_pure (pc' := 87) (st' := [.ref x1, .ref x0]) rfl rfl ?_
        refine y_pure (pc' := 88) (st' := [.ref x2, .ref x1, .ref x0]) rfl rfl ?_
        refine y_pure (pc' := 89) (st' := [.ref x3, .ref x2, .ref x1, .ref x0]) rfl rfl ?_
        refine y_pure (pc' := 91) (st' := [.int x4, .ref x3, .ref x2, .ref x1, .ref x0]) rfl rfl ?_
        refine y_pure (pc' := 92) (st' := [.int (nI 1), .int x4, .ref x3, .ref x2, .ref x1, .ref x0]) rfl rfl ?_
        refine y_pure (pc' := 93) (st' := [.int (x4 + (nI 1)), .ref x3, .ref x2, .ref x1, .ref x0]) rfl rfl ?_
        refine y_pure (pc' := 95) (st' := [.int v5, .int (x4 + (nI 1)), .ref x3, .ref x2, .ref x1, .ref x0]) rfl rfl ?_
        refine y_pure (pc' := 97) (st' := [.int x6, .int v5, .int (x4 + (nI 1)), .ref x3, .ref x2, .ref x1, .ref x0]) rfl rfl ?_
        refine y_pure (pc' := 98) (st' := [.int (nI 1), .int x6, .int v5, .int (x4 + (nI 1)), .ref x3, .ref x2, .ref x1, .ref x0]) rfl rfl ?_
        refine y_pure (pc' := 100) (st' := [.int x8, .int (nI 1), .int x6, .int v5, .int (x4 + (nI 1)), .ref x3, .ref x2, .ref x1, .ref x0]) rfl rfl ?_
        refine y_pure (pc' := 101) (st' := [.int (nI 1), .int x8, .int (nI 1), .int x6, .int v5, .int (x4 + (nI 1)), .ref x3, .ref x2, .ref x1, .ref x0]) rfl rfl ?_
        refine y_pure (pc' := 102) (st' := [.int (x8 - (nI 1)), .int (nI 1), .int x6, .int v5, .int (x4 + (nI 1)), .ref x3, .ref x2, .ref x1, .ref x0]) rfl rfl ?_
        refine y_pure (pc' := 103) (st' := [.int ((nI 1) <<< ((x8 - (nI 1)) &&& 31)), .int x6, .int v5, .int (x4 + (nI 1)), .ref x3, .ref x2, .ref x1, .ref x0]) rfl rfl ?_
        refine y_pure (pc' := 104) (st' := [.int (x6 ||| ((nI 1) <<< ((x8 - (nI 1)) &&& 31))), .int v5, .int (x4 + (nI 1)), .ref x3, .ref x2, .ref x1, .ref x0]) rfl rfl ?_
        obtain ⟨M11, he10, h⟩ := zC0_inv h
        refine y_callS (pc' := 107) (y := zmY_walk) (a := [.ref x0, .ref x1, .ref x2, .ref x3, .int (x4 + (nI 1)), .int v5, .int (x6 ||| ((nI 1) <<< ((x8 - (nI 1)) &&& 31)))]) (st' := []) rfl rfl rfl rfl rfl rfl he10 rfl rfl ?_
        refine y_pure (pc' := 110) (ls' := [(0, .ref x0), (1, .ref x1), (2, .ref x2), (3, .ref x3), (4, .int x4), (5, .int x5), (6, .int x6), (7, .int x7), (8, .int (x8 + (nI 1))), (9, .int v5)]) (st' := []) rfl rfl ?_
        refine y_pure (pc' := 44) rfl rfl ?_
        refine zEx_sub ?_ h
        exact ⟨rfl, rfl, rfl, rfl, rfl, rfl, rfl, rfl, rfl, trivial⟩
    · refine y_cmp (pc' := 107) rfl rfl (zc_neT hc2) rfl ?_
      refine y_pure (pc' := 110) (ls' := [(0, .ref x0), (1, .ref x1), (2, .ref x2), (3, .ref x3), (4, .int x4), (5, .int x5), (6, .int x6), (7, .int x7), (8, .int (x8 + (nI 1)))]) (st' := []) rfl rfl ?_
      refine y_pure (pc' := 44) rfl rfl ?_
      refine zEx_sub ?_ h
      exact ⟨rfl, rfl, rfl, rfl, rfl, rfl, rfl, rfl, rfl, trivial⟩
theorem e_Y_walk {d : Nat} {x0 : Nat} {x1 : Nat} {x2 : Nat} {x3 : Nat} {x4 : Int32} {x5 : Int32} {x6 : Int32} {M : ZM} {r : ZR} (hk0 : zkd x0 = (17, 0)) (hk1 : zkd x1 = (13, 0)) (hk2 : zkd x2 = (1, 36)) (hk3 : zkd x3 = (1, 6)) (h : zC1 (zEv d zmR_size [.ref x1] M) (fun v3 M2 => (if x4 < v3 then (if x4 < (nI 6) then (if zin x4 6 = true then zC1 (zEv d zmR_marksAt [.ref x2, .int (M2.1 x3 (Int32.toNatClampNeg x4))] M2) (fun v9 M8 => h_Y_walk_44 d x0 x1 x2 x3 x4 x5 x6 v9 (nI 1) M8) else none) else (if zin (x6 &&& (nI 127)) 128 = true then some (none, (zpi M2 (x0 + 1) (Int32.toNatClampNeg (x6 &&& (nI 127))) ((M2.1 (x0 + 1) (Int32.toNatClampNeg (x6 &&& (nI 127)))) + (nI 1)))) else none)) else (if zin (x6 &&& (nI 127)) 128 = true then some (none, (zpi M2 (x0 + 1) (Int32.toNatClampNeg (x6 &&& (nI 127))) ((M2.1 (x0 + 1) (Int32.toNatClampNeg (x6 &&& (nI 127)))) + (nI 1)))) else none))) = some r) : zEv (d + 1) zmY_walk [.ref x0, .ref x1, .ref x2, .ref x3, .int x4, .int x5, .int x6] M = some r := by
  rw [zEv_succ]
  show zEx0 (zEv d) zmY_walk (0, [(0, .ref x0), (1, .ref x1), (2, .ref x2), (3, .ref x3), (4, .int x4), (5, .int x5), (6, .int x6)], [], M) = some r
  refine y_pure (pc' := 2) (st' := [.int x4]) rfl rfl ?_
  refine y_pure (pc' := 3) (st' := [.ref x1, .int x4]) rfl rfl ?_
  obtain ⟨v3, M2, he1, h⟩ := zC1_inv h
  refine y_callV (pc' := 6) (y := zmR_size) (a' := []) (st' := [.int x4]) rfl rfl rfl rfl rfl (zrecv_o (o := 3) hk1 rfl) rfl he1 rfl rfl ?_
  rcases zif_inv h with ⟨hc4, h⟩ | ⟨hc4, h⟩
  · refine y_cmp (pc' := 9) rfl rfl (zc_geF hc4) rfl ?_
    refine y_pure (pc' := 11) (st' := [.int x4]) rfl rfl ?_
    refine y_pure (pc' := 12) (st' := [.ref x3, .int x4]) rfl rfl ?_
    refine y_alen (pc' := 13) rfl hk3 (by decide) rfl rfl ?_
    rcases zif_inv h with ⟨hc5, h⟩ | ⟨hc5, h⟩
    · refine y_cmp (pc' := 31) rfl rfl (zc_ltT hc5) rfl ?_
      refine y_pure (pc' := 32) (st' := [.ref x2]) rfl rfl ?_
      refine y_pure (pc' := 33) (st' := [.ref x3, .ref x2]) rfl rfl ?_
      refine y_pure (pc' := 35) (st' := [.int x4, .ref x3, .ref x2]) rfl rfl ?_
      obtain ⟨hi6, h⟩ := zg_inv h
      refine y_iald (pc' := 36) rfl hk3 hi6 rfl ?_
      obtain ⟨v9, M8, he7, h⟩ := zC1_inv h
      refine y_callS (pc' := 39) (y := zmR_marksAt) (a := [.ref x2, .int (M2.1 x3 (Int32.toNatClampNeg x4))]) (st' := []) rfl rfl rfl rfl rfl rfl he7 rfl rfl ?_
      refine y_pure (pc' := 41) (ls' := [(0, .ref x0), (1, .ref x1), (2, .ref x2), (3, .ref x3), (4, .int x4), (5, .int x5), (6, .int x6), (7, .int v9)]) (st' := []) rfl rfl ?_
      refine y_pure (pc' := 42) (st' := [.int (nI 1)]) rfl rfl ?_
      refine y_pure (pc' := 44) (ls' := [(0, .ref x0), (1, .ref x1), (2, .ref x2), (3, .ref x3), (4, .int x4), (5, .int x5), (6, .int x6), (7, .int v9), (8, .int (nI 1))]) (st' := []) rfl rfl ?_
      refine zEx_sub ?_ h
      exact ⟨rfl, rfl, rfl, rfl, rfl, rfl, rfl, rfl, rfl, trivial⟩
    · refine y_cmp (pc' := 16) rfl rfl (zc_ltF hc5) rfl ?_
      refine y_pure (pc' := 17) (st' := [.ref x0]) rfl rfl ?_
      refine y_getf (pc' := 20) (v := .ref (x0 + 1)) rfl rfl rfl hk0 rfl rfl ?_
      refine y_pure (pc' := 22) (st' := [.int x6, .ref (x0 + 1)]) rfl rfl ?_
      refine y_pure (pc' := 24) (st' := [.int (nI 127), .int x6, .ref (x0 + 1)]) rfl rfl ?_
      refine y_pure (pc' := 25) (st' := [.int (x6 &&& (nI 127)), .ref (x0 + 1)]) rfl rfl ?_
      refine y_pure (pc' := 26) (st' := [.int (x6 &&& (nI 127)), .ref (x0 + 1), .int (x6 &&& (nI 127)), .ref (x0 + 1)]) rfl rfl ?_
      obtain ⟨hi10, h⟩ := zg_inv h
      refine y_iald (pc' := 27) rfl (zf_7_0 hk0) hi10 rfl ?_
      refine y_pure (pc' := 28) (st' := [.int (nI 1), .int (M2.1 (x0 + 1) (Int32.toNatClampNeg (x6 &&& (nI 127)))), .int (x6 &&& (nI 127)), .ref (x0 + 1)]) rfl rfl ?_
      refine y_pure (pc' := 29) (st' := [.int ((M2.1 (x0 + 1) (Int32.toNatClampNeg (x6 &&& (nI 127)))) + (nI 1)), .int (x6 &&& (nI 127)), .ref (x0 + 1)]) rfl rfl ?_
      refine y_iast (pc' := 30) rfl (zf_7_0 hk0) hi10 rfl ?_
      exact y_ret rfl rfl rfl rfl h
  · refine y_cmp (pc' := 16) rfl rfl (zc_geT hc4) rfl ?_
    refine y_pure (pc' := 17) (st' := [.ref x0]) rfl rfl ?_
    refine y_getf (pc' := 20) (v := .ref (x0 + 1)) rfl rfl rfl hk0 rfl rfl ?_
    refine y_pure (pc' := 22) (st' := [.int x6, .ref (x0 + 1)]) rfl rfl ?_
    refine y_pure (pc' := 24) (st' := [.int (nI 127), .int x6, .ref (x0 + 1)]) rfl rfl ?_
    refine y_pure (pc' := 25) (st' := [.int (x6 &&& (nI 127)), .ref (x0 + 1)]) rfl rfl ?_
    refine y_pure (pc' := 26) (st' := [.int (x6 &&& (nI 127)), .ref (x0 + 1), .int (x6 &&& (nI 127)), .ref (x0 + 1)]) rfl rfl ?_
    obtain ⟨hi11, h⟩ := zg_inv h
    refine y_iald (pc' := 27) rfl (zf_7_0 hk0) hi11 rfl ?_
    refine y_pure (pc' := 28) (st' := [.int (nI 1), .int (M2.1 (x0 + 1) (Int32.toNatClampNeg (x6 &&& (nI 127)))), .int (x6 &&& (nI 127)), .ref (x0 + 1)]) rfl rfl ?_
    refine y_pure (pc' := 29) (st' := [.int ((M2.1 (x0 + 1) (Int32.toNatClampNeg (x6 &&& (nI 127)))) + (nI 1)), .int (x6 &&& (nI 127)), .ref (x0 + 1)]) rfl rfl ?_
    refine y_iast (pc' := 30) rfl (zf_7_0 hk0) hi11 rfl ?_
    exact y_ret rfl rfl rfl rfl h
noncomputable def h_Y_many_4 (d : Nat) (x0 : Nat) (x1 : Int32) (x2 : Int32) (M : ZM) : Option ZR := zEx0 (zEv d) zmY_many (4, [(0, .ref x0), (1, .int x1), (2, .int x2)], [], M)
theorem e_Y_many_4 {d : Nat} {x0 : Nat} {x1 : Int32} {x2 : Int32} {M : ZM} {r : ZR} (hk0 : zkd x0 = (17, 0)) (h : (if x2 < (nI 128) then (if zin x2 128 = true then h_Y_many_4 d x0 (x1 + (M.1 (x0 + 1) (Int32.toNatClampNeg x2))) (x2 + (nI 1)) M else none) else some (some (.int x1), M)) = some r) : h_Y_many_4 d x0 x1 x2 M = some r := by
  show zEx0 (zEv d) zmY_many (4, [(0, .ref x0), (1, .int x1), (2, .int x2)], [], M) = some r
  refine y_pure (pc' := 5) (st' := [.int x2]) rfl rfl ?_
  refine y_pure (pc' := 8) (st' := [.int (nI 128), .int x2]) rfl rfl ?_
  rcases zif_inv h with ⟨hc1, h⟩ | ⟨hc1, h⟩
  · refine y_cmp (pc' := 11) rfl rfl (zc_geF hc1) rfl ?_
    refine y_pure (pc' := 12) (st' := [.int x1]) rfl rfl ?_
    refine y_pure (pc' := 13) (st' := [.ref x0, .int x1]) rfl rfl ?_
    refine y_getf (pc' := 16) (v := .ref (x0 + 1)) rfl rfl rfl hk0 rfl rfl ?_
    refine y_pure (pc' := 17) (st' := [.int x2, .ref (x0 + 1), .int x1]) rfl rfl ?_
    obtain ⟨hi2, h⟩ := zg_inv h
    refine y_iald (pc' := 18) rfl (zf_7_0 hk0) hi2 rfl ?_
    refine y_pure (pc' := 19) (st' := [.int (x1 + (M.1 (x0 + 1) (Int32.toNatClampNeg x2)))]) rfl rfl ?_
    refine y_pure (pc' := 20) (ls' := [(0, .ref x0), (1, .int (x1 + (M.1 (x0 + 1) (Int32.toNatClampNeg x2)))), (2, .int x2)]) (st' := []) rfl rfl ?_
    refine y_pure (pc' := 23) (ls' := [(0, .ref x0), (1, .int (x1 + (M.1 (x0 + 1) (Int32.toNatClampNeg x2)))), (2, .int (x2 + (nI 1)))]) (st' := []) rfl rfl ?_
    refine y_pure (pc' := 4) rfl rfl ?_
    refine zEx_sub ?_ h
    exact ⟨rfl, rfl, rfl, trivial⟩
  · refine y_cmp (pc' := 26) rfl rfl (zc_geT hc1) rfl ?_
    refine y_pure (pc' := 27) (st' := [.int x1]) rfl rfl ?_
    exact y_ret rfl rfl rfl rfl h
theorem e_Y_many {d : Nat} {x0 : Nat} {M : ZM} {r : ZR} (hk0 : zkd x0 = (17, 0)) (h : h_Y_many_4 d x0 (nI 0) (nI 0) M = some r) : zEv (d + 1) zmY_many [.ref x0] M = some r := by
  rw [zEv_succ]
  show zEx0 (zEv d) zmY_many (0, [(0, .ref x0)], [], M) = some r
  refine y_pure (pc' := 1) (st' := [.int (nI 0)]) rfl rfl ?_
  refine y_pure (pc' := 2) (ls' := [(0, .ref x0), (1, .int (nI 0))]) (st' := []) rfl rfl ?_
  refine y_pure (pc' := 3) (st' := [.int (nI 0)]) rfl rfl ?_
  refine y_pure (pc' := 4) (ls' := [(0, .ref x0), (1, .int (nI 0)), (2, .int (nI 0))]) (st' := []) rfl rfl ?_
  refine zEx_sub ?_ h
  exact ⟨rfl, rfl, rfl, trivial⟩
noncomputable def h_Y_manyWith_4 (d : Nat) (x0 : Nat) (x1 : Int32) (x2 : Int32) (x3 : Int32) (M : ZM) : Option ZR := zEx0 (zEv d) zmY_manyWith (4, [(0, .ref x0), (1, .int x1), (2, .int x2), (3, .int x3)], [], M)
theorem e_Y_manyWith_4 {d : Nat} {x0 : Nat} {x1 : Int32} {x2 : Int32} {x3 : Int32} {M : ZM} {r : ZR} (hk0 : zkd x0 = (17, 0)) (h : (if x3 < (nI 128) then (if (((x3 <<< ((nI 1) &&& 31)) >>> (x1 &&& 31)) &&& (nI 1)) = (nI 1) then (if zin x3 128 = true then h_Y_manyWith_4 d x0 x1 (x2 + (M.1 (x0 + 1) (Int32.toNatClampNeg x3))) (x3 + (nI 1)) M else none) else h_Y_manyWith_4 d x0 x1 x2 (x3 + (nI 1)) M) else some (some (.int x2), M)) = some r) : h_Y_manyWith_4 d x0 x1 x2 x3 M = some r := by
  show zEx0 (zEv d) zmY_manyWith (4, [(0, .ref x0), (1, .int x1), (2, .int x2), (3, .int x3)], [], M) = some r
  refine y_pure (pc' := 5) (st' := [.int x3]) rfl rfl ?_
  refine y_pure (pc' := 8) (st' := [.int (nI 128), .int x3]) rfl rfl ?_
  rcases zif_inv h with ⟨hc1, h⟩ | ⟨hc1, h⟩
  · refine y_cmp (pc' := 11) rfl rfl (zc_geF hc1) rfl ?_
    refine y_pure (pc' := 12) (st' := [.int x3]) rfl rfl ?_
    refine y_pure (pc' := 13) (st' := [.int (nI 1), .int x3]) rfl rfl ?_
    refine y_pure (pc' := 14) (st' := [.int (x3 <<< ((nI 1) &&& 31))]) rfl rfl ?_
    refine y_pure (pc' := 15) (st' := [.int x1, .int (x3 <<< ((nI 1) &&& 31))]) rfl rfl ?_
    refine y_pure (pc' := 16) (st' := [.int ((x3 <<< ((nI 1) &&& 31)) >>> (x1 &&& 31))]) rfl rfl ?_
    refine y_pure (pc' := 17) (st' := [.int (nI 1), .int ((x3 <<< ((nI 1) &&& 31)) >>> (x1 &&& 31))]) rfl rfl ?_
    refine y_pure (pc' := 18) (st' := [.int (((x3 <<< ((nI 1) &&& 31)) >>> (x1 &&& 31)) &&& (nI 1))]) rfl rfl ?_
    refine y_pure (pc' := 19) (st' := [.int (nI 1), .int (((x3 <<< ((nI 1) &&& 31)) >>> (x1 &&& 31)) &&& (nI 1))]) rfl rfl ?_
    rcases zif_inv h with ⟨hc2, h⟩ | ⟨hc2, h⟩
    · refine y_cmp (pc' := 22) rfl rfl (zc_neF hc2) rfl ?_
      refine y_pure (pc' := 23) (st' := [.int x2]) rfl rfl ?_
      refine y_pure (pc' := 24) (st' := [.ref x0, .int x2]) rfl rfl ?_
      refine y_getf (pc' := 27) (v := .ref (x0 + 1)) rfl rfl rfl hk0 rfl rfl ?_
      refine y_pure (pc' := 28) (st' := [.int x3, .ref (x0 + 1), .int x2]) rfl rfl ?_
      obtain ⟨hi3, h⟩ := zg_inv h
      refine y_iald (pc' := 29) rfl (zf_7_0 hk0) hi3 rfl ?_
      refine y_pure (pc' := 30) (st' := [.int (x2 + (M.1 (x0 + 1) (Int32.toNatClampNeg x3)))]) rfl rfl ?_
      refine y_pure (pc' := 31) (ls' := [(0, .ref x0), (1, .int x1), (2, .int (x2 + (M.1 (x0 + 1) (Int32.toNatClampNeg x3)))), (3, .int x3)]) (st' := []) rfl rfl ?_
      refine y_pure (pc' := 34) (ls' := [(0, .ref x0), (1, .int x1), (2, .int (x2 + (M.1 (x0 + 1) (Int32.toNatClampNeg x3)))), (3, .int (x3 + (nI 1)))]) (st' := []) rfl rfl ?_
      refine y_pure (pc' := 4) rfl rfl ?_
      refine zEx_sub ?_ h
      exact ⟨rfl, rfl, rfl, rfl, trivial⟩
    · refine y_cmp (pc' := 31) rfl rfl (zc_neT hc2) rfl ?_
      refine y_pure (pc' := 34) (ls' := [(0, .ref x0), (1, .int x1), (2, .int x2), (3, .int (x3 + (nI 1)))]) (st' := []) rfl rfl ?_
      refine y_pure (pc' := 4) rfl rfl ?_
      refine zEx_sub ?_ h
      exact ⟨rfl, rfl, rfl, rfl, trivial⟩
  · refine y_cmp (pc' := 37) rfl rfl (zc_geT hc1) rfl ?_
    refine y_pure (pc' := 38) (st' := [.int x2]) rfl rfl ?_
    exact y_ret rfl rfl rfl rfl h
theorem e_Y_manyWith {d : Nat} {x0 : Nat} {x1 : Int32} {M : ZM} {r : ZR} (hk0 : zkd x0 = (17, 0)) (h : h_Y_manyWith_4 d x0 x1 (nI 0) (nI 0) M = some r) : zEv (d + 1) zmY_manyWith [.ref x0, .int x1] M = some r := by
  rw [zEv_succ]
  show zEx0 (zEv d) zmY_manyWith (0, [(0, .ref x0), (1, .int x1)], [], M) = some r
  refine y_pure (pc' := 1) (st' := [.int (nI 0)]) rfl rfl ?_
  refine y_pure (pc' := 2) (ls' := [(0, .ref x0), (1, .int x1), (2, .int (nI 0))]) (st' := []) rfl rfl ?_
  refine y_pure (pc' := 3) (st' := [.int (nI 0)]) rfl rfl ?_
  refine y_pure (pc' := 4) (ls' := [(0, .ref x0), (1, .int x1), (2, .int (nI 0)), (3, .int (nI 0))]) (st' := []) rfl rfl ?_
  refine zEx_sub ?_ h
  exact ⟨rfl, rfl, rfl, rfl, trivial⟩
noncomputable def h_Y_inAll_4 (d : Nat) (x0 : Nat) (x1 : Int32) (x2 : Int32) (M : ZM) : Option ZR := zEx0 (zEv d) zmY_inAll (4, [(0, .ref x0), (1, .int x1), (2, .int x2)], [], M)
theorem e_Y_inAll_4 {d : Nat} {x0 : Nat} {x1 : Int32} {x2 : Int32} {M : ZM} {r : ZR} (hk0 : zkd x0 = (17, 0)) (h : (if x2 < (nI 128) then (if zin x2 128 = true then (if (nI 0) < (M.1 (x0 + 1) (Int32.toNatClampNeg x2)) then h_Y_inAll_4 d x0 (x1 &&& (x2 <<< ((nI 1) &&& 31))) (x2 + (nI 1)) M else h_Y_inAll_4 d x0 x1 (x2 + (nI 1)) M) else none) else (if x1 = (-1 : Int32) then some (some (.int (nI 0)), M) else some (some (.int x1), M))) = some r) : h_Y_inAll_4 d x0 x1 x2 M = some r := by
  show zEx0 (zEv d) zmY_inAll (4, [(0, .ref x0), (1, .int x1), (2, .int x2)], [], M) = some r
  refine y_pure (pc' := 5) (st' := [.int x2]) rfl rfl ?_
  refine y_pure (pc' := 8) (st' := [.int (nI 128), .int x2]) rfl rfl ?_
  rcases zif_inv h with ⟨hc1, h⟩ | ⟨hc1, h⟩
  · refine y_cmp (pc' := 11) rfl rfl (zc_geF hc1) rfl ?_
    refine y_pure (pc' := 12) (st' := [.ref x0]) rfl rfl ?_
    refine y_getf (pc' := 15) (v := .ref (x0 + 1)) rfl rfl rfl hk0 rfl rfl ?_
    refine y_pure (pc' := 16) (st' := [.int x2, .ref (x0 + 1)]) rfl rfl ?_
    obtain ⟨hi2, h⟩ := zg_inv h
    refine y_iald (pc' := 17) rfl (zf_7_0 hk0) hi2 rfl ?_
    rcases zif_inv h with ⟨hc3, h⟩ | ⟨hc3, h⟩
    · refine y_cnd (pc' := 20) rfl rfl (zc_leF hc3) rfl ?_
      refine y_pure (pc' := 21) (st' := [.int x1]) rfl rfl ?_
      refine y_pure (pc' := 22) (st' := [.int x2, .int x1]) rfl rfl ?_
      refine y_pure (pc' := 23) (st' := [.int (nI 1), .int x2, .int x1]) rfl rfl ?_
      refine y_pure (pc' := 24) (st' := [.int (x2 <<< ((nI 1) &&& 31)), .int x1]) rfl rfl ?_
      refine y_pure (pc' := 25) (st' := [.int (x1 &&& (x2 <<< ((nI 1) &&& 31)))]) rfl rfl ?_
      refine y_pure (pc' := 26) (ls' := [(0, .ref x0), (1, .int (x1 &&& (x2 <<< ((nI 1) &&& 31)))), (2, .int x2)]) (st' := []) rfl rfl ?_
      refine y_pure (pc' := 29) (ls' := [(0, .ref x0), (1, .int (x1 &&& (x2 <<< ((nI 1) &&& 31)))), (2, .int (x2 + (nI 1)))]) (st' := []) rfl rfl ?_
      refine y_pure (pc' := 4) rfl rfl ?_
      refine zEx_sub ?_ h
      exact ⟨rfl, rfl, rfl, trivial⟩
    · refine y_cnd (pc' := 26) rfl rfl (zc_leT hc3) rfl ?_
      refine y_pure (pc' := 29) (ls' := [(0, .ref x0), (1, .int x1), (2, .int (x2 + (nI 1)))]) (st' := []) rfl rfl ?_
      refine y_pure (pc' := 4) rfl rfl ?_
      refine zEx_sub ?_ h
      exact ⟨rfl, rfl, rfl, trivial⟩
  · refine y_cmp (pc' := 32) rfl rfl (zc_geT hc1) rfl ?_
    refine y_pure (pc' := 33) (st' := [.int x1]) rfl rfl ?_
    refine y_pure (pc' := 34) (st' := [.int (-1 : Int32), .int x1]) rfl rfl ?_
    rcases zif_inv h with ⟨hc4, h⟩ | ⟨hc4, h⟩
    · refine y_cmp (pc' := 37) rfl rfl (zc_neF hc4) rfl ?_
      refine y_pure (pc' := 38) (st' := [.int (nI 0)]) rfl rfl ?_
      refine y_pure (pc' := 42) rfl rfl ?_
      exact y_ret rfl rfl rfl rfl h
    · refine y_cmp (pc' := 41) rfl rfl (zc_neT hc4) rfl ?_
      refine y_pure (pc' := 42) (st' := [.int x1]) rfl rfl ?_
      exact y_ret rfl rfl rfl rfl h
theorem e_Y_inAll {d : Nat} {x0 : Nat} {M : ZM} {r : ZR} (hk0 : zkd x0 = (17, 0)) (h : h_Y_inAll_4 d x0 (-1 : Int32) (nI 0) M = some r) : zEv (d + 1) zmY_inAll [.ref x0] M = some r := by
  rw [zEv_succ]
  show zEx0 (zEv d) zmY_inAll (0, [(0, .ref x0)], [], M) = some r
  refine y_pure (pc' := 1) (st' := [.int (-1 : Int32)]) rfl rfl ?_
  refine y_pure (pc' := 2) (ls' := [(0, .ref x0), (1, .int (-1 : Int32))]) (st' := []) rfl rfl ?_
  refine y_pure (pc' := 3) (st' := [.int (nI 0)]) rfl rfl ?_
  refine y_pure (pc' := 4) (ls' := [(0, .ref x0), (1, .int (-1 : Int32)), (2, .int (nI 0))]) (st' := []) rfl rfl ?_
  refine zEx_sub ?_ h
  exact ⟨rfl, rfl, rfl, trivial⟩
noncomputable def h_Y_manySets_4 (d : Nat) (x0 : Nat) (x1 : Int32) (x2 : Int32) (M : ZM) : Option ZR := zEx0 (zEv d) zmY_manySets (4, [(0, .ref x0), (1, .int x1), (2, .int x2)], [], M)
theorem e_Y_manySets_4 {d : Nat} {x0 : Nat} {x1 : Int32} {x2 : Int32} {M : ZM} {r : ZR} (hk0 : zkd x0 = (17, 0)) (h : (if x2 < (nI 128) then (if zin x2 128 = true then (if (nI 0) < (M.1 (x0 + 1) (Int32.toNatClampNeg x2)) then h_Y_manySets_4 d x0 (x1 + (nI 1)) (x2 + (nI 1)) M else h_Y_manySets_4 d x0 x1 (x2 + (nI 1)) M) else none) else some (some (.int x1), M)) = some r) : h_Y_manySets_4 d x0 x1 x2 M = some r := by
  show zEx0 (zEv d) zmY_manySets (4, [(0, .ref x0), (1, .int x1), (2, .int x2)], [], M) = some r
  refine y_pure (pc' := 5) (st' := [.int x2]) rfl rfl ?_
  refine y_pure (pc' := 8) (st' := [.int (nI 128), .int x2]) rfl rfl ?_
  rcases zif_inv h with ⟨hc1, h⟩ | ⟨hc1, h⟩
  · refine y_cmp (pc' := 11) rfl rfl (zc_geF hc1) rfl ?_
    refine y_pure (pc' := 12) (st' := [.ref x0]) rfl rfl ?_
    refine y_getf (pc' := 15) (v := .ref (x0 + 1)) rfl rfl rfl hk0 rfl rfl ?_
    refine y_pure (pc' := 16) (st' := [.int x2, .ref (x0 + 1)]) rfl rfl ?_
    obtain ⟨hi2, h⟩ := zg_inv h
    refine y_iald (pc' := 17) rfl (zf_7_0 hk0) hi2 rfl ?_
    rcases zif_inv h with ⟨hc3, h⟩ | ⟨hc3, h⟩
    · refine y_cnd (pc' := 20) rfl rfl (zc_leF hc3) rfl ?_
      refine y_pure (pc' := 23) (ls' := [(0, .ref x0), (1, .int (x1 + (nI 1))), (2, .int x2)]) (st' := []) rfl rfl ?_
      refine y_pure (pc' := 26) (ls' := [(0, .ref x0), (1, .int (x1 + (nI 1))), (2, .int (x2 + (nI 1)))]) (st' := []) rfl rfl ?_
      refine y_pure (pc' := 4) rfl rfl ?_
      refine zEx_sub ?_ h
      exact ⟨rfl, rfl, rfl, trivial⟩
    · refine y_cnd (pc' := 23) rfl rfl (zc_leT hc3) rfl ?_
      refine y_pure (pc' := 26) (ls' := [(0, .ref x0), (1, .int x1), (2, .int (x2 + (nI 1)))]) (st' := []) rfl rfl ?_
      refine y_pure (pc' := 4) rfl rfl ?_
      refine zEx_sub ?_ h
      exact ⟨rfl, rfl, rfl, trivial⟩
  · refine y_cmp (pc' := 29) rfl rfl (zc_geT hc1) rfl ?_
    refine y_pure (pc' := 30) (st' := [.int x1]) rfl rfl ?_
    exact y_ret rfl rfl rfl rfl h
theorem e_Y_manySets {d : Nat} {x0 : Nat} {M : ZM} {r : ZR} (hk0 : zkd x0 = (17, 0)) (h : h_Y_manySets_4 d x0 (nI 0) (nI 0) M = some r) : zEv (d + 1) zmY_manySets [.ref x0] M = some r := by
  rw [zEv_succ]
  show zEx0 (zEv d) zmY_manySets (0, [(0, .ref x0)], [], M) = some r
  refine y_pure (pc' := 1) (st' := [.int (nI 0)]) rfl rfl ?_
  refine y_pure (pc' := 2) (ls' := [(0, .ref x0), (1, .int (nI 0))]) (st' := []) rfl rfl ?_
  refine y_pure (pc' := 3) (st' := [.int (nI 0)]) rfl rfl ?_
  refine y_pure (pc' := 4) (ls' := [(0, .ref x0), (1, .int (nI 0)), (2, .int (nI 0))]) (st' := []) rfl rfl ?_
  refine zEx_sub ?_ h
  exact ⟨rfl, rfl, rfl, trivial⟩
noncomputable def h_Y_setAt_4 (d : Nat) (x0 : Nat) (x1 : Int32) (x2 : Int32) (x3 : Int32) (M : ZM) : Option ZR := zEx0 (zEv d) zmY_setAt (4, [(0, .ref x0), (1, .int x1), (2, .int x2), (3, .int x3)], [], M)
theorem e_Y_setAt_4 {d : Nat} {x0 : Nat} {x1 : Int32} {x2 : Int32} {x3 : Int32} {M : ZM} {r : ZR} (hk0 : zkd x0 = (17, 0)) (h : (if x3 < (nI 128) then (if zin x3 128 = true then (if (nI 0) < (M.1 (x0 + 1) (Int32.toNatClampNeg x3)) then (if x2 = x1 then some (some (.int (x3 <<< ((nI 1) &&& 31))), M) else h_Y_setAt_4 d x0 x1 (x2 + (nI 1)) (x3 + (nI 1)) M) else h_Y_setAt_4 d x0 x1 x2 (x3 + (nI 1)) M) else none) else some (some (.int (-2 : Int32)), M)) = some r) : h_Y_setAt_4 d x0 x1 x2 x3 M = some r := by
  show zEx0 (zEv d) zmY_setAt (4, [(0, .ref x0), (1, .int x1), (2, .int x2), (3, .int x3)], [], M) = some r
  refine y_pure (pc' := 5) (st' := [.int x3]) rfl rfl ?_
  refine y_pure (pc' := 8) (st' := [.int (nI 128), .int x3]) rfl rfl ?_
  rcases zif_inv h with ⟨hc1, h⟩ | ⟨hc1, h⟩
  · refine y_cmp (pc' := 11) rfl rfl (zc_geF hc1) rfl ?_
    refine y_pure (pc' := 12) (st' := [.ref x0]) rfl rfl ?_
    refine y_getf (pc' := 15) (v := .ref (x0 + 1)) rfl rfl rfl hk0 rfl rfl ?_
    refine y_pure (pc' := 16) (st' := [.int x3, .ref (x0 + 1)]) rfl rfl ?_
    obtain ⟨hi2, h⟩ := zg_inv h
    refine y_iald (pc' := 17) rfl (zf_7_0 hk0) hi2 rfl ?_
    rcases zif_inv h with ⟨hc3, h⟩ | ⟨hc3, h⟩
    · refine y_cnd (pc' := 20) rfl rfl (zc_leF hc3) rfl ?_
      refine y_pure (pc' := 21) (st' := [.int x2]) rfl rfl ?_
      refine y_pure (pc' := 22) (st' := [.int x1, .int x2]) rfl rfl ?_
      rcases zif_inv h with ⟨hc4, h⟩ | ⟨hc4, h⟩
      · refine y_cmp (pc' := 25) rfl rfl (zc_neF hc4) rfl ?_
        refine y_pure (pc' := 26) (st' := [.int x3]) rfl rfl ?_
        refine y_pure (pc' := 27) (st' := [.int (nI 1), .int x3]) rfl rfl ?_
        refine y_pure (pc' := 28) (st' := [.int (x3 <<< ((nI 1) &&& 31))]) rfl rfl ?_
        exact y_ret rfl rfl rfl rfl h
      · refine y_cmp (pc' := 29) rfl rfl (zc_neT hc4) rfl ?_
        refine y_pure (pc' := 32) (ls' := [(0, .ref x0), (1, .int x1), (2, .int (x2 + (nI 1))), (3, .int x3)]) (st' := []) rfl rfl ?_
        refine y_pure (pc' := 35) (ls' := [(0, .ref x0), (1, .int x1), (2, .int (x2 + (nI 1))), (3, .int (x3 + (nI 1)))]) (st' := []) rfl rfl ?_
        refine y_pure (pc' := 4) rfl rfl ?_
        refine zEx_sub ?_ h
        exact ⟨rfl, rfl, rfl, rfl, trivial⟩
    · refine y_cnd (pc' := 32) rfl rfl (zc_leT hc3) rfl ?_
      refine y_pure (pc' := 35) (ls' := [(0, .ref x0), (1, .int x1), (2, .int x2), (3, .int (x3 + (nI 1)))]) (st' := []) rfl rfl ?_
      refine y_pure (pc' := 4) rfl rfl ?_
      refine zEx_sub ?_ h
      exact ⟨rfl, rfl, rfl, rfl, trivial⟩
  · refine y_cmp (pc' := 38) rfl rfl (zc_geT hc1) rfl ?_
    refine y_pure (pc' := 40) (st' := [.int (-2 : Int32)]) rfl rfl ?_
    exact y_ret rfl rfl rfl rfl h
theorem e_Y_setAt {d : Nat} {x0 : Nat} {x1 : Int32} {M : ZM} {r : ZR} (hk0 : zkd x0 = (17, 0)) (h : h_Y_setAt_4 d x0 x1 (nI 0) (nI 0) M = some r) : zEv (d + 1) zmY_setAt [.ref x0, .int x1] M = some r := by
  rw [zEv_succ]
  show zEx0 (zEv d) zmY_setAt (0, [(0, .ref x0), (1, .int x1)], [], M) = some r
  refine y_pure (pc' := 1) (st' := [.int (nI 0)]) rfl rfl ?_
  refine y_pure (pc' := 2) (ls' := [(0, .ref x0), (1, .int x1), (2, .int (nI 0))]) (st' := []) rfl rfl ?_
  refine y_pure (pc' := 3) (st' := [.int (nI 0)]) rfl rfl ?_
  refine y_pure (pc' := 4) (ls' := [(0, .ref x0), (1, .int x1), (2, .int (nI 0)), (3, .int (nI 0))]) (st' := []) rfl rfl ?_
  refine zEx_sub ?_ h
  exact ⟨rfl, rfl, rfl, rfl, trivial⟩
theorem e_W_length {d : Nat}  {M : ZM} {r : ZR}  (h : some (some (.int (M.1 630 1)), M) = some r) : zEv (d + 1) zmW_length [.ref 630] M = some r := by
  rw [zEv_succ]
  show zEx0 (zEv d) zmW_length (0, [(0, .ref 630)], [], M) = some r
  refine y_pure (pc' := 1) (st' := [.ref 630]) rfl rfl ?_
  refine y_getf (pc' := 4) (v := .int (M.1 630 1)) rfl rfl rfl zc_630 rfl rfl ?_
  exact y_ret rfl rfl rfl rfl h
theorem e_W_byteAt {d : Nat} {x1 : Int32} {M : ZM} {r : ZR}  (h : (if x1 < (nI 0) then some (some (.int (-2 : Int32)), M) else (if x1 < (M.1 630 1) then (if x1 < (nI 1024) then (if zin x1 1024 = true then some (some (.int (M.1 631 (Int32.toNatClampNeg x1))), M) else none) else some (some (.int (-2 : Int32)), M)) else some (some (.int (-2 : Int32)), M))) = some r) : zEv (d + 1) zmW_byteAt [.ref 630, .int x1] M = some r := by
  rw [zEv_succ]
  show zEx0 (zEv d) zmW_byteAt (0, [(0, .ref 630), (1, .int x1)], [], M) = some r
  refine y_pure (pc' := 1) (st' := [.int x1]) rfl rfl ?_
  rcases zif_inv h with ⟨hc1, h⟩ | ⟨hc1, h⟩
  · refine y_cnd (pc' := 28) rfl rfl (zc_ltT hc1) rfl ?_
    refine y_pure (pc' := 30) (st' := [.int (-2 : Int32)]) rfl rfl ?_
    exact y_ret rfl rfl rfl rfl h
  · refine y_cnd (pc' := 4) rfl rfl (zc_ltF hc1) rfl ?_
    refine y_pure (pc' := 5) (st' := [.int x1]) rfl rfl ?_
    refine y_pure (pc' := 6) (st' := [.ref 630, .int x1]) rfl rfl ?_
    refine y_getf (pc' := 9) (v := .int (M.1 630 1)) rfl rfl rfl zc_630 rfl rfl ?_
    rcases zif_inv h with ⟨hc2, h⟩ | ⟨hc2, h⟩
    · refine y_cmp (pc' := 12) rfl rfl (zc_geF hc2) rfl ?_
      refine y_pure (pc' := 13) (st' := [.int x1]) rfl rfl ?_
      refine y_pure (pc' := 16) (st' := [.int (nI 1024), .int x1]) rfl rfl ?_
      rcases zif_inv h with ⟨hc3, h⟩ | ⟨hc3, h⟩
      · refine y_cmp (pc' := 19) rfl rfl (zc_geF hc3) rfl ?_
        refine y_pure (pc' := 20) (st' := [.ref 630]) rfl rfl ?_
        refine y_getf (pc' := 23) (v := .ref 631) rfl rfl rfl zc_630 rfl rfl ?_
        refine y_pure (pc' := 24) (st' := [.int x1, .ref 631]) rfl rfl ?_
        obtain ⟨hi4, h⟩ := zg_inv h
        refine y_iald (pc' := 25) rfl zc_631 hi4 rfl ?_
        refine y_pure (pc' := 30) rfl rfl ?_
        exact y_ret rfl rfl rfl rfl h
      · refine y_cmp (pc' := 28) rfl rfl (zc_geT hc3) rfl ?_
        refine y_pure (pc' := 30) (st' := [.int (-2 : Int32)]) rfl rfl ?_
        exact y_ret rfl rfl rfl rfl h
    · refine y_cmp (pc' := 28) rfl rfl (zc_geT hc2) rfl ?_
      refine y_pure (pc' := 30) (st' := [.int (-2 : Int32)]) rfl rfl ?_
      exact y_ret rfl rfl rfl rfl h
noncomputable def h_W_writeBoard_56 (d : Nat) (x1 : Nat) (x2 : Int32) (M : ZM) : Option ZR := zEx0 (zEv d) zmW_writeBoard (56, [(0, .ref 630), (1, .ref x1), (2, .int x2)], [], M)
noncomputable def h_W_writeBoard_84 (d : Nat) (x1 : Nat) (x2 : Int32) (M : ZM) : Option ZR := zEx0 (zEv d) zmW_writeBoard (84, [(0, .ref 630), (1, .ref x1), (2, .int x2)], [], M)
theorem e_W_writeBoard_56 {d : Nat} {x1 : Nat} {x2 : Int32} {M : ZM} {r : ZR} (hk1 : zkd x1 = (10, 0)) (h : (if x2 < (M.1 x1 3) then (if x2 < (nI 12) then zC0 (zEv d zmW_addCage [.ref 630, .ref x1, .int x2] M) (fun M4 => h_W_writeBoard_56 d x1 (x2 + (nI 1)) M4) else h_W_writeBoard_84 d x1 (nI 0) M) else h_W_writeBoard_84 d x1 (nI 0) M) = some r) : h_W_writeBoard_56 d x1 x2 M = some r := by
  show zEx0 (zEv d) zmW_writeBoard (56, [(0, .ref 630), (1, .ref x1), (2, .int x2)], [], M) = some r
  refine y_pure (pc' := 57) (st' := [.int x2]) rfl rfl ?_
  refine y_pure (pc' := 58) (st' := [.ref x1, .int x2]) rfl rfl ?_
  refine y_getf (pc' := 61) (v := .int (M.1 x1 3)) rfl rfl rfl hk1 rfl rfl ?_
  rcases zif_inv h with ⟨hc1, h⟩ | ⟨hc1, h⟩
  · refine y_cmp (pc' := 64) rfl rfl (zc_geF hc1) rfl ?_
    refine y_pure (pc' := 65) (st' := [.int x2]) rfl rfl ?_
    refine y_pure (pc' := 67) (st' := [.int (nI 12), .int x2]) rfl rfl ?_
    rcases zif_inv h with ⟨hc2, h⟩ | ⟨hc2, h⟩
    · refine y_cmp (pc' := 70) rfl rfl (zc_geF hc2) rfl ?_
      refine y_pure (pc' := 71) (st' := [.ref 630]) rfl rfl ?_
      refine y_pure (pc' := 72) (st' := [.ref x1, .ref 630]) rfl rfl ?_
      refine y_pure (pc' := 73) (st' := [.int x2, .ref x1, .ref 630]) rfl rfl ?_
      obtain ⟨M4, he3, h⟩ := zC0_inv h
      refine y_callV (pc' := 76) (y := zmW_addCage) (a' := [.ref x1, .int x2]) (st' := []) rfl rfl rfl rfl rfl (zrecv_o (o := 8) zc_630 rfl) rfl he3 rfl rfl ?_
      refine y_pure (pc' := 79) (ls' := [(0, .ref 630), (1, .ref x1), (2, .int (x2 + (nI 1)))]) (st' := []) rfl rfl ?_
      refine y_pure (pc' := 56) rfl rfl ?_
      refine zEx_sub ?_ h
      exact ⟨rfl, rfl, rfl, trivial⟩
    · refine y_cmp (pc' := 82) rfl rfl (zc_geT hc2) rfl ?_
      refine y_pure (pc' := 83) (st' := [.int (nI 0)]) rfl rfl ?_
      refine y_pure (pc' := 84) (ls' := [(0, .ref 630), (1, .ref x1), (2, .int (nI 0))]) (st' := []) rfl rfl ?_
      refine zEx_sub ?_ h
      exact ⟨rfl, rfl, rfl, trivial⟩
  · refine y_cmp (pc' := 82) rfl rfl (zc_geT hc1) rfl ?_
    refine y_pure (pc' := 83) (st' := [.int (nI 0)]) rfl rfl ?_
    refine y_pure (pc' := 84) (ls' := [(0, .ref 630), (1, .ref x1), (2, .int (nI 0))]) (st' := []) rfl rfl ?_
    refine zEx_sub ?_ h
    exact ⟨rfl, rfl, rfl, trivial⟩
theorem e_W_writeBoard_84 {d : Nat} {x1 : Nat} {x2 : Int32} {M : ZM} {r : ZR} (hk1 : zkd x1 = (10, 0)) (h : (if x2 < (nI 36) then zC1 (zEv d zmB_isGiven [.ref x1, .int x2] M) (fun v4 M3 => (if v4 = (nI 0) then h_W_writeBoard_84 d x1 (x2 + (nI 1)) M3 else zC0 (zEv d zmW_addSign [.ref 630, .int (nI 59)] M3) (fun M7 => zC0 (zEv d zmW_addWord [.ref 630, .ref 13] M7) (fun M9 => zC0 (zEv d zmW_addCell [.ref 630, .ref x1, .int x2] M9) (fun M11 => zC1 (zEv d zmB_digitOf [.ref x1, .int x2] M11) (fun v14 M13 => zC0 (zEv d zmW_addNumber [.ref 630, .int v14] M13) (fun M16 => h_W_writeBoard_84 d x1 (x2 + (nI 1)) M16))))))) else some (none, M)) = some r) : h_W_writeBoard_84 d x1 x2 M = some r := by
  show zEx0 (zEv d) zmW_writeBoard (84, [(0, .ref 630), (1, .ref x1), (2, .int x2)], [], M) = some r
  refine y_pure (pc' := 85) (st' := [.int x2]) rfl rfl ?_
  refine y_pure (pc' := 87) (st' := [.int (nI 36), .int x2]) rfl rfl ?_
  rcases zif_inv h with ⟨hc1, h⟩ | ⟨hc1, h⟩
  · refine y_cmp (pc' := 90) rfl rfl (zc_geF hc1) rfl ?_
    refine y_pure (pc' := 91) (st' := [.ref x1]) rfl rfl ?_
    refine y_pure (pc' := 92) (st' := [.int x2, .ref x1]) rfl rfl ?_
    obtain ⟨v4, M3, he2, h⟩ := zC1_inv h
    refine y_callV (pc' := 95) (y := zmB_isGiven) (a' := [.int x2]) (st' := []) rfl rfl rfl rfl rfl (zrecv_o (o := 0) hk1 rfl) rfl he2 rfl rfl ?_
    rcases zif_inv h with ⟨hc5, h⟩ | ⟨hc5, h⟩
    · refine y_cnd (pc' := 125) rfl rfl (zc_eqT hc5) rfl ?_
      refine y_pure (pc' := 128) (ls' := [(0, .ref 630), (1, .ref x1), (2, .int (x2 + (nI 1)))]) (st' := []) rfl rfl ?_
      refine y_pure (pc' := 84) rfl rfl ?_
      refine zEx_sub ?_ h
      exact ⟨rfl, rfl, rfl, trivial⟩
    · refine y_cnd (pc' := 98) rfl rfl (zc_eqF hc5) rfl ?_
      refine y_pure (pc' := 99) (st' := [.ref 630]) rfl rfl ?_
      refine y_pure (pc' := 101) (st' := [.int (nI 59), .ref 630]) rfl rfl ?_
      obtain ⟨M7, he6, h⟩ := zC0_inv h
      refine y_callV (pc' := 104) (y := zmW_addSign) (a' := [.int (nI 59)]) (st' := []) rfl rfl rfl rfl rfl (zrecv_o (o := 8) zc_630 rfl) rfl he6 rfl rfl ?_
      refine y_pure (pc' := 105) (st' := [.ref 630]) rfl rfl ?_
      refine y_ldcX (pc' := 107) (q := 13) rfl rfl rfl rfl ?_
      obtain ⟨M9, he8, h⟩ := zC0_inv h
      refine y_callV (pc' := 110) (y := zmW_addWord) (a' := [.ref 13]) (st' := []) rfl rfl rfl rfl rfl (zrecv_o (o := 8) zc_630 rfl) rfl he8 rfl rfl ?_
      refine y_pure (pc' := 111) (st' := [.ref 630]) rfl rfl ?_
      refine y_pure (pc' := 112) (st' := [.ref x1, .ref 630]) rfl rfl ?_
      refine y_pure (pc' := 113) (st' := [.int x2, .ref x1, .ref 630]) rfl rfl ?_
      obtain ⟨M11, he10, h⟩ := zC0_inv h
      refine y_callV (pc' := 116) (y := zmW_addCell) (a' := [.ref x1, .int x2]) (st' := []) rfl rfl rfl rfl rfl (zrecv_o (o := 8) zc_630 rfl) rfl he10 rfl rfl ?_
      refine y_pure (pc' := 117) (st' := [.ref 630]) rfl rfl ?_
      refine y_pure (pc' := 118) (st' := [.ref x1, .ref 630]) rfl rfl ?_
      refine y_pure (pc' := 119) (st' := [.int x2, .ref x1, .ref 630]) rfl rfl ?_
      obtain ⟨v14, M13, he12, h⟩ := zC1_inv h
      refine y_callV (pc' := 122) (y := zmB_digitOf) (a' := [.int x2]) (st' := [.ref 630]) rfl rfl rfl rfl rfl (zrecv_o (o := 0) hk1 rfl) rfl he12 rfl rfl ?_
      obtain ⟨M16, he15, h⟩ := zC0_inv h
      refine y_callV (pc' := 125) (y := zmW_addNumber) (a' := [.int v14]) (st' := []) rfl rfl rfl rfl rfl (zrecv_o (o := 8) zc_630 rfl) rfl he15 rfl rfl ?_
      refine y_pure (pc' := 128) (ls' := [(0, .ref 630), (1, .ref x1), (2, .int (x2 + (nI 1)))]) (st' := []) rfl rfl ?_
      refine y_pure (pc' := 84) rfl rfl ?_
      refine zEx_sub ?_ h
      exact ⟨rfl, rfl, rfl, trivial⟩
  · refine y_cmp (pc' := 131) rfl rfl (zc_geT hc1) rfl ?_
    exact y_ret rfl rfl rfl rfl h
theorem e_W_writeBoard {d : Nat} {x1 : Nat} {M : ZM} {r : ZR} (hk1 : zkd x1 = (10, 0)) (h : zC1 (zEv d zmB_isTold [.ref x1] (zpi M 630 1 (nI 0))) (fun v3 M2 => (if v3 = (nI 0) then some (none, M2) else zC0 (zEv d zmW_addWord [.ref 630, .ref 10] M2) (fun M6 => zC0 (zEv d zmW_addNumber [.ref 630, .int (M6.1 x1 0)] M6) (fun M8 => zC0 (zEv d zmW_addNumber [.ref 630, .int (M8.1 x1 1)] M8) (fun M10 => zC0 (zEv d zmW_addWord [.ref 630, .ref 17] M10) (fun M12 => zC0 (zEv d zmW_addNumber [.ref 630, .int (M12.1 x1 2)] M12) (fun M14 => zC0 (zEv d zmW_addBlocks [.ref 630, .ref x1] M14) (fun M16 => h_W_writeBoard_56 d x1 (nI 0) M16)))))))) = some r) : zEv (d + 1) zmW_writeBoard [.ref 630, .ref x1] M = some r := by
  rw [zEv_succ]
  show zEx0 (zEv d) zmW_writeBoard (0, [(0, .ref 630), (1, .ref x1)], [], M) = some r
  refine y_pure (pc' := 1) (st' := [.ref 630]) rfl rfl ?_
  refine y_pure (pc' := 2) (st' := [.int (nI 0), .ref 630]) rfl rfl ?_
  refine y_putI (pc' := 5) rfl rfl zc_630 rfl ?_
  refine y_pure (pc' := 6) (st' := [.ref x1]) rfl rfl ?_
  obtain ⟨v3, M2, he1, h⟩ := zC1_inv h
  refine y_callV (pc' := 9) (y := zmB_isTold) (a' := []) (st' := []) rfl rfl rfl rfl rfl (zrecv_o (o := 0) hk1 rfl) rfl he1 rfl rfl ?_
  rcases zif_inv h with ⟨hc4, h⟩ | ⟨hc4, h⟩
  · refine y_cnd (pc' := 12) rfl rfl (zc_neF hc4) rfl ?_
    exact y_ret rfl rfl rfl rfl h
  · refine y_cnd (pc' := 13) rfl rfl (zc_neT hc4) rfl ?_
    refine y_pure (pc' := 14) (st' := [.ref 630]) rfl rfl ?_
    refine y_ldcX (pc' := 16) (q := 10) rfl rfl rfl rfl ?_
    obtain ⟨M6, he5, h⟩ := zC0_inv h
    refine y_callV (pc' := 19) (y := zmW_addWord) (a' := [.ref 10]) (st' := []) rfl rfl rfl rfl rfl (zrecv_o (o := 8) zc_630 rfl) rfl he5 rfl rfl ?_
    refine y_pure (pc' := 20) (st' := [.ref 630]) rfl rfl ?_
    refine y_pure (pc' := 21) (st' := [.ref x1, .ref 630]) rfl rfl ?_
    refine y_getf (pc' := 24) (v := .int (M6.1 x1 0)) rfl rfl rfl hk1 rfl rfl ?_
    obtain ⟨M8, he7, h⟩ := zC0_inv h
    refine y_callV (pc' := 27) (y := zmW_addNumber) (a' := [.int (M6.1 x1 0)]) (st' := []) rfl rfl rfl rfl rfl (zrecv_o (o := 8) zc_630 rfl) rfl he7 rfl rfl ?_
    refine y_pure (pc' := 28) (st' := [.ref 630]) rfl rfl ?_
    refine y_pure (pc' := 29) (st' := [.ref x1, .ref 630]) rfl rfl ?_
    refine y_getf (pc' := 32) (v := .int (M8.1 x1 1)) rfl rfl rfl hk1 rfl rfl ?_
    obtain ⟨M10, he9, h⟩ := zC0_inv h
    refine y_callV (pc' := 35) (y := zmW_addNumber) (a' := [.int (M8.1 x1 1)]) (st' := []) rfl rfl rfl rfl rfl (zrecv_o (o := 8) zc_630 rfl) rfl he9 rfl rfl ?_
    refine y_pure (pc' := 36) (st' := [.ref 630]) rfl rfl ?_
    refine y_ldcX (pc' := 38) (q := 17) rfl rfl rfl rfl ?_
    obtain ⟨M12, he11, h⟩ := zC0_inv h
    refine y_callV (pc' := 41) (y := zmW_addWord) (a' := [.ref 17]) (st' := []) rfl rfl rfl rfl rfl (zrecv_o (o := 8) zc_630 rfl) rfl he11 rfl rfl ?_
    refine y_pure (pc' := 42) (st' := [.ref 630]) rfl rfl ?_
    refine y_pure (pc' := 43) (st' := [.ref x1, .ref 630]) rfl rfl ?_
    refine y_getf (pc' := 46) (v := .int (M12.1 x1 2)) rfl rfl rfl hk1 rfl rfl ?_
    obtain ⟨M14, he13, h⟩ := zC0_inv h
    refine y_callV (pc' := 49) (y := zmW_addNumber) (a' := [.int (M12.1 x1 2)]) (st' := []) rfl rfl rfl rfl rfl (zrecv_o (o := 8) zc_630 rfl) rfl he13 rfl rfl ?_
    refine y_pure (pc' := 50) (st' := [.ref 630]) rfl rfl ?_
    refine y_pure (pc' := 51) (st' := [.ref x1, .ref 630]) rfl rfl ?_
    obtain ⟨M16, he15, h⟩ := zC0_inv h
    refine y_callV (pc' := 54) (y := zmW_addBlocks) (a' := [.ref x1]) (st' := []) rfl rfl rfl rfl rfl (zrecv_o (o := 8) zc_630 rfl) rfl he15 rfl rfl ?_
    refine y_pure (pc' := 55) (st' := [.int (nI 0)]) rfl rfl ?_
    refine y_pure (pc' := 56) (ls' := [(0, .ref 630), (1, .ref x1), (2, .int (nI 0))]) (st' := []) rfl rfl ?_
    refine zEx_sub ?_ h
    exact ⟨rfl, rfl, rfl, trivial⟩
noncomputable def h_W_addBlocks_4 (d : Nat) (x1 : Nat) (x2 : Int32) (x3 : Int32) (M : ZM) : Option ZR := zEx0 (zEv d) zmW_addBlocks (4, [(0, .ref 630), (1, .ref x1), (2, .int x2), (3, .int x3)], [], M)
theorem e_W_addBlocks_4 {d : Nat} {x1 : Nat} {x2 : Int32} {x3 : Int32} {M : ZM} {r : ZR} (hk1 : zkd x1 = (10, 0)) (h : (if x3 < (nI 36) then zC1 (zEv d zmB_isCell [.ref x1, .int x3] M) (fun v4 M3 => (if v4 = (nI 0) then some (none, M3) else zC1 (zEv d zmB_isOpen [.ref x1, .int x3] M3) (fun v8 M7 => (if v8 = (nI 0) then (if x2 = (nI 0) then zC0 (zEv d zmW_addCell [.ref 630, .ref x1, .int x3] M7) (fun M12 => h_W_addBlocks_4 d x1 x2 (x3 + (nI 1)) M12) else zC0 (zEv d zmW_addSign [.ref 630, .int (nI 59)] M7) (fun M14 => zC0 (zEv d zmW_addWord [.ref 630, .ref 9] M14) (fun M16 => zC0 (zEv d zmW_addCell [.ref 630, .ref x1, .int x3] M16) (fun M18 => h_W_addBlocks_4 d x1 (nI 0) (x3 + (nI 1)) M18)))) else h_W_addBlocks_4 d x1 x2 (x3 + (nI 1)) M7)))) else some (none, M)) = some r) : h_W_addBlocks_4 d x1 x2 x3 M = some r := by
  show zEx0 (zEv d) zmW_addBlocks (4, [(0, .ref 630), (1, .ref x1), (2, .int x2), (3, .int x3)], [], M) = some r
  refine y_pure (pc' := 5) (st' := [.int x3]) rfl rfl ?_
  refine y_pure (pc' := 7) (st' := [.int (nI 36), .int x3]) rfl rfl ?_
  rcases zif_inv h with ⟨hc1, h⟩ | ⟨hc1, h⟩
  · refine y_cmp (pc' := 10) rfl rfl (zc_geF hc1) rfl ?_
    refine y_pure (pc' := 11) (st' := [.ref x1]) rfl rfl ?_
    refine y_pure (pc' := 12) (st' := [.int x3, .ref x1]) rfl rfl ?_
    obtain ⟨v4, M3, he2, h⟩ := zC1_inv h
    refine y_callV (pc' := 15) (y := zmB_isCell) (a' := [.int x3]) (st' := []) rfl rfl rfl rfl rfl (zrecv_o (o := 0) hk1 rfl) rfl he2 rfl rfl ?_
    rcases zif_inv h with ⟨hc5, h⟩ | ⟨hc5, h⟩
    · refine y_cnd (pc' := 56) rfl rfl (zc_eqT hc5) rfl ?_
      exact y_ret rfl rfl rfl rfl h
    · refine y_cnd (pc' := 18) rfl rfl (zc_eqF hc5) rfl ?_
      refine y_pure (pc' := 19) (st' := [.ref x1]) rfl rfl ?_
      refine y_pure (pc' := 20) (st' := [.int x3, .ref x1]) rfl rfl ?_
      obtain ⟨v8, M7, he6, h⟩ := zC1_inv h
      refine y_callV (pc' := 23) (y := zmB_isOpen) (a' := [.int x3]) (st' := []) rfl rfl rfl rfl rfl (zrecv_o (o := 0) hk1 rfl) rfl he6 rfl rfl ?_
      rcases zif_inv h with ⟨hc9, h⟩ | ⟨hc9, h⟩
      · refine y_cnd (pc' := 26) rfl rfl (zc_neF hc9) rfl ?_
        refine y_pure (pc' := 27) (st' := [.int x2]) rfl rfl ?_
        rcases zif_inv h with ⟨hc10, h⟩ | ⟨hc10, h⟩
        · refine y_cnd (pc' := 44) rfl rfl (zc_eqT hc10) rfl ?_
          refine y_pure (pc' := 45) (st' := [.ref 630]) rfl rfl ?_
          refine y_pure (pc' := 46) (st' := [.ref x1, .ref 630]) rfl rfl ?_
          refine y_pure (pc' := 47) (st' := [.int x3, .ref x1, .ref 630]) rfl rfl ?_
          obtain ⟨M12, he11, h⟩ := zC0_inv h
          refine y_callV (pc' := 50) (y := zmW_addCell) (a' := [.ref x1, .int x3]) (st' := []) rfl rfl rfl rfl rfl (zrecv_o (o := 8) zc_630 rfl) rfl he11 rfl rfl ?_
          refine y_pure (pc' := 53) (ls' := [(0, .ref 630), (1, .ref x1), (2, .int x2), (3, .int (x3 + (nI 1)))]) (st' := []) rfl rfl ?_
          refine y_pure (pc' := 4) rfl rfl ?_
          refine zEx_sub ?_ h
          exact ⟨rfl, rfl, rfl, rfl, trivial⟩
        · refine y_cnd (pc' := 30) rfl rfl (zc_eqF hc10) rfl ?_
          refine y_pure (pc' := 31) (st' := [.ref 630]) rfl rfl ?_
          refine y_pure (pc' := 33) (st' := [.int (nI 59), .ref 630]) rfl rfl ?_
          obtain ⟨M14, he13, h⟩ := zC0_inv h
          refine y_callV (pc' := 36) (y := zmW_addSign) (a' := [.int (nI 59)]) (st' := []) rfl rfl rfl rfl rfl (zrecv_o (o := 8) zc_630 rfl) rfl he13 rfl rfl ?_
          refine y_pure (pc' := 37) (st' := [.ref 630]) rfl rfl ?_
          refine y_ldcX (pc' := 39) (q := 9) rfl rfl rfl rfl ?_
          obtain ⟨M16, he15, h⟩ := zC0_inv h
          refine y_callV (pc' := 42) (y := zmW_addWord) (a' := [.ref 9]) (st' := []) rfl rfl rfl rfl rfl (zrecv_o (o := 8) zc_630 rfl) rfl he15 rfl rfl ?_
          refine y_pure (pc' := 43) (st' := [.int (nI 0)]) rfl rfl ?_
          refine y_pure (pc' := 44) (ls' := [(0, .ref 630), (1, .ref x1), (2, .int (nI 0)), (3, .int x3)]) (st' := []) rfl rfl ?_
          refine y_pure (pc' := 45) (st' := [.ref 630]) rfl rfl ?_
          refine y_pure (pc' := 46) (st' := [.ref x1, .ref 630]) rfl rfl ?_
          refine y_pure (pc' := 47) (st' := [.int x3, .ref x1, .ref 630]) rfl rfl ?_
          obtain ⟨M18, he17, h⟩ := zC0_inv h
          refine y_callV (pc' := 50) (y := zmW_addCell) (a' := [.ref x1, .int x3]) (st' := []) rfl rfl rfl rfl rfl (zrecv_o (o := 8) zc_630 rfl) rfl he17 rfl rfl ?_
          refine y_pure (pc' := 53) (ls' := [(0, .ref 630), (1, .ref x1), (2, .int (nI 0)), (3, .int (x3 + (nI 1)))]) (st' := []) rfl rfl ?_
          refine y_pure (pc' := 4) rfl rfl ?_
          refine zEx_sub ?_ h
          exact ⟨rfl, rfl, rfl, rfl, trivial⟩
      · refine y_cnd (pc' := 50) rfl rfl (zc_neT hc9) rfl ?_
        refine y_pure (pc' := 53) (ls' := [(0, .ref 630), (1, .ref x1), (2, .int x2), (3, .int (x3 + (nI 1)))]) (st' := []) rfl rfl ?_
        refine y_pure (pc' := 4) rfl rfl ?_
        refine zEx_sub ?_ h
        exact ⟨rfl, rfl, rfl, rfl, trivial⟩
  · refine y_cmp (pc' := 56) rfl rfl (zc_geT hc1) rfl ?_
    exact y_ret rfl rfl rfl rfl h
theorem e_W_addBlocks {d : Nat} {x1 : Nat} {M : ZM} {r : ZR} (hk1 : zkd x1 = (10, 0)) (h : h_W_addBlocks_4 d x1 (nI 1) (nI 0) M = some r) : zEv (d + 1) zmW_addBlocks [.ref 630, .ref x1] M = some r := by
  rw [zEv_succ]
  show zEx0 (zEv d) zmW_addBlocks (0, [(0, .ref 630), (1, .ref x1)], [], M) = some r
  refine y_pure (pc' := 1) (st' := [.int (nI 1)]) rfl rfl ?_
  refine y_pure (pc' := 2) (ls' := [(0, .ref 630), (1, .ref x1), (2, .int (nI 1))]) (st' := []) rfl rfl ?_
  refine y_pure (pc' := 3) (st' := [.int (nI 0)]) rfl rfl ?_
  refine y_pure (pc' := 4) (ls' := [(0, .ref 630), (1, .ref x1), (2, .int (nI 1)), (3, .int (nI 0))]) (st' := []) rfl rfl ?_
  refine zEx_sub ?_ h
  exact ⟨rfl, rfl, rfl, rfl, trivial⟩
noncomputable def h_W_addCage_77 (d : Nat) (x1 : Nat) (x2 : Int32) (M : ZM) : Option ZR := zEx0 (zEv d) zmW_addCage (77, [(0, .ref 630), (1, .ref x1), (2, .int x2)], [], M)
noncomputable def h_W_addCage_113 (d : Nat) (x1 : Nat) (x2 : Int32) (x3 : Int32) (M : ZM) : Option ZR := zEx0 (zEv d) zmW_addCage (113, [(0, .ref 630), (1, .ref x1), (2, .int x2), (3, .int x3)], [], M)
theorem e_W_addCage_77 {d : Nat} {x1 : Nat} {x2 : Int32} {M : ZM} {r : ZR} (hk1 : zkd x1 = (10, 0)) (h : (if zin x2 12 = true then (if (M.1 (x1 + 2) (Int32.toNatClampNeg x2)) = (nI 3) then zC1 (zEv d zmB_isAlike [.ref x1, .int x2] M) (fun v5 M4 => (if v5 = (nI 0) then h_W_addCage_113 d x1 x2 (nI 0) M4 else zC0 (zEv d zmW_addWord [.ref 630, .ref 7] M4) (fun M8 => h_W_addCage_113 d x1 x2 (nI 0) M8))) else zC0 (zEv d zmW_addNumber [.ref 630, .int (M.1 (x1 + 3) (Int32.toNatClampNeg x2))] M) (fun M10 => zC1 (zEv d zmB_isAlike [.ref x1, .int x2] M10) (fun v13 M12 => (if v13 = (nI 0) then h_W_addCage_113 d x1 x2 (nI 0) M12 else zC0 (zEv d zmW_addWord [.ref 630, .ref 7] M12) (fun M16 => h_W_addCage_113 d x1 x2 (nI 0) M16))))) else none) = some r) : h_W_addCage_77 d x1 x2 M = some r := by
  show zEx0 (zEv d) zmW_addCage (77, [(0, .ref 630), (1, .ref x1), (2, .int x2)], [], M) = some r
  refine y_pure (pc' := 78) (st' := [.ref x1]) rfl rfl ?_
  refine y_getf (pc' := 81) (v := .ref (x1 + 2)) rfl rfl rfl hk1 rfl rfl ?_
  refine y_pure (pc' := 82) (st' := [.int x2, .ref (x1 + 2)]) rfl rfl ?_
  obtain ⟨hi1, h⟩ := zg_inv h
  refine y_iald (pc' := 83) rfl (zf_0_9 hk1) hi1 rfl ?_
  refine y_pure (pc' := 84) (st' := [.int (nI 3), .int (M.1 (x1 + 2) (Int32.toNatClampNeg x2))]) rfl rfl ?_
  rcases zif_inv h with ⟨hc2, h⟩ | ⟨hc2, h⟩
  · refine y_cmp (pc' := 97) rfl rfl (zc_eqT hc2) rfl ?_
    refine y_pure (pc' := 98) (st' := [.ref x1]) rfl rfl ?_
    refine y_pure (pc' := 99) (st' := [.int x2, .ref x1]) rfl rfl ?_
    obtain ⟨v5, M4, he3, h⟩ := zC1_inv h
    refine y_callV (pc' := 102) (y := zmB_isAlike) (a' := [.int x2]) (st' := []) rfl rfl rfl rfl rfl (zrecv_o (o := 0) hk1 rfl) rfl he3 rfl rfl ?_
    rcases zif_inv h with ⟨hc6, h⟩ | ⟨hc6, h⟩
    · refine y_cnd (pc' := 111) rfl rfl (zc_eqT hc6) rfl ?_
      refine y_pure (pc' := 112) (st' := [.int (nI 0)]) rfl rfl ?_
      refine y_pure (pc' := 113) (ls' := [(0, .ref 630), (1, .ref x1), (2, .int x2), (3, .int (nI 0))]) (st' := []) rfl rfl ?_
      refine zEx_sub ?_ h
      exact ⟨rfl, rfl, rfl, rfl, trivial⟩
    · refine y_cnd (pc' := 105) rfl rfl (zc_eqF hc6) rfl ?_
      refine y_pure (pc' := 106) (st' := [.ref 630]) rfl rfl ?_
      refine y_ldcX (pc' := 108) (q := 7) rfl rfl rfl rfl ?_
      obtain ⟨M8, he7, h⟩ := zC0_inv h
      refine y_callV (pc' := 111) (y := zmW_addWord) (a' := [.ref 7]) (st' := []) rfl rfl rfl rfl rfl (zrecv_o (o := 8) zc_630 rfl) rfl he7 rfl rfl ?_
      refine y_pure (pc' := 112) (st' := [.int (nI 0)]) rfl rfl ?_
      refine y_pure (pc' := 113) (ls' := [(0, .ref 630), (1, .ref x1), (2, .int x2), (3, .int (nI 0))]) (st' := []) rfl rfl ?_
      refine zEx_sub ?_ h
      exact ⟨rfl, rfl, rfl, rfl, trivial⟩
  · refine y_cmp (pc' := 87) rfl rfl (zc_eqF hc2) rfl ?_
    refine y_pure (pc' := 88) (st' := [.ref 630]) rfl rfl ?_
    refine y_pure (pc' := 89) (st' := [.ref x1, .ref 630]) rfl rfl ?_
    refine y_getf (pc' := 92) (v := .ref (x1 + 3)) rfl rfl rfl hk1 rfl rfl ?_
    refine y_pure (pc' := 93) (st' := [.int x2, .ref (x1 + 3), .ref 630]) rfl rfl ?_
    refine y_iald (pc' := 94) rfl (zf_0_10 hk1) hi1 rfl ?_
    obtain ⟨M10, he9, h⟩ := zC0_inv h
    refine y_callV (pc' := 97) (y := zmW_addNumber) (a' := [.int (M.1 (x1 + 3) (Int32.toNatClampNeg x2))]) (st' := []) rfl rfl rfl rfl rfl (zrecv_o (o := 8) zc_630 rfl) rfl he9 rfl rfl ?_
    refine y_pure (pc' := 98) (st' := [.ref x1]) rfl rfl ?_
    refine y_pure (pc' := 99) (st' := [.int x2, .ref x1]) rfl rfl ?_
    obtain ⟨v13, M12, he11, h⟩ := zC1_inv h
    refine y_callV (pc' := 102) (y := zmB_isAlike) (a' := [.int x2]) (st' := []) rfl rfl rfl rfl rfl (zrecv_o (o := 0) hk1 rfl) rfl he11 rfl rfl ?_
    rcases zif_inv h with ⟨hc14, h⟩ | ⟨hc14, h⟩
    · refine y_cnd (pc' := 111) rfl rfl (zc_eqT hc14) rfl ?_
      refine y_pure (pc' := 112) (st' := [.int (nI 0)]) rfl rfl ?_
      refine y_pure (pc' := 113) (ls' := [(0, .ref 630), (1, .ref x1), (2, .int x2), (3, .int (nI 0))]) (st' := []) rfl rfl ?_
      refine zEx_sub ?_ h
      exact ⟨rfl, rfl, rfl, rfl, trivial⟩
    · refine y_cnd (pc' := 105) rfl rfl (zc_eqF hc14) rfl ?_
      refine y_pure (pc' := 106) (st' := [.ref 630]) rfl rfl ?_
      refine y_ldcX (pc' := 108) (q := 7) rfl rfl rfl rfl ?_
      obtain ⟨M16, he15, h⟩ := zC0_inv h
      refine y_callV (pc' := 111) (y := zmW_addWord) (a' := [.ref 7]) (st' := []) rfl rfl rfl rfl rfl (zrecv_o (o := 8) zc_630 rfl) rfl he15 rfl rfl ?_
      refine y_pure (pc' := 112) (st' := [.int (nI 0)]) rfl rfl ?_
      refine y_pure (pc' := 113) (ls' := [(0, .ref 630), (1, .ref x1), (2, .int x2), (3, .int (nI 0))]) (st' := []) rfl rfl ?_
      refine zEx_sub ?_ h
      exact ⟨rfl, rfl, rfl, rfl, trivial⟩
theorem e_W_addCage_113 {d : Nat} {x1 : Nat} {x2 : Int32} {x3 : Int32} {M : ZM} {r : ZR} (hk1 : zkd x1 = (10, 0)) (h : (if zin x2 12 = true then (if x3 < (M.1 (x1 + 4) (Int32.toNatClampNeg x2)) then (if x3 < (nI 6) then (if zin x3 6 = true then zC0 (zEv d zmW_addCell [.ref 630, .ref x1, .int (M.1 (x1 + 7 + (Int32.toNatClampNeg x2)) (Int32.toNatClampNeg x3))] M) (fun M6 => h_W_addCage_113 d x1 x2 (x3 + (nI 1)) M6) else none) else some (none, M)) else some (none, M)) else none) = some r) : h_W_addCage_113 d x1 x2 x3 M = some r := by
  show zEx0 (zEv d) zmW_addCage (113, [(0, .ref 630), (1, .ref x1), (2, .int x2), (3, .int x3)], [], M) = some r
  refine y_pure (pc' := 114) (st' := [.int x3]) rfl rfl ?_
  refine y_pure (pc' := 115) (st' := [.ref x1, .int x3]) rfl rfl ?_
  refine y_getf (pc' := 118) (v := .ref (x1 + 4)) rfl rfl rfl hk1 rfl rfl ?_
  refine y_pure (pc' := 119) (st' := [.int x2, .ref (x1 + 4), .int x3]) rfl rfl ?_
  obtain ⟨hi1, h⟩ := zg_inv h
  refine y_iald (pc' := 120) rfl (zf_0_11 hk1) hi1 rfl ?_
  rcases zif_inv h with ⟨hc2, h⟩ | ⟨hc2, h⟩
  · refine y_cmp (pc' := 123) rfl rfl (zc_geF hc2) rfl ?_
    refine y_pure (pc' := 124) (st' := [.int x3]) rfl rfl ?_
    refine y_pure (pc' := 126) (st' := [.int (nI 6), .int x3]) rfl rfl ?_
    rcases zif_inv h with ⟨hc3, h⟩ | ⟨hc3, h⟩
    · refine y_cmp (pc' := 129) rfl rfl (zc_geF hc3) rfl ?_
      refine y_pure (pc' := 130) (st' := [.ref 630]) rfl rfl ?_
      refine y_pure (pc' := 131) (st' := [.ref x1, .ref 630]) rfl rfl ?_
      refine y_pure (pc' := 132) (st' := [.ref x1, .ref x1, .ref 630]) rfl rfl ?_
      refine y_getf (pc' := 135) (v := .ref (x1 + 6)) rfl rfl rfl hk1 rfl rfl ?_
      refine y_pure (pc' := 136) (st' := [.int x2, .ref (x1 + 6), .ref x1, .ref 630]) rfl rfl ?_
      refine y_aald (pc' := 137) (q' := x1 + 7 + (Int32.toNatClampNeg x2)) rfl (zf_0_13 hk1) hi1 (congrArg (HAdd.hAdd (x1 + 7)) (Nat.one_mul _)) rfl ?_
      refine y_pure (pc' := 138) (st' := [.int x3, .ref (x1 + 7 + (Int32.toNatClampNeg x2)), .ref x1, .ref 630]) rfl rfl ?_
      obtain ⟨hi4, h⟩ := zg_inv h
      refine y_iald (pc' := 139) rfl (zl_0 (zf_0_13 hk1) hi1) hi4 rfl ?_
      obtain ⟨M6, he5, h⟩ := zC0_inv h
      refine y_callV (pc' := 142) (y := zmW_addCell) (a' := [.ref x1, .int (M.1 (x1 + 7 + (Int32.toNatClampNeg x2)) (Int32.toNatClampNeg x3))]) (st' := []) rfl rfl rfl rfl rfl (zrecv_o (o := 8) zc_630 rfl) rfl he5 rfl rfl ?_
      refine y_pure (pc' := 145) (ls' := [(0, .ref 630), (1, .ref x1), (2, .int x2), (3, .int (x3 + (nI 1)))]) (st' := []) rfl rfl ?_
      refine y_pure (pc' := 113) rfl rfl ?_
      refine zEx_sub ?_ h
      exact ⟨rfl, rfl, rfl, rfl, trivial⟩
    · refine y_cmp (pc' := 148) rfl rfl (zc_geT hc3) rfl ?_
      exact y_ret rfl rfl rfl rfl h
  · refine y_cmp (pc' := 148) rfl rfl (zc_geT hc2) rfl ?_
    exact y_ret rfl rfl rfl rfl h
theorem e_W_addCage {d : Nat} {x1 : Nat} {x2 : Int32} {M : ZM} {r : ZR} (hk1 : zkd x1 = (10, 0)) (h : zC0 (zEv d zmW_addSign [.ref 630, .int (nI 59)] M) (fun M2 => zC0 (zEv d zmW_addWord [.ref 630, .ref 11] M2) (fun M4 => (if zin x2 12 = true then (if (M4.1 (x1 + 2) (Int32.toNatClampNeg x2)) = (nI 0) then zC0 (zEv d zmW_addWord [.ref 630, .ref 16] M4) (fun M10 => h_W_addCage_77 d x1 x2 M10) else (if (M4.1 (x1 + 2) (Int32.toNatClampNeg x2)) = (nI 1) then zC0 (zEv d zmW_addWord [.ref 630, .ref 14] M4) (fun M12 => h_W_addCage_77 d x1 x2 M12) else (if (M4.1 (x1 + 2) (Int32.toNatClampNeg x2)) = (nI 2) then zC0 (zEv d zmW_addWord [.ref 630, .ref 15] M4) (fun M14 => h_W_addCage_77 d x1 x2 M14) else zC0 (zEv d zmW_addWord [.ref 630, .ref 8] M4) (fun M16 => h_W_addCage_77 d x1 x2 M16)))) else none))) = some r) : zEv (d + 1) zmW_addCage [.ref 630, .ref x1, .int x2] M = some r := by
  rw [zEv_succ]
  show zEx0 (zEv d) zmW_addCage (0, [(0, .ref 630), (1, .ref x1), (2, .int x2)], [], M) = some r
  refine y_pure (pc' := 1) (st' := [.ref 630]) rfl rfl ?_
  refine y_pure (pc' := 3) (st' := [.int (nI 59), .ref 630]) rfl rfl ?_
  obtain ⟨M2, he1, h⟩ := zC0_inv h
  refine y_callV (pc' := 6) (y := zmW_addSign) (a' := [.int (nI 59)]) (st' := []) rfl rfl rfl rfl rfl (zrecv_o (o := 8) zc_630 rfl) rfl he1 rfl rfl ?_
  refine y_pure (pc' := 7) (st' := [.ref 630]) rfl rfl ?_
  refine y_ldcX (pc' := 9) (q := 11) rfl rfl rfl rfl ?_
  obtain ⟨M4, he3, h⟩ := zC0_inv h
  refine y_callV (pc' := 12) (y := zmW_addWord) (a' := [.ref 11]) (st' := []) rfl rfl rfl rfl rfl (zrecv_o (o := 8) zc_630 rfl) rfl he3 rfl rfl ?_
  refine y_pure (pc' := 13) (st' := [.ref x1]) rfl rfl ?_
  refine y_getf (pc' := 16) (v := .ref (x1 + 2)) rfl rfl rfl hk1 rfl rfl ?_
  refine y_pure (pc' := 17) (st' := [.int x2, .ref (x1 + 2)]) rfl rfl ?_
  obtain ⟨hi5, h⟩ := zg_inv h
  refine y_iald (pc' := 18) rfl (zf_0_9 hk1) hi5 rfl ?_
  rcases zif_inv h with ⟨hc6, h⟩ | ⟨hc6, h⟩
  · refine y_sw (k := 0) (t := 44) rfl (by rw [hc6]; decide) (by decide) rfl rfl ?_
    refine y_pure (pc' := 45) (st' := [.ref 630]) rfl rfl ?_
    refine y_ldcX (pc' := 47) (q := 16) rfl rfl rfl rfl ?_
    obtain ⟨M10, he9, h⟩ := zC0_inv h
    refine y_callV (pc' := 50) (y := zmW_addWord) (a' := [.ref 16]) (st' := []) rfl rfl rfl rfl rfl (zrecv_o (o := 8) zc_630 rfl) rfl he9 rfl rfl ?_
    refine y_pure (pc' := 77) rfl rfl ?_
    refine zEx_sub ?_ h
    exact ⟨rfl, rfl, rfl, trivial⟩
  · rcases zif_inv h with ⟨hc7, h⟩ | ⟨hc7, h⟩
    · refine y_sw (k := 1) (t := 53) rfl (by rw [hc7]; decide) (by decide) rfl rfl ?_
      refine y_pure (pc' := 54) (st' := [.ref 630]) rfl rfl ?_
      refine y_ldcX (pc' := 56) (q := 14) rfl rfl rfl rfl ?_
      obtain ⟨M12, he11, h⟩ := zC0_inv h
      refine y_callV (pc' := 59) (y := zmW_addWord) (a' := [.ref 14]) (st' := []) rfl rfl rfl rfl rfl (zrecv_o (o := 8) zc_630 rfl) rfl he11 rfl rfl ?_
      refine y_pure (pc' := 77) rfl rfl ?_
      refine zEx_sub ?_ h
      exact ⟨rfl, rfl, rfl, trivial⟩
    · rcases zif_inv h with ⟨hc8, h⟩ | ⟨hc8, h⟩
      · refine y_sw (k := 2) (t := 62) rfl (by rw [hc8]; decide) (by decide) rfl rfl ?_
        refine y_pure (pc' := 63) (st' := [.ref 630]) rfl rfl ?_
        refine y_ldcX (pc' := 65) (q := 15) rfl rfl rfl rfl ?_
        obtain ⟨M14, he13, h⟩ := zC0_inv h
        refine y_callV (pc' := 68) (y := zmW_addWord) (a' := [.ref 15]) (st' := []) rfl rfl rfl rfl rfl (zrecv_o (o := 8) zc_630 rfl) rfl he13 rfl rfl ?_
        refine y_pure (pc' := 77) rfl rfl ?_
        refine zEx_sub ?_ h
        exact ⟨rfl, rfl, rfl, trivial⟩
      · refine y_swD (t := 71) rfl (by have q0 := zsw_ne (k := 0) (by decide) hc6; have q1 := zsw_ne (k := 1) (by decide) hc7; have q2 := zsw_ne (k := 2) (by decide) hc8; omega) rfl ?_
        refine y_pure (pc' := 72) (st' := [.ref 630]) rfl rfl ?_
        refine y_ldcX (pc' := 74) (q := 8) rfl rfl rfl rfl ?_
        obtain ⟨M16, he15, h⟩ := zC0_inv h
        refine y_callV (pc' := 77) (y := zmW_addWord) (a' := [.ref 8]) (st' := []) rfl rfl rfl rfl rfl (zrecv_o (o := 8) zc_630 rfl) rfl he15 rfl rfl ?_
        refine zEx_sub ?_ h
        exact ⟨rfl, rfl, rfl, trivial⟩
theorem e_W_addCell {d : Nat} {x1 : Nat} {x2 : Int32} {M : ZM} {r : ZR} (hk1 : zkd x1 = (10, 0)) (h : (if (nI 0) < (M.1 x1 0) then zC0 (zEv d zmW_addBlank [.ref 630] M) (fun M3 => (if (M3.1 x1 0) = nI 0 then none else zC0 (zEv d zmW_addSign [.ref 630, .int ((nI 97) + (x2 - x2 / (M3.1 x1 0) * (M3.1 x1 0)))] M3) (fun M6 => (if (M6.1 x1 0) = nI 0 then none else zC0 (zEv d zmW_addSign [.ref 630, .int ((nI 49) + (x2 / (M6.1 x1 0)))] M6) (fun M9 => some (none, M9)))))) else some (none, M)) = some r) : zEv (d + 1) zmW_addCell [.ref 630, .ref x1, .int x2] M = some r := by
  rw [zEv_succ]
  show zEx0 (zEv d) zmW_addCell (0, [(0, .ref 630), (1, .ref x1), (2, .int x2)], [], M) = some r
  refine y_pure (pc' := 1) (st' := [.ref x1]) rfl rfl ?_
  refine y_getf (pc' := 4) (v := .int (M.1 x1 0)) rfl rfl rfl hk1 rfl rfl ?_
  rcases zif_inv h with ⟨hc1, h⟩ | ⟨hc1, h⟩
  · refine y_cnd (pc' := 7) rfl rfl (zc_leF hc1) rfl ?_
    refine y_pure (pc' := 8) (st' := [.ref 630]) rfl rfl ?_
    obtain ⟨M3, he2, h⟩ := zC0_inv h
    refine y_callV (pc' := 11) (y := zmW_addBlank) (a' := []) (st' := []) rfl rfl rfl rfl rfl (zrecv_o (o := 8) zc_630 rfl) rfl he2 rfl rfl ?_
    refine y_pure (pc' := 12) (st' := [.ref 630]) rfl rfl ?_
    refine y_pure (pc' := 14) (st' := [.int (nI 97), .ref 630]) rfl rfl ?_
    refine y_pure (pc' := 15) (st' := [.int x2, .int (nI 97), .ref 630]) rfl rfl ?_
    refine y_pure (pc' := 16) (st' := [.ref x1, .int x2, .int (nI 97), .ref 630]) rfl rfl ?_
    refine y_getf (pc' := 19) (v := .int (M3.1 x1 0)) rfl rfl rfl hk1 rfl rfl ?_
    obtain ⟨hb4, h⟩ := zd_inv h
    refine y_irem (pc' := 20) (st := [.int (nI 97), .ref 630]) rfl hb4 rfl ?_
    refine y_pure (pc' := 21) (st' := [.int ((nI 97) + (x2 - x2 / (M3.1 x1 0) * (M3.1 x1 0))), .ref 630]) rfl rfl ?_
    obtain ⟨M6, he5, h⟩ := zC0_inv h
    refine y_callV (pc' := 24) (y := zmW_addSign) (a' := [.int ((nI 97) + (x2 - x2 / (M3.1 x1 0) * (M3.1 x1 0)))]) (st' := []) rfl rfl rfl rfl rfl (zrecv_o (o := 8) zc_630 rfl) rfl he5 rfl rfl ?_
    refine y_pure (pc' := 25) (st' := [.ref 630]) rfl rfl ?_
    refine y_pure (pc' := 27) (st' := [.int (nI 49), .ref 630]) rfl rfl ?_
    refine y_pure (pc' := 28) (st' := [.int x2, .int (nI 49), .ref 630]) rfl rfl ?_
    refine y_pure (pc' := 29) (st' := [.ref x1, .int x2, .int (nI 49), .ref 630]) rfl rfl ?_
    refine y_getf (pc' := 32) (v := .int (M6.1 x1 0)) rfl rfl rfl hk1 rfl rfl ?_
    obtain ⟨hb7, h⟩ := zd_inv h
    refine y_idiv (pc' := 33) (st := [.int (nI 49), .ref 630]) rfl hb7 rfl ?_
    refine y_pure (pc' := 34) (st' := [.int ((nI 49) + (x2 / (M6.1 x1 0))), .ref 630]) rfl rfl ?_
    obtain ⟨M9, he8, h⟩ := zC0_inv h
    refine y_callV (pc' := 37) (y := zmW_addSign) (a' := [.int ((nI 49) + (x2 / (M6.1 x1 0)))]) (st' := []) rfl rfl rfl rfl rfl (zrecv_o (o := 8) zc_630 rfl) rfl he8 rfl rfl ?_
    exact y_ret rfl rfl rfl rfl h
  · refine y_cnd (pc' := 37) rfl rfl (zc_leT hc1) rfl ?_
    exact y_ret rfl rfl rfl rfl h
noncomputable def h_W_addWord_6 (d : Nat) (x1 : Nat) (x2 : Int32) (M : ZM) : Option ZR := zEx0 (zEv d) zmW_addWord (6, [(0, .ref 630), (1, .ref x1), (2, .int x2)], [], M)
theorem e_W_addWord_6 {d : Nat} {x1 : Nat} {w1 : Nat} {x2 : Int32} {M : ZM} {r : ZR} (hk1 : zkd x1 = (7, w1)) (h : zC1 (zEv d zmJS_length [.ref x1] M) (fun v3 M2 => (if x2 < v3 then zC1 (zEv d zmJS_charAt [.ref x1, .int x2] M2) (fun v7 M6 => zC0 (zEv d zmW_addSign [.ref 630, .int v7] M6) (fun M9 => h_W_addWord_6 d x1 (x2 + (nI 1)) M9)) else some (none, M2))) = some r) : h_W_addWord_6 d x1 x2 M = some r := by
  show zEx0 (zEv d) zmW_addWord (6, [(0, .ref 630), (1, .ref x1), (2, .int x2)], [], M) = some r
  refine y_pure (pc' := 7) (st' := [.int x2]) rfl rfl ?_
  refine y_pure (pc' := 8) (st' := [.ref x1, .int x2]) rfl rfl ?_
  obtain ⟨v3, M2, he1, h⟩ := zC1_inv h
  refine y_callV (pc' := 11) (y := zmJS_length) (a' := []) (st' := [.int x2]) rfl rfl rfl rfl rfl (zrecv_s (zkt7 hk1)) rfl he1 rfl rfl ?_
  rcases zif_inv h with ⟨hc4, h⟩ | ⟨hc4, h⟩
  · refine y_cmp (pc' := 14) rfl rfl (zc_geF hc4) rfl ?_
    refine y_pure (pc' := 15) (st' := [.ref 630]) rfl rfl ?_
    refine y_pure (pc' := 16) (st' := [.ref x1, .ref 630]) rfl rfl ?_
    refine y_pure (pc' := 17) (st' := [.int x2, .ref x1, .ref 630]) rfl rfl ?_
    obtain ⟨v7, M6, he5, h⟩ := zC1_inv h
    refine y_callV (pc' := 20) (y := zmJS_charAt) (a' := [.int x2]) (st' := [.ref 630]) rfl rfl rfl rfl rfl (zrecv_s (zkt7 hk1)) rfl he5 rfl rfl ?_
    obtain ⟨M9, he8, h⟩ := zC0_inv h
    refine y_callV (pc' := 23) (y := zmW_addSign) (a' := [.int v7]) (st' := []) rfl rfl rfl rfl rfl (zrecv_o (o := 8) zc_630 rfl) rfl he8 rfl rfl ?_
    refine y_pure (pc' := 26) (ls' := [(0, .ref 630), (1, .ref x1), (2, .int (x2 + (nI 1)))]) (st' := []) rfl rfl ?_
    refine y_pure (pc' := 6) rfl rfl ?_
    refine zEx_sub ?_ h
    exact ⟨rfl, rfl, rfl, trivial⟩
  · refine y_cmp (pc' := 29) rfl rfl (zc_geT hc4) rfl ?_
    exact y_ret rfl rfl rfl rfl h
theorem e_W_addWord {d : Nat} {x1 w1 : Nat} {M : ZM} {r : ZR} (hk1 : zkd x1 = (7, w1)) (h : zC0 (zEv d zmW_addBlank [.ref 630] M) (fun M2 => h_W_addWord_6 d x1 (nI 0) M2) = some r) : zEv (d + 1) zmW_addWord [.ref 630, .ref x1] M = some r := by
  rw [zEv_succ]
  show zEx0 (zEv d) zmW_addWord (0, [(0, .ref 630), (1, .ref x1)], [], M) = some r
  refine y_pure (pc' := 1) (st' := [.ref 630]) rfl rfl ?_
  obtain ⟨M2, he1, h⟩ := zC0_inv h
  refine y_callV (pc' := 4) (y := zmW_addBlank) (a' := []) (st' := []) rfl rfl rfl rfl rfl (zrecv_o (o := 8) zc_630 rfl) rfl he1 rfl rfl ?_
  refine y_pure (pc' := 5) (st' := [.int (nI 0)]) rfl rfl ?_
  refine y_pure (pc' := 6) (ls' := [(0, .ref 630), (1, .ref x1), (2, .int (nI 0))]) (st' := []) rfl rfl ?_
  refine zEx_sub ?_ h
  exact ⟨rfl, rfl, rfl, trivial⟩
noncomputable def h_W_addNumber_9 (d : Nat) (x1 : Int32) (x2 : Int32) (x3 : Int32) (M : ZM) : Option ZR := zEx0 (zEv d) zmW_addNumber (9, [(0, .ref 630), (1, .int x1), (2, .int x2), (3, .int x3)], [], M)
noncomputable def h_W_addNumber_28 (d : Nat) (x1 : Int32) (x3 : Int32) (M : ZM) : Option ZR := zEx0 (zEv d) zmW_addNumber (28, [(0, .ref 630), (1, .int x1), (3, .int x3)], [], M)
theorem e_W_addNumber_9 {d : Nat} {x1 : Int32} {x2 : Int32} {x3 : Int32} {M : ZM} {r : ZR}  (h : (if x3 < (nI 1) then some (none, M) else (if x2 = (nI 0) then (if x1 < x3 then (if x3 = (nI 1) then h_W_addNumber_28 d x1 x3 M else h_W_addNumber_9 d x1 (nI 0) (x3 / (nI 10)) M) else h_W_addNumber_28 d x1 x3 M) else h_W_addNumber_28 d x1 x3 M)) = some r) : h_W_addNumber_9 d x1 x2 x3 M = some r := by
  show zEx0 (zEv d) zmW_addNumber (9, [(0, .ref 630), (1, .int x1), (2, .int x2), (3, .int x3)], [], M) = some r
  refine y_pure (pc' := 10) (st' := [.int x3]) rfl rfl ?_
  refine y_pure (pc' := 11) (st' := [.int (nI 1), .int x3]) rfl rfl ?_
  rcases zif_inv h with ⟨hc1, h⟩ | ⟨hc1, h⟩
  · refine y_cmp (pc' := 59) rfl rfl (zc_ltT hc1) rfl ?_
    exact y_ret rfl rfl rfl rfl h
  · refine y_cmp (pc' := 14) rfl rfl (zc_ltF hc1) rfl ?_
    refine y_pure (pc' := 15) (st' := [.int x2]) rfl rfl ?_
    rcases zif_inv h with ⟨hc2, h⟩ | ⟨hc2, h⟩
    · refine y_cnd (pc' := 18) rfl rfl (zc_neF hc2) rfl ?_
      refine y_pure (pc' := 19) (st' := [.int x1]) rfl rfl ?_
      refine y_pure (pc' := 20) (st' := [.int x3, .int x1]) rfl rfl ?_
      rcases zif_inv h with ⟨hc3, h⟩ | ⟨hc3, h⟩
      · refine y_cmp (pc' := 23) rfl rfl (zc_geF hc3) rfl ?_
        refine y_pure (pc' := 24) (st' := [.int x3]) rfl rfl ?_
        refine y_pure (pc' := 25) (st' := [.int (nI 1), .int x3]) rfl rfl ?_
        rcases zif_inv h with ⟨hc4, h⟩ | ⟨hc4, h⟩
        · refine y_cmp (pc' := 28) rfl rfl (zc_neF hc4) rfl ?_
          refine zEx_sub ?_ h
          exact ⟨rfl, rfl, rfl, trivial⟩
        · refine y_cmp (pc' := 32) rfl rfl (zc_neT hc4) rfl ?_
          refine y_pure (pc' := 33) (st' := [.int (nI 0)]) rfl rfl ?_
          refine y_pure (pc' := 34) (ls' := [(0, .ref 630), (1, .int x1), (2, .int (nI 0)), (3, .int x3)]) (st' := []) rfl rfl ?_
          refine y_pure (pc' := 35) (st' := [.int (nI 0)]) rfl rfl ?_
          refine y_cnd (pc' := 51) rfl rfl (zc_eqT (by decide)) rfl ?_
          refine y_pure (pc' := 52) (st' := [.int x3]) rfl rfl ?_
          refine y_pure (pc' := 54) (st' := [.int (nI 10), .int x3]) rfl rfl ?_
          refine y_idiv (pc' := 55) (st := []) rfl (by decide) rfl ?_
          refine y_pure (pc' := 56) (ls' := [(0, .ref 630), (1, .int x1), (2, .int (nI 0)), (3, .int (x3 / (nI 10)))]) (st' := []) rfl rfl ?_
          refine y_pure (pc' := 9) rfl rfl ?_
          refine zEx_sub ?_ h
          exact ⟨rfl, rfl, rfl, rfl, trivial⟩
      · refine y_cmp (pc' := 28) rfl rfl (zc_geT hc3) rfl ?_
        refine zEx_sub ?_ h
        exact ⟨rfl, rfl, rfl, trivial⟩
    · refine y_cnd (pc' := 28) rfl rfl (zc_neT hc2) rfl ?_
      refine zEx_sub ?_ h
      exact ⟨rfl, rfl, rfl, trivial⟩
theorem e_W_addNumber_28 {d : Nat} {x1 : Int32} {x3 : Int32} {M : ZM} {r : ZR}  (h : (if x3 = nI 0 then none else zC0 (zEv d zmW_addSign [.ref 630, .int ((nI 48) + ((x1 / x3) - (x1 / x3) / (nI 10) * (nI 10)))] M) (fun M4 => h_W_addNumber_9 d x1 (nI 1) (x3 / (nI 10)) M4)) = some r) : h_W_addNumber_28 d x1 x3 M = some r := by
  show zEx0 (zEv d) zmW_addNumber (28, [(0, .ref 630), (1, .int x1), (3, .int x3)], [], M) = some r
  refine y_pure (pc' := 29) (st' := [.int (nI 1)]) rfl rfl ?_
  refine y_pure (pc' := 33) rfl rfl ?_
  refine y_pure (pc' := 34) (ls' := [(0, .ref 630), (1, .int x1), (2, .int (nI 1)), (3, .int x3)]) (st' := []) rfl rfl ?_
  refine y_pure (pc' := 35) (st' := [.int (nI 1)]) rfl rfl ?_
  refine y_cnd (pc' := 38) rfl rfl (zc_eqF (by decide)) rfl ?_
  refine y_pure (pc' := 39) (st' := [.ref 630]) rfl rfl ?_
  refine y_pure (pc' := 41) (st' := [.int (nI 48), .ref 630]) rfl rfl ?_
  refine y_pure (pc' := 42) (st' := [.int x1, .int (nI 48), .ref 630]) rfl rfl ?_
  refine y_pure (pc' := 43) (st' := [.int x3, .int x1, .int (nI 48), .ref 630]) rfl rfl ?_
  obtain ⟨hb2, h⟩ := zd_inv h
  refine y_idiv (pc' := 44) (st := [.int (nI 48), .ref 630]) rfl hb2 rfl ?_
  refine y_pure (pc' := 46) (st' := [.int (nI 10), .int (x1 / x3), .int (nI 48), .ref 630]) rfl rfl ?_
  refine y_irem (pc' := 47) (st := [.int (nI 48), .ref 630]) rfl (by decide) rfl ?_
  refine y_pure (pc' := 48) (st' := [.int ((nI 48) + ((x1 / x3) - (x1 / x3) / (nI 10) * (nI 10))), .ref 630]) rfl rfl ?_
  obtain ⟨M4, he3, h⟩ := zC0_inv h
  refine y_callV (pc' := 51) (y := zmW_addSign) (a' := [.int ((nI 48) + ((x1 / x3) - (x1 / x3) / (nI 10) * (nI 10)))]) (st' := []) rfl rfl rfl rfl rfl (zrecv_o (o := 8) zc_630 rfl) rfl he3 rfl rfl ?_
  refine y_pure (pc' := 52) (st' := [.int x3]) rfl rfl ?_
  refine y_pure (pc' := 54) (st' := [.int (nI 10), .int x3]) rfl rfl ?_
  refine y_idiv (pc' := 55) (st := []) rfl (by decide) rfl ?_
  refine y_pure (pc' := 56) (ls' := [(0, .ref 630), (1, .int x1), (2, .int (nI 1)), (3, .int (x3 / (nI 10)))]) (st' := []) rfl rfl ?_
  refine y_pure (pc' := 9) rfl rfl ?_
  refine zEx_sub ?_ h
  exact ⟨rfl, rfl, rfl, rfl, trivial⟩
theorem e_W_addNumber {d : Nat} {x1 : Int32} {M : ZM} {r : ZR}  (h : zC0 (zEv d zmW_addBlank [.ref 630] M) (fun M2 => h_W_addNumber_9 d x1 (nI 0) (nI 1000000) M2) = some r) : zEv (d + 1) zmW_addNumber [.ref 630, .int x1] M = some r := by
  rw [zEv_succ]
  show zEx0 (zEv d) zmW_addNumber (0, [(0, .ref 630), (1, .int x1)], [], M) = some r
  refine y_pure (pc' := 1) (st' := [.ref 630]) rfl rfl ?_
  obtain ⟨M2, he1, h⟩ := zC0_inv h
  refine y_callV (pc' := 4) (y := zmW_addBlank) (a' := []) (st' := []) rfl rfl rfl rfl rfl (zrecv_o (o := 8) zc_630 rfl) rfl he1 rfl rfl ?_
  refine y_pure (pc' := 5) (st' := [.int (nI 0)]) rfl rfl ?_
  refine y_pure (pc' := 6) (ls' := [(0, .ref 630), (1, .int x1), (2, .int (nI 0))]) (st' := []) rfl rfl ?_
  refine y_pure (pc' := 8) (st' := [.int (nI 1000000)]) rfl rfl ?_
  refine y_pure (pc' := 9) (ls' := [(0, .ref 630), (1, .int x1), (2, .int (nI 0)), (3, .int (nI 1000000))]) (st' := []) rfl rfl ?_
  refine zEx_sub ?_ h
  exact ⟨rfl, rfl, rfl, rfl, trivial⟩
theorem e_W_addBlank {d : Nat}  {M : ZM} {r : ZR}  (h : (if (nI 0) < (M.1 630 1) then (if (nI 1024) < (M.1 630 1) then some (none, M) else (if zin ((M.1 630 1) - (nI 1)) 1024 = true then (if (M.1 631 (Int32.toNatClampNeg ((M.1 630 1) - (nI 1)))) = (nI 59) then some (none, M) else zC0 (zEv d zmW_addSign [.ref 630, .int (nI 32)] M) (fun M6 => some (none, M6))) else none)) else some (none, M)) = some r) : zEv (d + 1) zmW_addBlank [.ref 630] M = some r := by
  rw [zEv_succ]
  show zEx0 (zEv d) zmW_addBlank (0, [(0, .ref 630)], [], M) = some r
  refine y_pure (pc' := 1) (st' := [.ref 630]) rfl rfl ?_
  refine y_getf (pc' := 4) (v := .int (M.1 630 1)) rfl rfl rfl zc_630 rfl rfl ?_
  rcases zif_inv h with ⟨hc1, h⟩ | ⟨hc1, h⟩
  · refine y_cnd (pc' := 7) rfl rfl (zc_leF hc1) rfl ?_
    refine y_pure (pc' := 8) (st' := [.ref 630]) rfl rfl ?_
    refine y_getf (pc' := 11) (v := .int (M.1 630 1)) rfl rfl rfl zc_630 rfl rfl ?_
    refine y_pure (pc' := 14) (st' := [.int (nI 1024), .int (M.1 630 1)]) rfl rfl ?_
    rcases zif_inv h with ⟨hc2, h⟩ | ⟨hc2, h⟩
    · refine y_cmp (pc' := 39) rfl rfl (zc_gtT hc2) rfl ?_
      exact y_ret rfl rfl rfl rfl h
    · refine y_cmp (pc' := 17) rfl rfl (zc_gtF hc2) rfl ?_
      refine y_pure (pc' := 18) (st' := [.ref 630]) rfl rfl ?_
      refine y_getf (pc' := 21) (v := .ref 631) rfl rfl rfl zc_630 rfl rfl ?_
      refine y_pure (pc' := 22) (st' := [.ref 630, .ref 631]) rfl rfl ?_
      refine y_getf (pc' := 25) (v := .int (M.1 630 1)) rfl rfl rfl zc_630 rfl rfl ?_
      refine y_pure (pc' := 26) (st' := [.int (nI 1), .int (M.1 630 1), .ref 631]) rfl rfl ?_
      refine y_pure (pc' := 27) (st' := [.int ((M.1 630 1) - (nI 1)), .ref 631]) rfl rfl ?_
      obtain ⟨hi3, h⟩ := zg_inv h
      refine y_iald (pc' := 28) rfl zc_631 hi3 rfl ?_
      refine y_pure (pc' := 30) (st' := [.int (nI 59), .int (M.1 631 (Int32.toNatClampNeg ((M.1 630 1) - (nI 1))))]) rfl rfl ?_
      rcases zif_inv h with ⟨hc4, h⟩ | ⟨hc4, h⟩
      · refine y_cmp (pc' := 39) rfl rfl (zc_eqT hc4) rfl ?_
        exact y_ret rfl rfl rfl rfl h
      · refine y_cmp (pc' := 33) rfl rfl (zc_eqF hc4) rfl ?_
        refine y_pure (pc' := 34) (st' := [.ref 630]) rfl rfl ?_
        refine y_pure (pc' := 36) (st' := [.int (nI 32), .ref 630]) rfl rfl ?_
        obtain ⟨M6, he5, h⟩ := zC0_inv h
        refine y_callV (pc' := 39) (y := zmW_addSign) (a' := [.int (nI 32)]) (st' := []) rfl rfl rfl rfl rfl (zrecv_o (o := 8) zc_630 rfl) rfl he5 rfl rfl ?_
        exact y_ret rfl rfl rfl rfl h
  · refine y_cnd (pc' := 39) rfl rfl (zc_leT hc1) rfl ?_
    exact y_ret rfl rfl rfl rfl h
theorem e_W_addSign {d : Nat} {x1 : Int32} {M : ZM} {r : ZR}  (h : (if (M.1 630 1) < (nI 0) then some (none, M) else (if (M.1 630 1) < (nI 1024) then (if zin (M.1 630 1) 1024 = true then some (none, (zpi (zpi M 631 (Int32.toNatClampNeg (M.1 630 1)) x1) 630 1 (((zpi M 631 (Int32.toNatClampNeg (M.1 630 1)) x1).1 630 1) + (nI 1)))) else none) else some (none, M))) = some r) : zEv (d + 1) zmW_addSign [.ref 630, .int x1] M = some r := by
  rw [zEv_succ]
  show zEx0 (zEv d) zmW_addSign (0, [(0, .ref 630), (1, .int x1)], [], M) = some r
  refine y_pure (pc' := 1) (st' := [.ref 630]) rfl rfl ?_
  refine y_getf (pc' := 4) (v := .int (M.1 630 1)) rfl rfl rfl zc_630 rfl rfl ?_
  rcases zif_inv h with ⟨hc1, h⟩ | ⟨hc1, h⟩
  · refine y_cnd (pc' := 37) rfl rfl (zc_ltT hc1) rfl ?_
    exact y_ret rfl rfl rfl rfl h
  · refine y_cnd (pc' := 7) rfl rfl (zc_ltF hc1) rfl ?_
    refine y_pure (pc' := 8) (st' := [.ref 630]) rfl rfl ?_
    refine y_getf (pc' := 11) (v := .int (M.1 630 1)) rfl rfl rfl zc_630 rfl rfl ?_
    refine y_pure (pc' := 14) (st' := [.int (nI 1024), .int (M.1 630 1)]) rfl rfl ?_
    rcases zif_inv h with ⟨hc2, h⟩ | ⟨hc2, h⟩
    · refine y_cmp (pc' := 17) rfl rfl (zc_geF hc2) rfl ?_
      refine y_pure (pc' := 18) (st' := [.ref 630]) rfl rfl ?_
      refine y_getf (pc' := 21) (v := .ref 631) rfl rfl rfl zc_630 rfl rfl ?_
      refine y_pure (pc' := 22) (st' := [.ref 630, .ref 631]) rfl rfl ?_
      refine y_getf (pc' := 25) (v := .int (M.1 630 1)) rfl rfl rfl zc_630 rfl rfl ?_
      refine y_pure (pc' := 26) (st' := [.int x1, .int (M.1 630 1), .ref 631]) rfl rfl ?_
      obtain ⟨hi3, h⟩ := zg_inv h
      refine y_iast (pc' := 27) rfl zc_631 hi3 rfl ?_
      refine y_pure (pc' := 28) (st' := [.ref 630]) rfl rfl ?_
      refine y_pure (pc' := 29) (st' := [.ref 630, .ref 630]) rfl rfl ?_
      refine y_getf (pc' := 32) (v := .int ((zpi M 631 (Int32.toNatClampNeg (M.1 630 1)) x1).1 630 1)) rfl rfl rfl zc_630 rfl rfl ?_
      refine y_pure (pc' := 33) (st' := [.int (nI 1), .int ((zpi M 631 (Int32.toNatClampNeg (M.1 630 1)) x1).1 630 1), .ref 630]) rfl rfl ?_
      refine y_pure (pc' := 34) (st' := [.int (((zpi M 631 (Int32.toNatClampNeg (M.1 630 1)) x1).1 630 1) + (nI 1)), .ref 630]) rfl rfl ?_
      refine y_putI (pc' := 37) rfl rfl zc_630 rfl ?_
      exact y_ret rfl rfl rfl rfl h
    · refine y_cmp (pc' := 37) rfl rfl (zc_geT hc2) rfl ?_
      exact y_ret rfl rfl rfl rfl h
theorem e_JM_floorMod {d : Nat} {x0 : Int32} {x1 : Int32} {M : ZM} {r : ZR}  (h : (if x1 = nI 0 then none else (if (x0 ^^^ x1) < (nI 0) then (if (x0 - x0 / x1 * x1) = (nI 0) then some (some (.int (x0 - x0 / x1 * x1)), M) else some (some (.int ((x0 - x0 / x1 * x1) + x1)), M)) else some (some (.int (x0 - x0 / x1 * x1)), M))) = some r) : zEv (d + 1) zmJM_floorMod [.int x0, .int x1] M = some r := by
  rw [zEv_succ]
  show zEx0 (zEv d) zmJM_floorMod (0, [(0, .int x0), (1, .int x1)], [], M) = some r
  refine y_pure (pc' := 1) (st' := [.int x0]) rfl rfl ?_
  refine y_pure (pc' := 2) (st' := [.int x1, .int x0]) rfl rfl ?_
  obtain ⟨hb1, h⟩ := zd_inv h
  refine y_irem (pc' := 3) (st := []) rfl hb1 rfl ?_
  refine y_pure (pc' := 4) (ls' := [(0, .int x0), (1, .int x1), (2, .int (x0 - x0 / x1 * x1))]) (st' := []) rfl rfl ?_
  refine y_pure (pc' := 5) (st' := [.int x0]) rfl rfl ?_
  refine y_pure (pc' := 6) (st' := [.int x1, .int x0]) rfl rfl ?_
  refine y_pure (pc' := 7) (st' := [.int (x0 ^^^ x1)]) rfl rfl ?_
  rcases zif_inv h with ⟨hc2, h⟩ | ⟨hc2, h⟩
  · refine y_cnd (pc' := 10) rfl rfl (zc_geF hc2) rfl ?_
    refine y_pure (pc' := 11) (st' := [.int (x0 - x0 / x1 * x1)]) rfl rfl ?_
    rcases zif_inv h with ⟨hc3, h⟩ | ⟨hc3, h⟩
    · refine y_cnd (pc' := 18) rfl rfl (zc_eqT hc3) rfl ?_
      refine y_pure (pc' := 19) (st' := [.int (x0 - x0 / x1 * x1)]) rfl rfl ?_
      exact y_ret rfl rfl rfl rfl h
    · refine y_cnd (pc' := 14) rfl rfl (zc_eqF hc3) rfl ?_
      refine y_pure (pc' := 15) (st' := [.int (x0 - x0 / x1 * x1)]) rfl rfl ?_
      refine y_pure (pc' := 16) (st' := [.int x1, .int (x0 - x0 / x1 * x1)]) rfl rfl ?_
      refine y_pure (pc' := 17) (st' := [.int ((x0 - x0 / x1 * x1) + x1)]) rfl rfl ?_
      exact y_ret rfl rfl rfl rfl h
  · refine y_cnd (pc' := 18) rfl rfl (zc_geT hc2) rfl ?_
    refine y_pure (pc' := 19) (st' := [.int (x0 - x0 / x1 * x1)]) rfl rfl ?_
    exact y_ret rfl rfl rfl rfl h
theorem e_JM_max {d : Nat} {x0 : Int32} {x1 : Int32} {M : ZM} {r : ZR}  (h : (if x0 < x1 then some (some (.int x1), M) else some (some (.int x0), M)) = some r) : zEv (d + 1) zmJM_max [.int x0, .int x1] M = some r := by
  rw [zEv_succ]
  show zEx0 (zEv d) zmJM_max (0, [(0, .int x0), (1, .int x1)], [], M) = some r
  refine y_pure (pc' := 1) (st' := [.int x0]) rfl rfl ?_
  refine y_pure (pc' := 2) (st' := [.int x1, .int x0]) rfl rfl ?_
  rcases zif_inv h with ⟨hc1, h⟩ | ⟨hc1, h⟩
  · refine y_cmp (pc' := 9) rfl rfl (zc_ltT hc1) rfl ?_
    refine y_pure (pc' := 10) (st' := [.int x1]) rfl rfl ?_
    exact y_ret rfl rfl rfl rfl h
  · refine y_cmp (pc' := 5) rfl rfl (zc_ltF hc1) rfl ?_
    refine y_pure (pc' := 6) (st' := [.int x0]) rfl rfl ?_
    refine y_pure (pc' := 10) rfl rfl ?_
    exact y_ret rfl rfl rfl rfl h
theorem e_JM_min {d : Nat} {x0 : Int32} {x1 : Int32} {M : ZM} {r : ZR}  (h : (if x1 < x0 then some (some (.int x1), M) else some (some (.int x0), M)) = some r) : zEv (d + 1) zmJM_min [.int x0, .int x1] M = some r := by
  rw [zEv_succ]
  show zEx0 (zEv d) zmJM_min (0, [(0, .int x0), (1, .int x1)], [], M) = some r
  refine y_pure (pc' := 1) (st' := [.int x0]) rfl rfl ?_
  refine y_pure (pc' := 2) (st' := [.int x1, .int x0]) rfl rfl ?_
  rcases zif_inv h with ⟨hc1, h⟩ | ⟨hc1, h⟩
  · refine y_cmp (pc' := 9) rfl rfl (zc_gtT hc1) rfl ?_
    refine y_pure (pc' := 10) (st' := [.int x1]) rfl rfl ?_
    exact y_ret rfl rfl rfl rfl h
  · refine y_cmp (pc' := 5) rfl rfl (zc_gtF hc1) rfl ?_
    refine y_pure (pc' := 6) (st' := [.int x0]) rfl rfl ?_
    refine y_pure (pc' := 10) rfl rfl ?_
    exact y_ret rfl rfl rfl rfl h
theorem e_JS_length {d : Nat} {x0 w0 : Nat} {M : ZM} {r : ZR} (hk0 : zkd x0 = (7, w0)) (h : zC1 (zEv d zmJS_coder [.ref x0] M) (fun v3 M2 => some (some (.int ((Int32.ofNat (ztx w0).length) >>> (v3 &&& 31))), M2)) = some r) : zEv (d + 1) zmJS_length [.ref x0] M = some r := by
  rw [zEv_succ]
  show zEx0 (zEv d) zmJS_length (0, [(0, .ref x0)], [], M) = some r
  refine y_pure (pc' := 1) (st' := [.ref x0]) rfl rfl ?_
  refine y_getV (pc' := 4) rfl rfl (zkt7 hk0) rfl ?_
  refine y_tlen (pc' := 5) rfl (zk_text hk0) (Nat.succ_ne_zero _) rfl ?_
  refine y_pure (pc' := 6) (st' := [.ref x0, .int (Int32.ofNat (ztx w0).length)]) rfl rfl ?_
  obtain ⟨v3, M2, he1, h⟩ := zC1_inv h
  refine y_callV (pc' := 9) (y := zmJS_coder) (a' := []) (st' := [.int (Int32.ofNat (ztx w0).length)]) rfl rfl rfl rfl rfl (zrecv_s (zkt7 hk0)) rfl he1 rfl rfl ?_
  refine y_pure (pc' := 10) (st' := [.int ((Int32.ofNat (ztx w0).length) >>> (v3 &&& 31))]) rfl rfl ?_
  exact y_ret rfl rfl rfl rfl h
theorem e_JS_coder {d : Nat} {x0 w0 : Nat} {M : ZM} {r : ZR} (hk0 : zkd x0 = (7, w0)) (h : some (some (.int (nI 0)), M) = some r) : zEv (d + 1) zmJS_coder [.ref x0] M = some r := by
  rw [zEv_succ]
  show zEx0 (zEv d) zmJS_coder (0, [(0, .ref x0)], [], M) = some r
  refine y_gets (pc' := 3) (v := .int (nI 1)) rfl rfl rfl rfl ?_
  refine y_cnd (pc' := 6) rfl rfl (zc_eqF (by decide)) rfl ?_
  refine y_pure (pc' := 7) (st' := [.ref x0]) rfl rfl ?_
  refine y_getW (pc' := 10) rfl rfl (zkt7 hk0) rfl ?_
  refine y_pure (pc' := 14) rfl rfl ?_
  exact y_retB rfl rfl (by decide) h
theorem e_JS_charAt {d : Nat} {x0 w0 : Nat} {x1 : Int32} {M : ZM} {r : ZR} (hk0 : zkd x0 = (7, w0)) (h : zC1 (zEv d zmJS_isLatin1 [.ref x0] M) (fun v3 M2 => (if v3 = (nI 0) then none else zC1 (zEv d zmJ1_charAt [.ref (x0 + 31), .int x1] M2) (fun v7 M6 => (if (v7.toUInt32 % 65536).toInt32 = v7 then some (some (.int v7), M6) else none)))) = some r) : zEv (d + 1) zmJS_charAt [.ref x0, .int x1] M = some r := by
  rw [zEv_succ]
  show zEx0 (zEv d) zmJS_charAt (0, [(0, .ref x0), (1, .int x1)], [], M) = some r
  refine y_pure (pc' := 1) (st' := [.ref x0]) rfl rfl ?_
  obtain ⟨v3, M2, he1, h⟩ := zC1_inv h
  refine y_callV (pc' := 4) (y := zmJS_isLatin1) (a' := []) (st' := []) rfl rfl rfl rfl rfl (zrecv_s (zkt7 hk0)) rfl he1 rfl rfl ?_
  rcases zif_inv h with ⟨hc4, h⟩ | ⟨hc4, h⟩
  · refine y_cnd (pc' := 16) rfl rfl (zc_eqT hc4) rfl ?_
    refine y_pure (pc' := 17) (st' := [.ref x0]) rfl rfl ?_
    refine y_getV (pc' := 20) rfl rfl (zkt7 hk0) rfl ?_
    refine y_pure (pc' := 21) (st' := [.int x1, .ref (x0 + 31)]) rfl rfl ?_
    cases h
  · refine y_cnd (pc' := 7) rfl rfl (zc_eqF hc4) rfl ?_
    refine y_pure (pc' := 8) (st' := [.ref x0]) rfl rfl ?_
    refine y_getV (pc' := 11) rfl rfl (zkt7 hk0) rfl ?_
    refine y_pure (pc' := 12) (st' := [.int x1, .ref (x0 + 31)]) rfl rfl ?_
    obtain ⟨v7, M6, he5, h⟩ := zC1_inv h
    refine y_callS (pc' := 15) (y := zmJ1_charAt) (a := [.ref (x0 + 31), .int x1]) (st' := []) rfl rfl rfl rfl rfl rfl he5 rfl rfl ?_
    obtain ⟨hb8, h⟩ := zg_inv h
    exact y_retC rfl rfl hb8 h
theorem e_JS_isLatin1 {d : Nat} {x0 w0 : Nat} {M : ZM} {r : ZR} (hk0 : zkd x0 = (7, w0)) (h : some (some (.int (nI 1)), M) = some r) : zEv (d + 1) zmJS_isLatin1 [.ref x0] M = some r := by
  rw [zEv_succ]
  show zEx0 (zEv d) zmJS_isLatin1 (0, [(0, .ref x0)], [], M) = some r
  refine y_gets (pc' := 3) (v := .int (nI 1)) rfl rfl rfl rfl ?_
  refine y_cnd (pc' := 6) rfl rfl (zc_eqF (by decide)) rfl ?_
  refine y_pure (pc' := 7) (st' := [.ref x0]) rfl rfl ?_
  refine y_getW (pc' := 10) rfl rfl (zkt7 hk0) rfl ?_
  refine y_cnd (pc' := 13) rfl rfl (zc_neF (by decide)) rfl ?_
  refine y_pure (pc' := 14) (st' := [.int (nI 1)]) rfl rfl ?_
  refine y_pure (pc' := 18) rfl rfl ?_
  exact y_retZ rfl rfl (by decide) h
theorem e_J1_charAt {d : Nat} {x0 w0 : Nat} {x1 : Int32} {M : ZM} {r : ZR} (hk0 : zkd x0 = (9, w0)) (hz0 : x0 ≠ 0) (h : zC0 (zEv d zmJS_checkIndex [.int x1, .int (Int32.ofNat (ztx w0).length)] M) (fun M2 => (if zin x1 (ztx w0).length = true then (if (((Int32.toUInt32 (((ztx w0).getD (Int32.toNatClampNeg x1) 0) &&& (nI 255)) % 65536).toInt32).toUInt32 % 65536).toInt32 = ((Int32.toUInt32 (((ztx w0).getD (Int32.toNatClampNeg x1) 0) &&& (nI 255)) % 65536).toInt32) then some (some (.int ((Int32.toUInt32 (((ztx w0).getD (Int32.toNatClampNeg x1) 0) &&& (nI 255)) % 65536).toInt32)), M2) else none) else none)) = some r) : zEv (d + 1) zmJ1_charAt [.ref x0, .int x1] M = some r := by
  rw [zEv_succ]
  show zEx0 (zEv d) zmJ1_charAt (0, [(0, .ref x0), (1, .int x1)], [], M) = some r
  refine y_pure (pc' := 1) (st' := [.int x1]) rfl rfl ?_
  refine y_pure (pc' := 2) (st' := [.ref x0, .int x1]) rfl rfl ?_
  refine y_tlen (pc' := 3) rfl hk0 hz0 rfl ?_
  obtain ⟨M2, he1, h⟩ := zC0_inv h
  refine y_callS (pc' := 6) (y := zmJS_checkIndex) (a := [.int x1, .int (Int32.ofNat (ztx w0).length)]) (st' := []) rfl rfl rfl rfl rfl rfl he1 rfl rfl ?_
  refine y_pure (pc' := 7) (st' := [.ref x0]) rfl rfl ?_
  refine y_pure (pc' := 8) (st' := [.int x1, .ref x0]) rfl rfl ?_
  obtain ⟨hi3, h⟩ := zg_inv h
  refine y_tald (pc' := 9) rfl hk0 hi3 rfl ?_
  refine y_pure (pc' := 12) (st' := [.int (nI 255), .int ((ztx w0).getD (Int32.toNatClampNeg x1) 0)]) rfl rfl ?_
  refine y_pure (pc' := 13) (st' := [.int (((ztx w0).getD (Int32.toNatClampNeg x1) 0) &&& (nI 255))]) rfl rfl ?_
  refine y_pure (pc' := 14) (st' := [.int ((Int32.toUInt32 (((ztx w0).getD (Int32.toNatClampNeg x1) 0) &&& (nI 255)) % 65536).toInt32)]) rfl rfl ?_
  obtain ⟨hb4, h⟩ := zg_inv h
  exact y_retC rfl rfl hb4 h
theorem e_JS_checkIndex {d : Nat} {x0 : Int32} {x1 : Int32} {M : ZM} {r : ZR}  (h : zC1 (zEv d zmJP_checkIndex [.int x0, .int x1, .float 0] M) (fun v3 M2 => some (none, M2)) = some r) : zEv (d + 1) zmJS_checkIndex [.int x0, .int x1] M = some r := by
  rw [zEv_succ]
  show zEx0 (zEv d) zmJS_checkIndex (0, [(0, .int x0), (1, .int x1)], [], M) = some r
  refine y_pure (pc' := 1) (st' := [.int x0]) rfl rfl ?_
  refine y_pure (pc' := 2) (st' := [.int x1, .int x0]) rfl rfl ?_
  refine y_gets (pc' := 5) (v := .float 0) rfl rfl rfl rfl ?_
  obtain ⟨v3, M2, he1, h⟩ := zC1_inv h
  refine y_callS (pc' := 8) (y := zmJP_checkIndex) (a := [.int x0, .int x1, .float 0]) (st' := []) rfl rfl rfl rfl rfl rfl he1 rfl rfl ?_
  refine y_pure (pc' := 9) (st' := []) rfl rfl ?_
  exact y_ret rfl rfl rfl rfl h
theorem e_JP_checkIndex {d : Nat} {x0 : Int32} {x1 : Int32} {M : ZM} {r : ZR}  (h : (if x0 < (nI 0) then none else (if x0 < x1 then some (some (.int x0), M) else none)) = some r) : zEv (d + 1) zmJP_checkIndex [.int x0, .int x1, .float 0] M = some r := by
  rw [zEv_succ]
  show zEx0 (zEv d) zmJP_checkIndex (0, [(0, .int x0), (1, .int x1), (2, .float 0)], [], M) = some r
  refine y_pure (pc' := 1) (st' := [.int x0]) rfl rfl ?_
  rcases zif_inv h with ⟨hc1, h⟩ | ⟨hc1, h⟩
  · cases h
  · refine y_cnd (pc' := 4) rfl rfl (zc_ltF hc1) rfl ?_
    refine y_pure (pc' := 5) (st' := [.int x0]) rfl rfl ?_
    refine y_pure (pc' := 6) (st' := [.int x1, .int x0]) rfl rfl ?_
    rcases zif_inv h with ⟨hc2, h⟩ | ⟨hc2, h⟩
    · refine y_cmp (pc' := 16) rfl rfl (zc_ltT hc2) rfl ?_
      refine y_pure (pc' := 17) (st' := [.int x0]) rfl rfl ?_
      exact y_ret rfl rfl rfl rfl h
    · cases h