/-! what the methods' runs come to (printed by wip/whole/gen_eq.py) -/
set_option linter.unusedVariables false
set_option maxRecDepth 50000
theorem e_L_isBroken {d : Nat}  {M : ZM} {r : ZR}  (h : (if (M.1 262 3) = (-2 : Int32) then (if (M.1 262 4) = (-2 : Int32) then some (some (.int (nI 0)), M) else some (some (.int (nI 1)), M)) else some (some (.int (nI 1)), M)) = some r) : zEv (d + 1) zmL_isBroken [.ref 262] M = some r := by
  rw [zEv_succ]
  show zEx0 (zEv d) zmL_isBroken (0, [(0, .ref 262)], [], M) = some r
  refine y_pure (pc' := 1) (st' := [.ref 262]) rfl rfl ?_
  refine y_getf (pc' := 4) (v := .int (M.1 262 3)) rfl rfl rfl zc_262 rfl rfl ?_
  refine y_pure (pc' := 6) (st' := [.int (-2 : Int32), .int (M.1 262 3)]) rfl rfl ?_
  rcases zif_inv h with ⟨hc1, h⟩ | ⟨hc1, h⟩
  · refine y_cmp (pc' := 9) rfl rfl (zc_neF hc1) rfl ?_
    refine y_pure (pc' := 10) (st' := [.ref 262]) rfl rfl ?_
    refine y_getf (pc' := 13) (v := .int (M.1 262 4)) rfl rfl rfl zc_262 rfl rfl ?_
    refine y_pure (pc' := 15) (st' := [.int (-2 : Int32), .int (M.1 262 4)]) rfl rfl ?_
    rcases zif_inv h with ⟨hc2, h⟩ | ⟨hc2, h⟩
    · refine y_cmp (pc' := 22) rfl rfl (zc_eqT hc2) rfl ?_
      refine y_pure (pc' := 23) (st' := [.int (nI 0)]) rfl rfl ?_
      exact y_retZ rfl rfl (by decide) h
    · refine y_cmp (pc' := 18) rfl rfl (zc_eqF hc2) rfl ?_
      refine y_pure (pc' := 19) (st' := [.int (nI 1)]) rfl rfl ?_
      refine y_pure (pc' := 23) rfl rfl ?_
      exact y_retZ rfl rfl (by decide) h
  · refine y_cmp (pc' := 18) rfl rfl (zc_neT hc1) rfl ?_
    refine y_pure (pc' := 19) (st' := [.int (nI 1)]) rfl rfl ?_
    refine y_pure (pc' := 23) rfl rfl ?_
    exact y_retZ rfl rfl (by decide) h
noncomputable def h_L_study_24 (d : Nat) (x1 : Nat) (x2 : Int32) (M : ZM) : Option ZR := zEx0 (zEv d) zmL_study (24, [(0, .ref 262), (1, .ref x1), (2, .int x2)], [], M)
noncomputable def h_L_study_118 (d : Nat) (x1 : Nat) (x2 : Int32) (M : ZM) : Option ZR := zEx0 (zEv d) zmL_study (118, [(0, .ref 262), (1, .ref x1), (2, .int x2)], [], M)
noncomputable def h_L_study_63 (d : Nat) (x1 : Nat) (x2 : Int32) (x3 : Nat) (x4 : Int32) (M : ZM) : Option ZR := zEx0 (zEv d) zmL_study (63, [(0, .ref 262), (1, .ref x1), (2, .int x2), (3, .ref x3), (4, .int x4)], [], M)
theorem e_L_study_24 {d : Nat} {x1 : Nat} {x2 : Int32} {M : ZM} {r : ZR} (hk1 : zkd x1 = (10, 0)) (h : (if x2 < (nI 0) then h_L_study_118 d x1 (nI 35) M else zC3 (zEv d zmRS_ready [.ref 263, .ref x1, .int x2] M) (fun v4 M3 => (if zkd v4 = (13, 0) then (if zin x2 12 = true then zC1 (zEv d zmR_weigh [.ref v4, .ref (x1 + 1), .ref (x1 + 7 + (Int32.toNatClampNeg x2))] M3) (fun v9 M8 => (if v9 = (nI 0) then h_L_study_63 d x1 x2 v4 (nI 0) (zpi M8 262 3 x2) else h_L_study_63 d x1 x2 v4 (nI 0) M8)) else none) else none))) = some r) : h_L_study_24 d x1 x2 M = some r := by
  show zEx0 (zEv d) zmL_study (24, [(0, .ref 262), (1, .ref x1), (2, .int x2)], [], M) = some r
  refine y_pure (pc' := 25) (st' := [.int x2]) rfl rfl ?_
  rcases zif_inv h with ⟨hc1, h⟩ | ⟨hc1, h⟩
  · refine y_cnd (pc' := 115) rfl rfl (zc_ltT hc1) rfl ?_
    refine y_pure (pc' := 117) (st' := [.int (nI 35)]) rfl rfl ?_
    refine y_pure (pc' := 118) (ls' := [(0, .ref 262), (1, .ref x1), (2, .int (nI 35))]) (st' := []) rfl rfl ?_
    refine zEx_sub ?_ h
    exact ⟨rfl, rfl, rfl, trivial⟩
  · refine y_cnd (pc' := 28) rfl rfl (zc_ltF hc1) rfl ?_
    refine y_pure (pc' := 29) (st' := [.ref 262]) rfl rfl ?_
    refine y_getf (pc' := 32) (v := .ref 263) rfl rfl rfl zc_262 rfl rfl ?_
    refine y_pure (pc' := 33) (st' := [.ref x1, .ref 263]) rfl rfl ?_
    refine y_pure (pc' := 34) (st' := [.int x2, .ref x1, .ref 263]) rfl rfl ?_
    obtain ⟨v4, M3, he2, h⟩ := zC3_inv h
    obtain ⟨hk5, h⟩ := zg_inv h
    refine y_callV (pc' := 37) (y := zmRS_ready) (a' := [.ref x1, .int x2]) (st' := []) rfl rfl rfl rfl rfl (zrecv_o (o := 4) zc_263 rfl) rfl he2 rfl rfl ?_
    refine y_pure (pc' := 38) (ls' := [(0, .ref 262), (1, .ref x1), (2, .int x2), (3, .ref v4)]) (st' := []) rfl rfl ?_
    refine y_pure (pc' := 39) (st' := [.ref v4]) rfl rfl ?_
    refine y_pure (pc' := 40) (st' := [.ref x1, .ref v4]) rfl rfl ?_
    refine y_getf (pc' := 43) (v := .ref (x1 + 1)) rfl rfl rfl hk1 rfl rfl ?_
    refine y_pure (pc' := 44) (st' := [.ref x1, .ref (x1 + 1), .ref v4]) rfl rfl ?_
    refine y_getf (pc' := 47) (v := .ref (x1 + 6)) rfl rfl rfl hk1 rfl rfl ?_
    refine y_pure (pc' := 48) (st' := [.int x2, .ref (x1 + 6), .ref (x1 + 1), .ref v4]) rfl rfl ?_
    obtain ⟨hi6, h⟩ := zg_inv h
    refine y_aald (pc' := 49) (q' := x1 + 7 + (Int32.toNatClampNeg x2)) rfl (zf_0_13 hk1) hi6 (congrArg (HAdd.hAdd (x1 + 7)) (Nat.one_mul _)) rfl ?_
    obtain ⟨v9, M8, he7, h⟩ := zC1_inv h
    refine y_callV (pc' := 52) (y := zmR_weigh) (a' := [.ref (x1 + 1), .ref (x1 + 7 + (Int32.toNatClampNeg x2))]) (st' := []) rfl rfl rfl rfl rfl (zrecv_o (o := 3) hk5 rfl) rfl he7 rfl rfl ?_
    rcases zif_inv h with ⟨hc10, h⟩ | ⟨hc10, h⟩
    · refine y_cnd (pc' := 55) rfl rfl (zc_neF hc10) rfl ?_
      refine y_pure (pc' := 56) (st' := [.ref 262]) rfl rfl ?_
      refine y_pure (pc' := 57) (st' := [.int x2, .ref 262]) rfl rfl ?_
      refine y_putI (pc' := 60) rfl rfl zc_262 rfl ?_
      refine y_pure (pc' := 61) (st' := [.int (nI 0)]) rfl rfl ?_
      refine y_pure (pc' := 63) (ls' := [(0, .ref 262), (1, .ref x1), (2, .int x2), (3, .ref v4), (4, .int (nI 0))]) (st' := []) rfl rfl ?_
      refine zEx_sub ?_ h
      exact ⟨rfl, rfl, rfl, rfl, rfl, trivial⟩
    · refine y_cnd (pc' := 60) rfl rfl (zc_neT hc10) rfl ?_
      refine y_pure (pc' := 61) (st' := [.int (nI 0)]) rfl rfl ?_
      refine y_pure (pc' := 63) (ls' := [(0, .ref 262), (1, .ref x1), (2, .int x2), (3, .ref v4), (4, .int (nI 0))]) (st' := []) rfl rfl ?_
      refine zEx_sub ?_ h
      exact ⟨rfl, rfl, rfl, rfl, rfl, trivial⟩
theorem e_L_study_118 {d : Nat} {x1 : Nat} {x2 : Int32} {M : ZM} {r : ZR} (hk1 : zkd x1 = (10, 0)) (h : (if x2 < (nI 0) then some (none, M) else zC1 (zEv d zmB_isOpen [.ref x1, .int x2] M) (fun v4 M3 => (if v4 = (nI 0) then h_L_study_118 d x1 (x2 + (-1 : Int32)) M3 else (if zin x2 36 = true then (if (M3.1 (x1 + 1) (Int32.toNatClampNeg x2)) = (nI 0) then h_L_study_118 d x1 (x2 + (-1 : Int32)) (zpi M3 262 4 x2) else h_L_study_118 d x1 (x2 + (-1 : Int32)) M3) else none)))) = some r) : h_L_study_118 d x1 x2 M = some r := by
  show zEx0 (zEv d) zmL_study (118, [(0, .ref 262), (1, .ref x1), (2, .int x2)], [], M) = some r
  refine y_pure (pc' := 119) (st' := [.int x2]) rfl rfl ?_
  rcases zif_inv h with ⟨hc1, h⟩ | ⟨hc1, h⟩
  · refine y_cnd (pc' := 150) rfl rfl (zc_ltT hc1) rfl ?_
    exact y_ret rfl rfl rfl rfl h
  · refine y_cnd (pc' := 122) rfl rfl (zc_ltF hc1) rfl ?_
    refine y_pure (pc' := 123) (st' := [.ref x1]) rfl rfl ?_
    refine y_pure (pc' := 124) (st' := [.int x2, .ref x1]) rfl rfl ?_
    obtain ⟨v4, M3, he2, h⟩ := zC1_inv h
    refine y_callV (pc' := 127) (y := zmB_isOpen) (a' := [.int x2]) (st' := []) rfl rfl rfl rfl rfl (zrecv_o (o := 0) hk1 rfl) rfl he2 rfl rfl ?_
    rcases zif_inv h with ⟨hc5, h⟩ | ⟨hc5, h⟩
    · refine y_cnd (pc' := 144) rfl rfl (zc_eqT hc5) rfl ?_
      refine y_pure (pc' := 147) (ls' := [(0, .ref 262), (1, .ref x1), (2, .int (x2 + (-1 : Int32)))]) (st' := []) rfl rfl ?_
      refine y_pure (pc' := 118) rfl rfl ?_
      refine zEx_sub ?_ h
      exact ⟨rfl, rfl, rfl, trivial⟩
    · refine y_cnd (pc' := 130) rfl rfl (zc_eqF hc5) rfl ?_
      refine y_pure (pc' := 131) (st' := [.ref x1]) rfl rfl ?_
      refine y_getf (pc' := 134) (v := .ref (x1 + 1)) rfl rfl rfl hk1 rfl rfl ?_
      refine y_pure (pc' := 135) (st' := [.int x2, .ref (x1 + 1)]) rfl rfl ?_
      obtain ⟨hi6, h⟩ := zg_inv h
      refine y_iald (pc' := 136) rfl (zf_0_8 hk1) hi6 rfl ?_
      rcases zif_inv h with ⟨hc7, h⟩ | ⟨hc7, h⟩
      · refine y_cnd (pc' := 139) rfl rfl (zc_neF hc7) rfl ?_
        refine y_pure (pc' := 140) (st' := [.ref 262]) rfl rfl ?_
        refine y_pure (pc' := 141) (st' := [.int x2, .ref 262]) rfl rfl ?_
        refine y_putI (pc' := 144) rfl rfl zc_262 rfl ?_
        refine y_pure (pc' := 147) (ls' := [(0, .ref 262), (1, .ref x1), (2, .int (x2 + (-1 : Int32)))]) (st' := []) rfl rfl ?_
        refine y_pure (pc' := 118) rfl rfl ?_
        refine zEx_sub ?_ h
        exact ⟨rfl, rfl, rfl, trivial⟩
      · refine y_cnd (pc' := 144) rfl rfl (zc_neT hc7) rfl ?_
        refine y_pure (pc' := 147) (ls' := [(0, .ref 262), (1, .ref x1), (2, .int (x2 + (-1 : Int32)))]) (st' := []) rfl rfl ?_
        refine y_pure (pc' := 118) rfl rfl ?_
        refine zEx_sub ?_ h
        exact ⟨rfl, rfl, rfl, trivial⟩
theorem e_L_study_63 {d : Nat} {x1 : Nat} {x2 : Int32} {x3 : Nat} {x4 : Int32} {M : ZM} {r : ZR} (hk1 : zkd x1 = (10, 0)) (hk3 : zkd x3 = (13, 0)) (h : (if zin x2 12 = true then (if x4 < (M.1 (x1 + 4) (Int32.toNatClampNeg x2)) then (if zin x4 6 = true then (if zin (M.1 (x1 + 7 + (Int32.toNatClampNeg x2)) (Int32.toNatClampNeg x4)) 36 = true then zC1 (zEv d zmR_digitsAt [.ref x3, .int x4, .int (M.1 (x1 + 1) (Int32.toNatClampNeg (M.1 (x1 + 7 + (Int32.toNatClampNeg x2)) (Int32.toNatClampNeg x4))))] M) (fun v7 M6 => h_L_study_63 d x1 x2 x3 (x4 + (nI 1)) (zpi M6 (399 + (Int32.toNatClampNeg x2)) (Int32.toNatClampNeg x4) v7)) else none) else none) else h_L_study_24 d x1 (x2 + (-1 : Int32)) M) else none) = some r) : h_L_study_63 d x1 x2 x3 x4 M = some r := by
  show zEx0 (zEv d) zmL_study (63, [(0, .ref 262), (1, .ref x1), (2, .int x2), (3, .ref x3), (4, .int x4)], [], M) = some r
  refine y_pure (pc' := 65) (st' := [.int x4]) rfl rfl ?_
  refine y_pure (pc' := 66) (st' := [.ref x1, .int x4]) rfl rfl ?_
  refine y_getf (pc' := 69) (v := .ref (x1 + 4)) rfl rfl rfl hk1 rfl rfl ?_
  refine y_pure (pc' := 70) (st' := [.int x2, .ref (x1 + 4), .int x4]) rfl rfl ?_
  obtain ⟨hi1, h⟩ := zg_inv h
  refine y_iald (pc' := 71) rfl (zf_0_11 hk1) hi1 rfl ?_
  rcases zif_inv h with ⟨hc2, h⟩ | ⟨hc2, h⟩
  · refine y_cmp (pc' := 74) rfl rfl (zc_geF hc2) rfl ?_
    refine y_pure (pc' := 75) (st' := [.ref 262]) rfl rfl ?_
    refine y_getf (pc' := 78) (v := .ref 398) rfl rfl rfl zc_262 rfl rfl ?_
    refine y_pure (pc' := 79) (st' := [.int x2, .ref 398]) rfl rfl ?_
    refine y_aald (pc' := 80) (q' := 399 + (Int32.toNatClampNeg x2)) rfl zc_398 hi1 (congrArg (HAdd.hAdd (399)) (Nat.one_mul _)) rfl ?_
    refine y_pure (pc' := 82) (st' := [.int x4, .ref (399 + (Int32.toNatClampNeg x2))]) rfl rfl ?_
    refine y_pure (pc' := 83) (st' := [.ref x3, .int x4, .ref (399 + (Int32.toNatClampNeg x2))]) rfl rfl ?_
    refine y_pure (pc' := 85) (st' := [.int x4, .ref x3, .int x4, .ref (399 + (Int32.toNatClampNeg x2))]) rfl rfl ?_
    refine y_pure (pc' := 86) (st' := [.ref x1, .int x4, .ref x3, .int x4, .ref (399 + (Int32.toNatClampNeg x2))]) rfl rfl ?_
    refine y_getf (pc' := 89) (v := .ref (x1 + 1)) rfl rfl rfl hk1 rfl rfl ?_
    refine y_pure (pc' := 90) (st' := [.ref x1, .ref (x1 + 1), .int x4, .ref x3, .int x4, .ref (399 + (Int32.toNatClampNeg x2))]) rfl rfl ?_
    refine y_getf (pc' := 93) (v := .ref (x1 + 6)) rfl rfl rfl hk1 rfl rfl ?_
    refine y_pure (pc' := 94) (st' := [.int x2, .ref (x1 + 6), .ref (x1 + 1), .int x4, .ref x3, .int x4, .ref (399 + (Int32.toNatClampNeg x2))]) rfl rfl ?_
    refine y_aald (pc' := 95) (q' := x1 + 7 + (Int32.toNatClampNeg x2)) rfl (zf_0_13 hk1) hi1 (congrArg (HAdd.hAdd (x1 + 7)) (Nat.one_mul _)) rfl ?_
    refine y_pure (pc' := 97) (st' := [.int x4, .ref (x1 + 7 + (Int32.toNatClampNeg x2)), .ref (x1 + 1), .int x4, .ref x3, .int x4, .ref (399 + (Int32.toNatClampNeg x2))]) rfl rfl ?_
    obtain ⟨hi3, h⟩ := zg_inv h
    refine y_iald (pc' := 98) rfl (zl_0 (zf_0_13 hk1) hi1) hi3 rfl ?_
    obtain ⟨hi4, h⟩ := zg_inv h
    refine y_iald (pc' := 99) rfl (zf_0_8 hk1) hi4 rfl ?_
    obtain ⟨v7, M6, he5, h⟩ := zC1_inv h
    refine y_callV (pc' := 102) (y := zmR_digitsAt) (a' := [.int x4, .int (M.1 (x1 + 1) (Int32.toNatClampNeg (M.1 (x1 + 7 + (Int32.toNatClampNeg x2)) (Int32.toNatClampNeg x4))))]) (st' := [.int x4, .ref (399 + (Int32.toNatClampNeg x2))]) rfl rfl rfl rfl rfl (zrecv_o (o := 3) hk3 rfl) rfl he5 rfl rfl ?_
    refine y_iast (pc' := 103) rfl (zl_0 zc_398 hi1) hi3 rfl ?_
    refine y_pure (pc' := 106) (ls' := [(0, .ref 262), (1, .ref x1), (2, .int x2), (3, .ref x3), (4, .int (x4 + (nI 1)))]) (st' := []) rfl rfl ?_
    refine y_pure (pc' := 63) rfl rfl ?_
    refine zEx_sub ?_ h
    exact ⟨rfl, rfl, rfl, rfl, rfl, trivial⟩
  · refine y_cmp (pc' := 109) rfl rfl (zc_geT hc2) rfl ?_
    refine y_pure (pc' := 112) (ls' := [(0, .ref 262), (1, .ref x1), (2, .int (x2 + (-1 : Int32))), (3, .ref x3), (4, .int x4)]) (st' := []) rfl rfl ?_
    refine y_pure (pc' := 24) rfl rfl ?_
    refine zEx_sub ?_ h
    exact ⟨rfl, rfl, rfl, trivial⟩
theorem e_L_study {d : Nat} {x1 : Nat} {M : ZM} {r : ZR} (hk1 : zkd x1 = (10, 0)) (h : zC1 (zEv d zmJM_min [.int ((zpi (zpi M 262 3 (-2 : Int32)) 262 4 (-2 : Int32)).1 x1 3), .int (nI 12)] (zpi (zpi M 262 3 (-2 : Int32)) 262 4 (-2 : Int32))) (fun v3 M2 => h_L_study_24 d x1 (v3 - (nI 1)) M2) = some r) : zEv (d + 1) zmL_study [.ref 262, .ref x1] M = some r := by
  rw [zEv_succ]
  show zEx0 (zEv d) zmL_study (0, [(0, .ref 262), (1, .ref x1)], [], M) = some r
  refine y_pure (pc' := 1) (st' := [.ref 262]) rfl rfl ?_
  refine y_pure (pc' := 3) (st' := [.int (-2 : Int32), .ref 262]) rfl rfl ?_
  refine y_putI (pc' := 6) rfl rfl zc_262 rfl ?_
  refine y_pure (pc' := 7) (st' := [.ref 262]) rfl rfl ?_
  refine y_pure (pc' := 9) (st' := [.int (-2 : Int32), .ref 262]) rfl rfl ?_
  refine y_putI (pc' := 12) rfl rfl zc_262 rfl ?_
  refine y_pure (pc' := 13) (st' := [.ref x1]) rfl rfl ?_
  refine y_getf (pc' := 16) (v := .int ((zpi (zpi M 262 3 (-2 : Int32)) 262 4 (-2 : Int32)).1 x1 3)) rfl rfl rfl hk1 rfl rfl ?_
  refine y_pure (pc' := 18) (st' := [.int (nI 12), .int ((zpi (zpi M 262 3 (-2 : Int32)) 262 4 (-2 : Int32)).1 x1 3)]) rfl rfl ?_
  obtain ⟨v3, M2, he1, h⟩ := zC1_inv h
  refine y_callS (pc' := 21) (y := zmJM_min) (a := [.int ((zpi (zpi M 262 3 (-2 : Int32)) 262 4 (-2 : Int32)).1 x1 3), .int (nI 12)]) (st' := []) rfl rfl rfl rfl rfl rfl he1 rfl rfl ?_
  refine y_pure (pc' := 22) (st' := [.int (nI 1), .int v3]) rfl rfl ?_
  refine y_pure (pc' := 23) (st' := [.int (v3 - (nI 1))]) rfl rfl ?_
  refine y_pure (pc' := 24) (ls' := [(0, .ref 262), (1, .ref x1), (2, .int (v3 - (nI 1)))]) (st' := []) rfl rfl ?_
  refine zEx_sub ?_ h
  exact ⟨rfl, rfl, rfl, trivial⟩
noncomputable def h_L_find_36 (d : Nat) (x1 : Nat) (x2 : Int32) (M : ZM) : Option ZR := zEx0 (zEv d) zmL_find (36, [(0, .ref 262), (1, .ref x1), (2, .int x2)], [], M)
noncomputable def h_L_find_70 (d : Nat) (x1 : Nat) (x2 : Int32) (M : ZM) : Option ZR := zEx0 (zEv d) zmL_find (70, [(0, .ref 262), (1, .ref x1), (2, .int x2)], [], M)
theorem e_L_find_36 {d : Nat} {x1 : Nat} {x2 : Int32} {M : ZM} {r : ZR} (hk1 : zkd x1 = (10, 0)) (h : (if x2 < (M.1 x1 3) then zC1 (zEv d zmB_isAlike [.ref x1, .int x2] M) (fun v4 M3 => (if v4 = (nI 0) then zC1 (zEv d zmL_findMust [.ref 262, .ref x1, .int x2] M3) (fun v8 M7 => (if v8 = (nI 0) then h_L_find_36 d x1 (x2 + (nI 1)) M7 else some (none, M7))) else h_L_find_36 d x1 (x2 + (nI 1)) M3)) else h_L_find_70 d x1 (nI 0) M) = some r) : h_L_find_36 d x1 x2 M = some r := by
  show zEx0 (zEv d) zmL_find (36, [(0, .ref 262), (1, .ref x1), (2, .int x2)], [], M) = some r
  refine y_pure (pc' := 37) (st' := [.int x2]) rfl rfl ?_
  refine y_pure (pc' := 38) (st' := [.ref x1, .int x2]) rfl rfl ?_
  refine y_getf (pc' := 41) (v := .int (M.1 x1 3)) rfl rfl rfl hk1 rfl rfl ?_
  rcases zif_inv h with ⟨hc1, h⟩ | ⟨hc1, h⟩
  · refine y_cmp (pc' := 44) rfl rfl (zc_geF hc1) rfl ?_
    refine y_pure (pc' := 45) (st' := [.ref x1]) rfl rfl ?_
    refine y_pure (pc' := 46) (st' := [.int x2, .ref x1]) rfl rfl ?_
    obtain ⟨v4, M3, he2, h⟩ := zC1_inv h
    refine y_callV (pc' := 49) (y := zmB_isAlike) (a' := [.int x2]) (st' := []) rfl rfl rfl rfl rfl (zrecv_o (o := 0) hk1 rfl) rfl he2 rfl rfl ?_
    rcases zif_inv h with ⟨hc5, h⟩ | ⟨hc5, h⟩
    · refine y_cnd (pc' := 52) rfl rfl (zc_neF hc5) rfl ?_
      refine y_pure (pc' := 53) (st' := [.ref 262]) rfl rfl ?_
      refine y_pure (pc' := 54) (st' := [.ref x1, .ref 262]) rfl rfl ?_
      refine y_pure (pc' := 55) (st' := [.int x2, .ref x1, .ref 262]) rfl rfl ?_
      obtain ⟨v8, M7, he6, h⟩ := zC1_inv h
      refine y_callV (pc' := 58) (y := zmL_findMust) (a' := [.ref x1, .int x2]) (st' := []) rfl rfl rfl rfl rfl (zrecv_o (o := 1) zc_262 rfl) rfl he6 rfl rfl ?_
      rcases zif_inv h with ⟨hc9, h⟩ | ⟨hc9, h⟩
      · refine y_cnd (pc' := 62) rfl rfl (zc_eqT hc9) rfl ?_
        refine y_pure (pc' := 65) (ls' := [(0, .ref 262), (1, .ref x1), (2, .int (x2 + (nI 1)))]) (st' := []) rfl rfl ?_
        refine y_pure (pc' := 36) rfl rfl ?_
        refine zEx_sub ?_ h
        exact ⟨rfl, rfl, rfl, trivial⟩
      · refine y_cnd (pc' := 61) rfl rfl (zc_eqF hc9) rfl ?_
        exact y_ret rfl rfl rfl rfl h
    · refine y_cnd (pc' := 62) rfl rfl (zc_neT hc5) rfl ?_
      refine y_pure (pc' := 65) (ls' := [(0, .ref 262), (1, .ref x1), (2, .int (x2 + (nI 1)))]) (st' := []) rfl rfl ?_
      refine y_pure (pc' := 36) rfl rfl ?_
      refine zEx_sub ?_ h
      exact ⟨rfl, rfl, rfl, trivial⟩
  · refine y_cmp (pc' := 68) rfl rfl (zc_geT hc1) rfl ?_
    refine y_pure (pc' := 69) (st' := [.int (nI 0)]) rfl rfl ?_
    refine y_pure (pc' := 70) (ls' := [(0, .ref 262), (1, .ref x1), (2, .int (nI 0))]) (st' := []) rfl rfl ?_
    refine zEx_sub ?_ h
    exact ⟨rfl, rfl, rfl, trivial⟩
theorem e_L_find_70 {d : Nat} {x1 : Nat} {x2 : Int32} {M : ZM} {r : ZR} (hk1 : zkd x1 = (10, 0)) (h : (if x2 < (M.1 x1 3) then zC1 (zEv d zmB_isAlike [.ref x1, .int x2] M) (fun v4 M3 => (if v4 = (nI 0) then zC1 (zEv d zmL_findTwins [.ref 262, .ref x1, .int x2] M3) (fun v8 M7 => (if v8 = (nI 0) then h_L_find_70 d x1 (x2 + (nI 1)) M7 else some (none, M7))) else h_L_find_70 d x1 (x2 + (nI 1)) M3)) else some (none, M)) = some r) : h_L_find_70 d x1 x2 M = some r := by
  show zEx0 (zEv d) zmL_find (70, [(0, .ref 262), (1, .ref x1), (2, .int x2)], [], M) = some r
  refine y_pure (pc' := 71) (st' := [.int x2]) rfl rfl ?_
  refine y_pure (pc' := 72) (st' := [.ref x1, .int x2]) rfl rfl ?_
  refine y_getf (pc' := 75) (v := .int (M.1 x1 3)) rfl rfl rfl hk1 rfl rfl ?_
  rcases zif_inv h with ⟨hc1, h⟩ | ⟨hc1, h⟩
  · refine y_cmp (pc' := 78) rfl rfl (zc_geF hc1) rfl ?_
    refine y_pure (pc' := 79) (st' := [.ref x1]) rfl rfl ?_
    refine y_pure (pc' := 80) (st' := [.int x2, .ref x1]) rfl rfl ?_
    obtain ⟨v4, M3, he2, h⟩ := zC1_inv h
    refine y_callV (pc' := 83) (y := zmB_isAlike) (a' := [.int x2]) (st' := []) rfl rfl rfl rfl rfl (zrecv_o (o := 0) hk1 rfl) rfl he2 rfl rfl ?_
    rcases zif_inv h with ⟨hc5, h⟩ | ⟨hc5, h⟩
    · refine y_cnd (pc' := 86) rfl rfl (zc_neF hc5) rfl ?_
      refine y_pure (pc' := 87) (st' := [.ref 262]) rfl rfl ?_
      refine y_pure (pc' := 88) (st' := [.ref x1, .ref 262]) rfl rfl ?_
      refine y_pure (pc' := 89) (st' := [.int x2, .ref x1, .ref 262]) rfl rfl ?_
      obtain ⟨v8, M7, he6, h⟩ := zC1_inv h
      refine y_callV (pc' := 92) (y := zmL_findTwins) (a' := [.ref x1, .int x2]) (st' := []) rfl rfl rfl rfl rfl (zrecv_o (o := 1) zc_262 rfl) rfl he6 rfl rfl ?_
      rcases zif_inv h with ⟨hc9, h⟩ | ⟨hc9, h⟩
      · refine y_cnd (pc' := 96) rfl rfl (zc_eqT hc9) rfl ?_
        refine y_pure (pc' := 99) (ls' := [(0, .ref 262), (1, .ref x1), (2, .int (x2 + (nI 1)))]) (st' := []) rfl rfl ?_
        refine y_pure (pc' := 70) rfl rfl ?_
        refine zEx_sub ?_ h
        exact ⟨rfl, rfl, rfl, trivial⟩
      · refine y_cnd (pc' := 95) rfl rfl (zc_eqF hc9) rfl ?_
        exact y_ret rfl rfl rfl rfl h
    · refine y_cnd (pc' := 96) rfl rfl (zc_neT hc5) rfl ?_
      refine y_pure (pc' := 99) (ls' := [(0, .ref 262), (1, .ref x1), (2, .int (x2 + (nI 1)))]) (st' := []) rfl rfl ?_
      refine y_pure (pc' := 70) rfl rfl ?_
      refine zEx_sub ?_ h
      exact ⟨rfl, rfl, rfl, trivial⟩
  · refine y_cmp (pc' := 102) rfl rfl (zc_geT hc1) rfl ?_
    exact y_ret rfl rfl rfl rfl h
theorem e_L_find {d : Nat} {x1 : Nat} {M : ZM} {r : ZR} (hk1 : zkd x1 = (10, 0)) (h : zC0 (zEv d zmL_study [.ref 262, .ref x1] M) (fun M2 => zC1 (zEv d zmL_isBroken [.ref 262] (zpi M2 262 5 (nI 0))) (fun v5 M4 => (if v5 = (nI 0) then zC1 (zEv d zmL_findAlone [.ref 262, .ref x1] M4) (fun v9 M8 => (if v9 = (nI 0) then zC1 (zEv d zmL_findWays [.ref 262, .ref x1] M8) (fun v13 M12 => (if v13 = (nI 0) then h_L_find_36 d x1 (nI 0) M12 else some (none, M12))) else some (none, M8))) else some (none, M4)))) = some r) : zEv (d + 1) zmL_find [.ref 262, .ref x1] M = some r := by
  rw [zEv_succ]
  show zEx0 (zEv d) zmL_find (0, [(0, .ref 262), (1, .ref x1)], [], M) = some r
  refine y_pure (pc' := 1) (st' := [.ref 262]) rfl rfl ?_
  refine y_pure (pc' := 2) (st' := [.ref x1, .ref 262]) rfl rfl ?_
  obtain ⟨M2, he1, h⟩ := zC0_inv h
  refine y_callV (pc' := 5) (y := zmL_study) (a' := [.ref x1]) (st' := []) rfl rfl rfl rfl rfl (zrecv_o (o := 1) zc_262 rfl) rfl he1 rfl rfl ?_
  refine y_pure (pc' := 6) (st' := [.ref 262]) rfl rfl ?_
  refine y_pure (pc' := 7) (st' := [.int (nI 0), .ref 262]) rfl rfl ?_
  refine y_putI (pc' := 10) rfl rfl zc_262 rfl ?_
  refine y_pure (pc' := 11) (st' := [.ref 262]) rfl rfl ?_
  obtain ⟨v5, M4, he3, h⟩ := zC1_inv h
  refine y_callV (pc' := 14) (y := zmL_isBroken) (a' := []) (st' := []) rfl rfl rfl rfl rfl (zrecv_o (o := 1) zc_262 rfl) rfl he3 rfl rfl ?_
  rcases zif_inv h with ⟨hc6, h⟩ | ⟨hc6, h⟩
  · refine y_cnd (pc' := 17) rfl rfl (zc_neF hc6) rfl ?_
    refine y_pure (pc' := 18) (st' := [.ref 262]) rfl rfl ?_
    refine y_pure (pc' := 19) (st' := [.ref x1, .ref 262]) rfl rfl ?_
    obtain ⟨v9, M8, he7, h⟩ := zC1_inv h
    refine y_callV (pc' := 22) (y := zmL_findAlone) (a' := [.ref x1]) (st' := []) rfl rfl rfl rfl rfl (zrecv_o (o := 1) zc_262 rfl) rfl he7 rfl rfl ?_
    rcases zif_inv h with ⟨hc10, h⟩ | ⟨hc10, h⟩
    · refine y_cnd (pc' := 25) rfl rfl (zc_neF hc10) rfl ?_
      refine y_pure (pc' := 26) (st' := [.ref 262]) rfl rfl ?_
      refine y_pure (pc' := 27) (st' := [.ref x1, .ref 262]) rfl rfl ?_
      obtain ⟨v13, M12, he11, h⟩ := zC1_inv h
      refine y_callV (pc' := 30) (y := zmL_findWays) (a' := [.ref x1]) (st' := []) rfl rfl rfl rfl rfl (zrecv_o (o := 1) zc_262 rfl) rfl he11 rfl rfl ?_
      rcases zif_inv h with ⟨hc14, h⟩ | ⟨hc14, h⟩
      · refine y_cnd (pc' := 34) rfl rfl (zc_eqT hc14) rfl ?_
        refine y_pure (pc' := 35) (st' := [.int (nI 0)]) rfl rfl ?_
        refine y_pure (pc' := 36) (ls' := [(0, .ref 262), (1, .ref x1), (2, .int (nI 0))]) (st' := []) rfl rfl ?_
        refine zEx_sub ?_ h
        exact ⟨rfl, rfl, rfl, trivial⟩
      · refine y_cnd (pc' := 33) rfl rfl (zc_eqF hc14) rfl ?_
        exact y_ret rfl rfl rfl rfl h
    · refine y_cnd (pc' := 33) rfl rfl (zc_neT hc10) rfl ?_
      exact y_ret rfl rfl rfl rfl h
  · refine y_cnd (pc' := 33) rfl rfl (zc_neT hc6) rfl ?_
    exact y_ret rfl rfl rfl rfl h
theorem e_L_found {d : Nat} {x1 : Int32} {x2 : Int32} {x3 : Int32} {x4 : Int32} {M : ZM} {r : ZR}  (h : some (some (.int (nI 1)), (zpi (zpi (zpi (zpi M 262 5 x1) 262 6 x2) 262 7 x3) 262 8 x4)) = some r) : zEv (d + 1) zmL_found [.ref 262, .int x1, .int x2, .int x3, .int x4] M = some r := by
  rw [zEv_succ]
  show zEx0 (zEv d) zmL_found (0, [(0, .ref 262), (1, .int x1), (2, .int x2), (3, .int x3), (4, .int x4)], [], M) = some r
  refine y_pure (pc' := 1) (st' := [.ref 262]) rfl rfl ?_
  refine y_pure (pc' := 2) (st' := [.int x1, .ref 262]) rfl rfl ?_
  refine y_putI (pc' := 5) rfl rfl zc_262 rfl ?_
  refine y_pure (pc' := 6) (st' := [.ref 262]) rfl rfl ?_
  refine y_pure (pc' := 7) (st' := [.int x2, .ref 262]) rfl rfl ?_
  refine y_putI (pc' := 10) rfl rfl zc_262 rfl ?_
  refine y_pure (pc' := 11) (st' := [.ref 262]) rfl rfl ?_
  refine y_pure (pc' := 12) (st' := [.int x3, .ref 262]) rfl rfl ?_
  refine y_putI (pc' := 15) rfl rfl zc_262 rfl ?_
  refine y_pure (pc' := 16) (st' := [.ref 262]) rfl rfl ?_
  refine y_pure (pc' := 18) (st' := [.int x4, .ref 262]) rfl rfl ?_
  refine y_putI (pc' := 21) rfl rfl zc_262 rfl ?_
  refine y_pure (pc' := 22) (st' := [.int (nI 1)]) rfl rfl ?_
  exact y_retZ rfl rfl (by decide) h
noncomputable def h_L_findAlone_2 (d : Nat) (x1 : Nat) (x2 : Int32) (M : ZM) : Option ZR := zEx0 (zEv d) zmL_findAlone (2, [(0, .ref 262), (1, .ref x1), (2, .int x2)], [], M)
theorem e_L_findAlone_2 {d : Nat} {x1 : Nat} {x2 : Int32} {M : ZM} {r : ZR} (hk1 : zkd x1 = (10, 0)) (h : (if x2 < (nI 36) then zC1 (zEv d zmB_isOpen [.ref x1, .int x2] M) (fun v4 M3 => (if v4 = (nI 0) then h_L_findAlone_2 d x1 (x2 + (nI 1)) M3 else zC1 (zEv d zmB_isDone [.ref x1, .int x2] M3) (fun v8 M7 => (if v8 = (nI 0) then (if zin x2 36 = true then zC1 (zEv d zmJI_bitCount [.int (M7.1 (x1 + 1) (Int32.toNatClampNeg x2))] M7) (fun v13 M12 => (if v13 = (nI 1) then zC1 (zEv d zmC_leastDigit [.int (M12.1 (x1 + 1) (Int32.toNatClampNeg x2))] M12) (fun v17 M16 => zC1 (zEv d zmL_found [.ref 262, .int (nI 1), .int (-2 : Int32), .int x2, .int v17] M16) (fun v20 M19 => (if v20 = nI 0 ∨ v20 = nI 1 then some (some (.int v20), M19) else none))) else h_L_findAlone_2 d x1 (x2 + (nI 1)) M12)) else none) else h_L_findAlone_2 d x1 (x2 + (nI 1)) M7)))) else some (some (.int (nI 0)), M)) = some r) : h_L_findAlone_2 d x1 x2 M = some r := by
  show zEx0 (zEv d) zmL_findAlone (2, [(0, .ref 262), (1, .ref x1), (2, .int x2)], [], M) = some r
  refine y_pure (pc' := 3) (st' := [.int x2]) rfl rfl ?_
  refine y_pure (pc' := 5) (st' := [.int (nI 36), .int x2]) rfl rfl ?_
  rcases zif_inv h with ⟨hc1, h⟩ | ⟨hc1, h⟩
  · refine y_cmp (pc' := 8) rfl rfl (zc_geF hc1) rfl ?_
    refine y_pure (pc' := 9) (st' := [.ref x1]) rfl rfl ?_
    refine y_pure (pc' := 10) (st' := [.int x2, .ref x1]) rfl rfl ?_
    obtain ⟨v4, M3, he2, h⟩ := zC1_inv h
    refine y_callV (pc' := 13) (y := zmB_isOpen) (a' := [.int x2]) (st' := []) rfl rfl rfl rfl rfl (zrecv_o (o := 0) hk1 rfl) rfl he2 rfl rfl ?_
    rcases zif_inv h with ⟨hc5, h⟩ | ⟨hc5, h⟩
    · refine y_cnd (pc' := 55) rfl rfl (zc_eqT hc5) rfl ?_
      refine y_pure (pc' := 58) (ls' := [(0, .ref 262), (1, .ref x1), (2, .int (x2 + (nI 1)))]) (st' := []) rfl rfl ?_
      refine y_pure (pc' := 2) rfl rfl ?_
      refine zEx_sub ?_ h
      exact ⟨rfl, rfl, rfl, trivial⟩
    · refine y_cnd (pc' := 16) rfl rfl (zc_eqF hc5) rfl ?_
      refine y_pure (pc' := 17) (st' := [.ref x1]) rfl rfl ?_
      refine y_pure (pc' := 18) (st' := [.int x2, .ref x1]) rfl rfl ?_
      obtain ⟨v8, M7, he6, h⟩ := zC1_inv h
      refine y_callV (pc' := 21) (y := zmB_isDone) (a' := [.int x2]) (st' := []) rfl rfl rfl rfl rfl (zrecv_o (o := 0) hk1 rfl) rfl he6 rfl rfl ?_
      rcases zif_inv h with ⟨hc9, h⟩ | ⟨hc9, h⟩
      · refine y_cnd (pc' := 24) rfl rfl (zc_neF hc9) rfl ?_
        refine y_pure (pc' := 25) (st' := [.ref x1]) rfl rfl ?_
        refine y_getf (pc' := 28) (v := .ref (x1 + 1)) rfl rfl rfl hk1 rfl rfl ?_
        refine y_pure (pc' := 29) (st' := [.int x2, .ref (x1 + 1)]) rfl rfl ?_
        obtain ⟨hi10, h⟩ := zg_inv h
        refine y_iald (pc' := 30) rfl (zf_0_8 hk1) hi10 rfl ?_
        obtain ⟨v13, M12, he11, h⟩ := zC1_inv h
        refine y_callS (pc' := 33) (y := zmJI_bitCount) (a := [.int (M7.1 (x1 + 1) (Int32.toNatClampNeg x2))]) (st' := []) rfl rfl rfl rfl rfl rfl he11 rfl rfl ?_
        refine y_pure (pc' := 34) (st' := [.int (nI 1), .int v13]) rfl rfl ?_
        rcases zif_inv h with ⟨hc14, h⟩ | ⟨hc14, h⟩
        · refine y_cmp (pc' := 37) rfl rfl (zc_neF hc14) rfl ?_
          refine y_pure (pc' := 38) (st' := [.ref 262]) rfl rfl ?_
          refine y_pure (pc' := 39) (st' := [.int (nI 1), .ref 262]) rfl rfl ?_
          refine y_pure (pc' := 41) (st' := [.int (-2 : Int32), .int (nI 1), .ref 262]) rfl rfl ?_
          refine y_pure (pc' := 42) (st' := [.int x2, .int (-2 : Int32), .int (nI 1), .ref 262]) rfl rfl ?_
          refine y_pure (pc' := 43) (st' := [.ref x1, .int x2, .int (-2 : Int32), .int (nI 1), .ref 262]) rfl rfl ?_
          refine y_getf (pc' := 46) (v := .ref (x1 + 1)) rfl rfl rfl hk1 rfl rfl ?_
          refine y_pure (pc' := 47) (st' := [.int x2, .ref (x1 + 1), .int x2, .int (-2 : Int32), .int (nI 1), .ref 262]) rfl rfl ?_
          refine y_iald (pc' := 48) rfl (zf_0_8 hk1) hi10 rfl ?_
          obtain ⟨v17, M16, he15, h⟩ := zC1_inv h
          refine y_callS (pc' := 51) (y := zmC_leastDigit) (a := [.int (M12.1 (x1 + 1) (Int32.toNatClampNeg x2))]) (st' := [.int x2, .int (-2 : Int32), .int (nI 1), .ref 262]) rfl rfl rfl rfl rfl rfl he15 rfl rfl ?_
          obtain ⟨v20, M19, he18, h⟩ := zC1_inv h
          refine y_callV (pc' := 54) (y := zmL_found) (a' := [.int (nI 1), .int (-2 : Int32), .int x2, .int v17]) (st' := []) rfl rfl rfl rfl rfl (zrecv_o (o := 1) zc_262 rfl) rfl he18 rfl rfl ?_
          obtain ⟨hb21, h⟩ := zg_inv h
          exact y_retZ rfl rfl hb21 h
        · refine y_cmp (pc' := 55) rfl rfl (zc_neT hc14) rfl ?_
          refine y_pure (pc' := 58) (ls' := [(0, .ref 262), (1, .ref x1), (2, .int (x2 + (nI 1)))]) (st' := []) rfl rfl ?_
          refine y_pure (pc' := 2) rfl rfl ?_
          refine zEx_sub ?_ h
          exact ⟨rfl, rfl, rfl, trivial⟩
      · refine y_cnd (pc' := 55) rfl rfl (zc_neT hc9) rfl ?_
        refine y_pure (pc' := 58) (ls' := [(0, .ref 262), (1, .ref x1), (2, .int (x2 + (nI 1)))]) (st' := []) rfl rfl ?_
        refine y_pure (pc' := 2) rfl rfl ?_
        refine zEx_sub ?_ h
        exact ⟨rfl, rfl, rfl, trivial⟩
  · refine y_cmp (pc' := 61) rfl rfl (zc_geT hc1) rfl ?_
    refine y_pure (pc' := 62) (st' := [.int (nI 0)]) rfl rfl ?_
    exact y_retZ rfl rfl (by decide) h
theorem e_L_findAlone {d : Nat} {x1 : Nat} {M : ZM} {r : ZR} (hk1 : zkd x1 = (10, 0)) (h : h_L_findAlone_2 d x1 (nI 0) M = some r) : zEv (d + 1) zmL_findAlone [.ref 262, .ref x1] M = some r := by
  rw [zEv_succ]
  show zEx0 (zEv d) zmL_findAlone (0, [(0, .ref 262), (1, .ref x1)], [], M) = some r
  refine y_pure (pc' := 1) (st' := [.int (nI 0)]) rfl rfl ?_
  refine y_pure (pc' := 2) (ls' := [(0, .ref 262), (1, .ref x1), (2, .int (nI 0))]) (st' := []) rfl rfl ?_
  refine zEx_sub ?_ h
  exact ⟨rfl, rfl, rfl, trivial⟩
noncomputable def h_L_findWays_2 (d : Nat) (x1 : Nat) (x2 : Int32) (M : ZM) : Option ZR := zEx0 (zEv d) zmL_findWays (2, [(0, .ref 262), (1, .ref x1), (2, .int x2)], [], M)
noncomputable def h_L_findWays_12 (d : Nat) (x1 : Nat) (x2 : Int32) (x3 : Int32) (M : ZM) : Option ZR := zEx0 (zEv d) zmL_findWays (12, [(0, .ref 262), (1, .ref x1), (2, .int x2), (3, .int x3)], [], M)
theorem e_L_findWays_2 {d : Nat} {x1 : Nat} {x2 : Int32} {M : ZM} {r : ZR} (hk1 : zkd x1 = (10, 0)) (h : (if x2 < (M.1 x1 3) then h_L_findWays_12 d x1 x2 (nI 0) M else some (some (.int (nI 0)), M)) = some r) : h_L_findWays_2 d x1 x2 M = some r := by
  show zEx0 (zEv d) zmL_findWays (2, [(0, .ref 262), (1, .ref x1), (2, .int x2)], [], M) = some r
  refine y_pure (pc' := 3) (st' := [.int x2]) rfl rfl ?_
  refine y_pure (pc' := 4) (st' := [.ref x1, .int x2]) rfl rfl ?_
  refine y_getf (pc' := 7) (v := .int (M.1 x1 3)) rfl rfl rfl hk1 rfl rfl ?_
  rcases zif_inv h with ⟨hc1, h⟩ | ⟨hc1, h⟩
  · refine y_cmp (pc' := 10) rfl rfl (zc_geF hc1) rfl ?_
    refine y_pure (pc' := 11) (st' := [.int (nI 0)]) rfl rfl ?_
    refine y_pure (pc' := 12) (ls' := [(0, .ref 262), (1, .ref x1), (2, .int x2), (3, .int (nI 0))]) (st' := []) rfl rfl ?_
    refine zEx_sub ?_ h
    exact ⟨rfl, rfl, rfl, rfl, trivial⟩
  · refine y_cmp (pc' := 83) rfl rfl (zc_geT hc1) rfl ?_
    refine y_pure (pc' := 84) (st' := [.int (nI 0)]) rfl rfl ?_
    exact y_retZ rfl rfl (by decide) h
theorem e_L_findWays_12 {d : Nat} {x1 : Nat} {x2 : Int32} {x3 : Int32} {M : ZM} {r : ZR} (hk1 : zkd x1 = (10, 0)) (h : (if zin x2 12 = true then (if x3 < (M.1 (x1 + 4) (Int32.toNatClampNeg x2)) then (if zin x3 6 = true then zL (M.1 (x1 + 7 + (Int32.toNatClampNeg x2)) (Int32.toNatClampNeg x3)) (fun y4 => (if zin y4 36 = true then zL ((M.1 (x1 + 1) (Int32.toNatClampNeg y4)) &&& ((M.1 (399 + (Int32.toNatClampNeg x2)) (Int32.toNatClampNeg x3)) ^^^ (-1 : Int32))) (fun y7 => (if y7 = (nI 0) then h_L_findWays_12 d x1 x2 (x3 + (nI 1)) M else zC1 (zEv d zmC_leastDigit [.int y7] M) (fun v12 M11 => zC1 (zEv d zmL_found [.ref 262, .int (nI 2), .int x2, .int y4, .int v12] M11) (fun v15 M14 => (if v15 = nI 0 ∨ v15 = nI 1 then some (some (.int v15), M14) else none))))) else none)) else none) else h_L_findWays_2 d x1 (x2 + (nI 1)) M) else none) = some r) : h_L_findWays_12 d x1 x2 x3 M = some r := by
  show zEx0 (zEv d) zmL_findWays (12, [(0, .ref 262), (1, .ref x1), (2, .int x2), (3, .int x3)], [], M) = some r
  refine y_pure (pc' := 13) (st' := [.int x3]) rfl rfl ?_
  refine y_pure (pc' := 14) (st' := [.ref x1, .int x3]) rfl rfl ?_
  refine y_getf (pc' := 17) (v := .ref (x1 + 4)) rfl rfl rfl hk1 rfl rfl ?_
  refine y_pure (pc' := 18) (st' := [.int x2, .ref (x1 + 4), .int x3]) rfl rfl ?_
  obtain ⟨hi1, h⟩ := zg_inv h
  refine y_iald (pc' := 19) rfl (zf_0_11 hk1) hi1 rfl ?_
  rcases zif_inv h with ⟨hc2, h⟩ | ⟨hc2, h⟩
  · refine y_cmp (pc' := 22) rfl rfl (zc_geF hc2) rfl ?_
    refine y_pure (pc' := 23) (st' := [.ref x1]) rfl rfl ?_
    refine y_getf (pc' := 26) (v := .ref (x1 + 6)) rfl rfl rfl hk1 rfl rfl ?_
    refine y_pure (pc' := 27) (st' := [.int x2, .ref (x1 + 6)]) rfl rfl ?_
    refine y_aald (pc' := 28) (q' := x1 + 7 + (Int32.toNatClampNeg x2)) rfl (zf_0_13 hk1) hi1 (congrArg (HAdd.hAdd (x1 + 7)) (Nat.one_mul _)) rfl ?_
    refine y_pure (pc' := 29) (st' := [.int x3, .ref (x1 + 7 + (Int32.toNatClampNeg x2))]) rfl rfl ?_
    obtain ⟨hi3, h⟩ := zg_inv h
    refine y_iald (pc' := 30) rfl (zl_0 (zf_0_13 hk1) hi1) hi3 rfl ?_
    obtain ⟨y4, e5, h⟩ := zL_inv h
    refine zT_gen e5 ?_
    refine y_pure (pc' := 32) (ls' := [(0, .ref 262), (1, .ref x1), (2, .int x2), (3, .int x3), (4, .int y4)]) (st' := []) rfl rfl ?_
    refine y_pure (pc' := 33) (st' := [.ref x1]) rfl rfl ?_
    refine y_getf (pc' := 36) (v := .ref (x1 + 1)) rfl rfl rfl hk1 rfl rfl ?_
    refine y_pure (pc' := 38) (st' := [.int y4, .ref (x1 + 1)]) rfl rfl ?_
    obtain ⟨hi6, h⟩ := zg_inv h
    refine y_iald (pc' := 39) rfl (zf_0_8 hk1) hi6 rfl ?_
    refine y_pure (pc' := 40) (st' := [.ref 262, .int (M.1 (x1 + 1) (Int32.toNatClampNeg y4))]) rfl rfl ?_
    refine y_getf (pc' := 43) (v := .ref 398) rfl rfl rfl zc_262 rfl rfl ?_
    refine y_pure (pc' := 44) (st' := [.int x2, .ref 398, .int (M.1 (x1 + 1) (Int32.toNatClampNeg y4))]) rfl rfl ?_
    refine y_aald (pc' := 45) (q' := 399 + (Int32.toNatClampNeg x2)) rfl zc_398 hi1 (congrArg (HAdd.hAdd (399)) (Nat.one_mul _)) rfl ?_
    refine y_pure (pc' := 46) (st' := [.int x3, .ref (399 + (Int32.toNatClampNeg x2)), .int (M.1 (x1 + 1) (Int32.toNatClampNeg y4))]) rfl rfl ?_
    refine y_iald (pc' := 47) rfl (zl_0 zc_398 hi1) hi3 rfl ?_
    refine y_pure (pc' := 48) (st' := [.int (-1 : Int32), .int (M.1 (399 + (Int32.toNatClampNeg x2)) (Int32.toNatClampNeg x3)), .int (M.1 (x1 + 1) (Int32.toNatClampNeg y4))]) rfl rfl ?_
    refine y_pure (pc' := 49) (st' := [.int ((M.1 (399 + (Int32.toNatClampNeg x2)) (Int32.toNatClampNeg x3)) ^^^ (-1 : Int32)), .int (M.1 (x1 + 1) (Int32.toNatClampNeg y4))]) rfl rfl ?_
    refine y_pure (pc' := 50) (st' := [.int ((M.1 (x1 + 1) (Int32.toNatClampNeg y4)) &&& ((M.1 (399 + (Int32.toNatClampNeg x2)) (Int32.toNatClampNeg x3)) ^^^ (-1 : Int32)))]) rfl rfl ?_
    obtain ⟨y7, e8, h⟩ := zL_inv h
    refine zT_gen e8 ?_
    refine y_pure (pc' := 52) (ls' := [(0, .ref 262), (1, .ref x1), (2, .int x2), (3, .int x3), (4, .int y4), (5, .int y7)]) (st' := []) rfl rfl ?_
    refine y_pure (pc' := 54) (st' := [.int y7]) rfl rfl ?_
    rcases zif_inv h with ⟨hc9, h⟩ | ⟨hc9, h⟩
    · refine y_cnd (pc' := 71) rfl rfl (zc_eqT hc9) rfl ?_
      refine y_pure (pc' := 74) (ls' := [(0, .ref 262), (1, .ref x1), (2, .int x2), (3, .int (x3 + (nI 1))), (4, .int y4), (5, .int y7)]) (st' := []) rfl rfl ?_
      refine y_pure (pc' := 12) rfl rfl ?_
      refine zEx_sub ?_ h
      exact ⟨rfl, rfl, rfl, rfl, trivial⟩
    · refine y_cnd (pc' := 57) rfl rfl (zc_eqF hc9) rfl ?_
      refine y_pure (pc' := 58) (st' := [.ref 262]) rfl rfl ?_
      refine y_pure (pc' := 59) (st' := [.int (nI 2), .ref 262]) rfl rfl ?_
      refine y_pure (pc' := 60) (st' := [.int x2, .int (nI 2), .ref 262]) rfl rfl ?_
      refine y_pure (pc' := 62) (st' := [.int y4, .int x2, .int (nI 2), .ref 262]) rfl rfl ?_
      refine y_pure (pc' := 64) (st' := [.int y7, .int y4, .int x2, .int (nI 2), .ref 262]) rfl rfl ?_
      obtain ⟨v12, M11, he10, h⟩ := zC1_inv h
      refine y_callS (pc' := 67) (y := zmC_leastDigit) (a := [.int y7]) (st' := [.int y4, .int x2, .int (nI 2), .ref 262]) rfl rfl rfl rfl rfl rfl he10 rfl rfl ?_
      obtain ⟨v15, M14, he13, h⟩ := zC1_inv h
      refine y_callV (pc' := 70) (y := zmL_found) (a' := [.int (nI 2), .int x2, .int y4, .int v12]) (st' := []) rfl rfl rfl rfl rfl (zrecv_o (o := 1) zc_262 rfl) rfl he13 rfl rfl ?_
      obtain ⟨hb16, h⟩ := zg_inv h
      exact y_retZ rfl rfl hb16 h
  · refine y_cmp (pc' := 77) rfl rfl (zc_geT hc2) rfl ?_
    refine y_pure (pc' := 80) (ls' := [(0, .ref 262), (1, .ref x1), (2, .int (x2 + (nI 1))), (3, .int x3)]) (st' := []) rfl rfl ?_
    refine y_pure (pc' := 2) rfl rfl ?_
    refine zEx_sub ?_ h
    exact ⟨rfl, rfl, rfl, trivial⟩
theorem e_L_findWays {d : Nat} {x1 : Nat} {M : ZM} {r : ZR} (hk1 : zkd x1 = (10, 0)) (h : h_L_findWays_2 d x1 (nI 0) M = some r) : zEv (d + 1) zmL_findWays [.ref 262, .ref x1] M = some r := by
  rw [zEv_succ]
  show zEx0 (zEv d) zmL_findWays (0, [(0, .ref 262), (1, .ref x1)], [], M) = some r
  refine y_pure (pc' := 1) (st' := [.int (nI 0)]) rfl rfl ?_
  refine y_pure (pc' := 2) (ls' := [(0, .ref 262), (1, .ref x1), (2, .int (nI 0))]) (st' := []) rfl rfl ?_
  refine zEx_sub ?_ h
  exact ⟨rfl, rfl, rfl, trivial⟩
noncomputable def h_L_findMust_11 (d : Nat) (x1 : Nat) (x2 : Int32) (x3 : Int32) (x4 : Int32) (x5 : Int32) (x6 : Int32) (M : ZM) : Option ZR := zEx0 (zEv d) zmL_findMust (11, [(0, .ref 262), (1, .ref x1), (2, .int x2), (3, .int x3), (4, .int x4), (5, .int x5), (6, .int x6)], [], M)
noncomputable def h_L_findMust_148 (d : Nat) (x1 : Nat) (x2 : Int32) (x6 : Int32) (x7 : Int32) (M : ZM) : Option ZR := zEx0 (zEv d) zmL_findMust (148, [(0, .ref 262), (1, .ref x1), (2, .int x2), (6, .int x6), (7, .int x7)], [], M)
theorem e_L_findMust_11 {d : Nat} {x1 : Nat} {x2 : Int32} {x3 : Int32} {x4 : Int32} {x5 : Int32} {x6 : Int32} {M : ZM} {r : ZR} (hk1 : zkd x1 = (10, 0)) (h : (if zin x2 12 = true then (if x6 < (M.1 (x1 + 4) (Int32.toNatClampNeg x2)) then (if zin x6 6 = true then zL (M.1 (x1 + 7 + (Int32.toNatClampNeg x2)) (Int32.toNatClampNeg x6)) (fun y4 => zC1 (zEv d zmB_isDone [.ref x1, .int y4] M) (fun v8 M7 => (if v8 = (nI 0) then (if zin y4 36 = true then h_L_findMust_11 d x1 x2 (x3 ||| (M7.1 (x1 + 1) (Int32.toNatClampNeg y4))) (x4 ||| (x3 &&& (M7.1 (x1 + 1) (Int32.toNatClampNeg y4)))) x5 (x6 + (nI 1)) M7 else none) else (if zin y4 36 = true then h_L_findMust_11 d x1 x2 x3 x4 (x5 ||| (M7.1 (x1 + 1) (Int32.toNatClampNeg y4))) (x6 + (nI 1)) M7 else none)))) else none) else (if ((x3 &&& (x4 ^^^ (-1 : Int32))) &&& (x5 ^^^ (-1 : Int32))) = (nI 0) then some (some (.int (nI 0)), M) else zC3 (zEv d zmRS_ready [.ref 263, .ref x1, .int x2] M) (fun v15 M14 => (if zkd v15 = (13, 0) then zC0 (zEv d zmY_tally [.ref 395, .ref v15, .ref (x1 + 1), .ref (x1 + 7 + (Int32.toNatClampNeg x2))] M14) (fun M18 => zC1 (zEv d zmY_inAll [.ref 395] M18) (fun v21 M20 => zL (((x3 &&& (x4 ^^^ (-1 : Int32))) &&& (x5 ^^^ (-1 : Int32))) &&& v21) (fun y22 => h_L_findMust_148 d x1 x2 y22 (nI 1) M20))) else none)))) else none) = some r) : h_L_findMust_11 d x1 x2 x3 x4 x5 x6 M = some r := by
  show zEx0 (zEv d) zmL_findMust (11, [(0, .ref 262), (1, .ref x1), (2, .int x2), (3, .int x3), (4, .int x4), (5, .int x5), (6, .int x6)], [], M) = some r
  refine y_pure (pc' := 13) (st' := [.int x6]) rfl rfl ?_
  refine y_pure (pc' := 14) (st' := [.ref x1, .int x6]) rfl rfl ?_
  refine y_getf (pc' := 17) (v := .ref (x1 + 4)) rfl rfl rfl hk1 rfl rfl ?_
  refine y_pure (pc' := 18) (st' := [.int x2, .ref (x1 + 4), .int x6]) rfl rfl ?_
  obtain ⟨hi1, h⟩ := zg_inv h
  refine y_iald (pc' := 19) rfl (zf_0_11 hk1) hi1 rfl ?_
  rcases zif_inv h with ⟨hc2, h⟩ | ⟨hc2, h⟩
  · refine y_cmp (pc' := 22) rfl rfl (zc_geF hc2) rfl ?_
    refine y_pure (pc' := 23) (st' := [.ref x1]) rfl rfl ?_
    refine y_getf (pc' := 26) (v := .ref (x1 + 6)) rfl rfl rfl hk1 rfl rfl ?_
    refine y_pure (pc' := 27) (st' := [.int x2, .ref (x1 + 6)]) rfl rfl ?_
    refine y_aald (pc' := 28) (q' := x1 + 7 + (Int32.toNatClampNeg x2)) rfl (zf_0_13 hk1) hi1 (congrArg (HAdd.hAdd (x1 + 7)) (Nat.one_mul _)) rfl ?_
    refine y_pure (pc' := 30) (st' := [.int x6, .ref (x1 + 7 + (Int32.toNatClampNeg x2))]) rfl rfl ?_
    obtain ⟨hi3, h⟩ := zg_inv h
    refine y_iald (pc' := 31) rfl (zl_0 (zf_0_13 hk1) hi1) hi3 rfl ?_
    obtain ⟨y4, e5, h⟩ := zL_inv h
    refine zT_gen e5 ?_
    refine y_pure (pc' := 33) (ls' := [(0, .ref 262), (1, .ref x1), (2, .int x2), (3, .int x3), (4, .int x4), (5, .int x5), (6, .int x6), (7, .int y4)]) (st' := []) rfl rfl ?_
    refine y_pure (pc' := 34) (st' := [.ref x1]) rfl rfl ?_
    refine y_pure (pc' := 36) (st' := [.int y4, .ref x1]) rfl rfl ?_
    obtain ⟨v8, M7, he6, h⟩ := zC1_inv h
    refine y_callV (pc' := 39) (y := zmB_isDone) (a' := [.int y4]) (st' := []) rfl rfl rfl rfl rfl (zrecv_o (o := 0) hk1 rfl) rfl he6 rfl rfl ?_
    rcases zif_inv h with ⟨hc9, h⟩ | ⟨hc9, h⟩
    · refine y_cnd (pc' := 57) rfl rfl (zc_eqT hc9) rfl ?_
      refine y_pure (pc' := 59) (st' := [.int x4]) rfl rfl ?_
      refine y_pure (pc' := 60) (st' := [.int x3, .int x4]) rfl rfl ?_
      refine y_pure (pc' := 61) (st' := [.ref x1, .int x3, .int x4]) rfl rfl ?_
      refine y_getf (pc' := 64) (v := .ref (x1 + 1)) rfl rfl rfl hk1 rfl rfl ?_
      refine y_pure (pc' := 66) (st' := [.int y4, .ref (x1 + 1), .int x3, .int x4]) rfl rfl ?_
      obtain ⟨hi10, h⟩ := zg_inv h
      refine y_iald (pc' := 67) rfl (zf_0_8 hk1) hi10 rfl ?_
      refine y_pure (pc' := 68) (st' := [.int (x3 &&& (M7.1 (x1 + 1) (Int32.toNatClampNeg y4))), .int x4]) rfl rfl ?_
      refine y_pure (pc' := 69) (st' := [.int (x4 ||| (x3 &&& (M7.1 (x1 + 1) (Int32.toNatClampNeg y4))))]) rfl rfl ?_
      refine y_pure (pc' := 71) (ls' := [(0, .ref 262), (1, .ref x1), (2, .int x2), (3, .int x3), (4, .int (x4 ||| (x3 &&& (M7.1 (x1 + 1) (Int32.toNatClampNeg y4))))), (5, .int x5), (6, .int x6), (7, .int y4)]) (st' := []) rfl rfl ?_
      refine y_pure (pc' := 72) (st' := [.int x3]) rfl rfl ?_
      refine y_pure (pc' := 73) (st' := [.ref x1, .int x3]) rfl rfl ?_
      refine y_getf (pc' := 76) (v := .ref (x1 + 1)) rfl rfl rfl hk1 rfl rfl ?_
      refine y_pure (pc' := 78) (st' := [.int y4, .ref (x1 + 1), .int x3]) rfl rfl ?_
      refine y_iald (pc' := 79) rfl (zf_0_8 hk1) hi10 rfl ?_
      refine y_pure (pc' := 80) (st' := [.int (x3 ||| (M7.1 (x1 + 1) (Int32.toNatClampNeg y4)))]) rfl rfl ?_
      refine y_pure (pc' := 81) (ls' := [(0, .ref 262), (1, .ref x1), (2, .int x2), (3, .int (x3 ||| (M7.1 (x1 + 1) (Int32.toNatClampNeg y4)))), (4, .int (x4 ||| (x3 &&& (M7.1 (x1 + 1) (Int32.toNatClampNeg y4))))), (5, .int x5), (6, .int x6), (7, .int y4)]) (st' := []) rfl rfl ?_
      refine y_pure (pc' := 84) (ls' := [(0, .ref 262), (1, .ref x1), (2, .int x2), (3, .int (x3 ||| (M7.1 (x1 + 1) (Int32.toNatClampNeg y4)))), (4, .int (x4 ||| (x3 &&& (M7.1 (x1 + 1) (Int32.toNatClampNeg y4))))), (5, .int x5), (6, .int (x6 + (nI 1))), (7, .int y4)]) (st' := []) rfl rfl ?_
      refine y_pure (pc' := 11) rfl rfl ?_
      refine zEx_sub ?_ h
      exact ⟨rfl, rfl, rfl, rfl, rfl, rfl, rfl, trivial⟩
    · refine y_cnd (pc' := 42) rfl rfl (zc_eqF hc9) rfl ?_
      refine y_pure (pc' := 44) (st' := [.int x5]) rfl rfl ?_
      refine y_pure (pc' := 45) (st' := [.ref x1, .int x5]) rfl rfl ?_
      refine y_getf (pc' := 48) (v := .ref (x1 + 1)) rfl rfl rfl hk1 rfl rfl ?_
      refine y_pure (pc' := 50) (st' := [.int y4, .ref (x1 + 1), .int x5]) rfl rfl ?_
      obtain ⟨hi11, h⟩ := zg_inv h
      refine y_iald (pc' := 51) rfl (zf_0_8 hk1) hi11 rfl ?_
      refine y_pure (pc' := 52) (st' := [.int (x5 ||| (M7.1 (x1 + 1) (Int32.toNatClampNeg y4)))]) rfl rfl ?_
      refine y_pure (pc' := 54) (ls' := [(0, .ref 262), (1, .ref x1), (2, .int x2), (3, .int x3), (4, .int x4), (5, .int (x5 ||| (M7.1 (x1 + 1) (Int32.toNatClampNeg y4)))), (6, .int x6), (7, .int y4)]) (st' := []) rfl rfl ?_
      refine y_pure (pc' := 81) rfl rfl ?_
      refine y_pure (pc' := 84) (ls' := [(0, .ref 262), (1, .ref x1), (2, .int x2), (3, .int x3), (4, .int x4), (5, .int (x5 ||| (M7.1 (x1 + 1) (Int32.toNatClampNeg y4)))), (6, .int (x6 + (nI 1))), (7, .int y4)]) (st' := []) rfl rfl ?_
      refine y_pure (pc' := 11) rfl rfl ?_
      refine zEx_sub ?_ h
      exact ⟨rfl, rfl, rfl, rfl, rfl, rfl, rfl, trivial⟩
  · refine y_cmp (pc' := 87) rfl rfl (zc_geT hc2) rfl ?_
    refine y_pure (pc' := 88) (st' := [.int x3]) rfl rfl ?_
    refine y_pure (pc' := 90) (st' := [.int x4, .int x3]) rfl rfl ?_
    refine y_pure (pc' := 91) (st' := [.int (-1 : Int32), .int x4, .int x3]) rfl rfl ?_
    refine y_pure (pc' := 92) (st' := [.int (x4 ^^^ (-1 : Int32)), .int x3]) rfl rfl ?_
    refine y_pure (pc' := 93) (st' := [.int (x3 &&& (x4 ^^^ (-1 : Int32)))]) rfl rfl ?_
    refine y_pure (pc' := 95) (st' := [.int x5, .int (x3 &&& (x4 ^^^ (-1 : Int32)))]) rfl rfl ?_
    refine y_pure (pc' := 96) (st' := [.int (-1 : Int32), .int x5, .int (x3 &&& (x4 ^^^ (-1 : Int32)))]) rfl rfl ?_
    refine y_pure (pc' := 97) (st' := [.int (x5 ^^^ (-1 : Int32)), .int (x3 &&& (x4 ^^^ (-1 : Int32)))]) rfl rfl ?_
    refine y_pure (pc' := 98) (st' := [.int ((x3 &&& (x4 ^^^ (-1 : Int32))) &&& (x5 ^^^ (-1 : Int32)))]) rfl rfl ?_
    refine y_pure (pc' := 100) (ls' := [(0, .ref 262), (1, .ref x1), (2, .int x2), (3, .int x3), (4, .int x4), (5, .int x5), (6, .int ((x3 &&& (x4 ^^^ (-1 : Int32))) &&& (x5 ^^^ (-1 : Int32))))]) (st' := []) rfl rfl ?_
    refine y_pure (pc' := 102) (st' := [.int ((x3 &&& (x4 ^^^ (-1 : Int32))) &&& (x5 ^^^ (-1 : Int32)))]) rfl rfl ?_
    rcases zif_inv h with ⟨hc12, h⟩ | ⟨hc12, h⟩
    · refine y_cnd (pc' := 105) rfl rfl (zc_neF hc12) rfl ?_
      refine y_pure (pc' := 106) (st' := [.int (nI 0)]) rfl rfl ?_
      exact y_retZ rfl rfl (by decide) h
    · refine y_cnd (pc' := 107) rfl rfl (zc_neT hc12) rfl ?_
      refine y_pure (pc' := 108) (st' := [.ref 262]) rfl rfl ?_
      refine y_getf (pc' := 111) (v := .ref 395) rfl rfl rfl zc_262 rfl rfl ?_
      refine y_pure (pc' := 112) (st' := [.ref 262, .ref 395]) rfl rfl ?_
      refine y_getf (pc' := 115) (v := .ref 263) rfl rfl rfl zc_262 rfl rfl ?_
      refine y_pure (pc' := 116) (st' := [.ref x1, .ref 263, .ref 395]) rfl rfl ?_
      refine y_pure (pc' := 117) (st' := [.int x2, .ref x1, .ref 263, .ref 395]) rfl rfl ?_
      obtain ⟨v15, M14, he13, h⟩ := zC3_inv h
      obtain ⟨hk16, h⟩ := zg_inv h
      refine y_callV (pc' := 120) (y := zmRS_ready) (a' := [.ref x1, .int x2]) (st' := [.ref 395]) rfl rfl rfl rfl rfl (zrecv_o (o := 4) zc_263 rfl) rfl he13 rfl rfl ?_
      refine y_pure (pc' := 121) (st' := [.ref x1, .ref v15, .ref 395]) rfl rfl ?_
      refine y_getf (pc' := 124) (v := .ref (x1 + 1)) rfl rfl rfl hk1 rfl rfl ?_
      refine y_pure (pc' := 125) (st' := [.ref x1, .ref (x1 + 1), .ref v15, .ref 395]) rfl rfl ?_
      refine y_getf (pc' := 128) (v := .ref (x1 + 6)) rfl rfl rfl hk1 rfl rfl ?_
      refine y_pure (pc' := 129) (st' := [.int x2, .ref (x1 + 6), .ref (x1 + 1), .ref v15, .ref 395]) rfl rfl ?_
      refine y_aald (pc' := 130) (q' := x1 + 7 + (Int32.toNatClampNeg x2)) rfl (zf_0_13 hk1) hi1 (congrArg (HAdd.hAdd (x1 + 7)) (Nat.one_mul _)) rfl ?_
      obtain ⟨M18, he17, h⟩ := zC0_inv h
      refine y_callV (pc' := 133) (y := zmY_tally) (a' := [.ref v15, .ref (x1 + 1), .ref (x1 + 7 + (Int32.toNatClampNeg x2))]) (st' := []) rfl rfl rfl rfl rfl (zrecv_o (o := 7) zc_395 rfl) rfl he17 rfl rfl ?_
      refine y_pure (pc' := 135) (st' := [.int ((x3 &&& (x4 ^^^ (-1 : Int32))) &&& (x5 ^^^ (-1 : Int32)))]) rfl rfl ?_
      refine y_pure (pc' := 136) (st' := [.ref 262, .int ((x3 &&& (x4 ^^^ (-1 : Int32))) &&& (x5 ^^^ (-1 : Int32)))]) rfl rfl ?_
      refine y_getf (pc' := 139) (v := .ref 395) rfl rfl rfl zc_262 rfl rfl ?_
      obtain ⟨v21, M20, he19, h⟩ := zC1_inv h
      refine y_callV (pc' := 142) (y := zmY_inAll) (a' := []) (st' := [.int ((x3 &&& (x4 ^^^ (-1 : Int32))) &&& (x5 ^^^ (-1 : Int32)))]) rfl rfl rfl rfl rfl (zrecv_o (o := 7) zc_395 rfl) rfl he19 rfl rfl ?_
      refine y_pure (pc' := 143) (st' := [.int (((x3 &&& (x4 ^^^ (-1 : Int32))) &&& (x5 ^^^ (-1 : Int32))) &&& v21)]) rfl rfl ?_
      obtain ⟨y22, e23, h⟩ := zL_inv h
      refine zT_gen e23 ?_
      refine y_pure (pc' := 145) (ls' := [(0, .ref 262), (1, .ref x1), (2, .int x2), (3, .int x3), (4, .int x4), (5, .int x5), (6, .int y22)]) (st' := []) rfl rfl ?_
      refine y_pure (pc' := 146) (st' := [.int (nI 1)]) rfl rfl ?_
      refine y_pure (pc' := 148) (ls' := [(0, .ref 262), (1, .ref x1), (2, .int x2), (3, .int x3), (4, .int x4), (5, .int x5), (6, .int y22), (7, .int (nI 1))]) (st' := []) rfl rfl ?_
      refine zEx_sub ?_ h
      exact ⟨rfl, rfl, rfl, rfl, rfl, trivial⟩
theorem e_L_findMust_148 {d : Nat} {x1 : Nat} {x2 : Int32} {x6 : Int32} {x7 : Int32} {M : ZM} {r : ZR} (hk1 : zkd x1 = (10, 0)) (h : (if (nI 7) < x7 then some (some (.int (nI 0)), M) else (if ((x6 >>> (x7 &&& 31)) &&& (nI 1)) = (nI 1) then zC1 (zEv d zmL_findHolder [.ref 262, .ref x1, .int x2, .int x7] M) (fun v5 M4 => (if v5 = (nI 0) then h_L_findMust_148 d x1 x2 x6 (x7 + (nI 1)) M4 else some (some (.int (nI 1)), M4))) else h_L_findMust_148 d x1 x2 x6 (x7 + (nI 1)) M)) = some r) : h_L_findMust_148 d x1 x2 x6 x7 M = some r := by
  show zEx0 (zEv d) zmL_findMust (148, [(0, .ref 262), (1, .ref x1), (2, .int x2), (6, .int x6), (7, .int x7)], [], M) = some r
  refine y_pure (pc' := 150) (st' := [.int x7]) rfl rfl ?_
  refine y_pure (pc' := 152) (st' := [.int (nI 7), .int x7]) rfl rfl ?_
  rcases zif_inv h with ⟨hc1, h⟩ | ⟨hc1, h⟩
  · refine y_cmp (pc' := 185) rfl rfl (zc_gtT hc1) rfl ?_
    refine y_pure (pc' := 186) (st' := [.int (nI 0)]) rfl rfl ?_
    exact y_retZ rfl rfl (by decide) h
  · refine y_cmp (pc' := 155) rfl rfl (zc_gtF hc1) rfl ?_
    refine y_pure (pc' := 157) (st' := [.int x6]) rfl rfl ?_
    refine y_pure (pc' := 159) (st' := [.int x7, .int x6]) rfl rfl ?_
    refine y_pure (pc' := 160) (st' := [.int (x6 >>> (x7 &&& 31))]) rfl rfl ?_
    refine y_pure (pc' := 161) (st' := [.int (nI 1), .int (x6 >>> (x7 &&& 31))]) rfl rfl ?_
    refine y_pure (pc' := 162) (st' := [.int ((x6 >>> (x7 &&& 31)) &&& (nI 1))]) rfl rfl ?_
    refine y_pure (pc' := 163) (st' := [.int (nI 1), .int ((x6 >>> (x7 &&& 31)) &&& (nI 1))]) rfl rfl ?_
    rcases zif_inv h with ⟨hc2, h⟩ | ⟨hc2, h⟩
    · refine y_cmp (pc' := 166) rfl rfl (zc_neF hc2) rfl ?_
      refine y_pure (pc' := 167) (st' := [.ref 262]) rfl rfl ?_
      refine y_pure (pc' := 168) (st' := [.ref x1, .ref 262]) rfl rfl ?_
      refine y_pure (pc' := 169) (st' := [.int x2, .ref x1, .ref 262]) rfl rfl ?_
      refine y_pure (pc' := 171) (st' := [.int x7, .int x2, .ref x1, .ref 262]) rfl rfl ?_
      obtain ⟨v5, M4, he3, h⟩ := zC1_inv h
      refine y_callV (pc' := 174) (y := zmL_findHolder) (a' := [.ref x1, .int x2, .int x7]) (st' := []) rfl rfl rfl rfl rfl (zrecv_o (o := 1) zc_262 rfl) rfl he3 rfl rfl ?_
      rcases zif_inv h with ⟨hc6, h⟩ | ⟨hc6, h⟩
      · refine y_cnd (pc' := 179) rfl rfl (zc_eqT hc6) rfl ?_
        refine y_pure (pc' := 182) (ls' := [(0, .ref 262), (1, .ref x1), (2, .int x2), (6, .int x6), (7, .int (x7 + (nI 1)))]) (st' := []) rfl rfl ?_
        refine y_pure (pc' := 148) rfl rfl ?_
        refine zEx_sub ?_ h
        exact ⟨rfl, rfl, rfl, rfl, rfl, trivial⟩
      · refine y_cnd (pc' := 177) rfl rfl (zc_eqF hc6) rfl ?_
        refine y_pure (pc' := 178) (st' := [.int (nI 1)]) rfl rfl ?_
        exact y_retZ rfl rfl (by decide) h
    · refine y_cmp (pc' := 179) rfl rfl (zc_neT hc2) rfl ?_
      refine y_pure (pc' := 182) (ls' := [(0, .ref 262), (1, .ref x1), (2, .int x2), (6, .int x6), (7, .int (x7 + (nI 1)))]) (st' := []) rfl rfl ?_
      refine y_pure (pc' := 148) rfl rfl ?_
      refine zEx_sub ?_ h
      exact ⟨rfl, rfl, rfl, rfl, rfl, trivial⟩
theorem e_L_findMust {d : Nat} {x1 : Nat} {x2 : Int32} {M : ZM} {r : ZR} (hk1 : zkd x1 = (10, 0)) (h : h_L_findMust_11 d x1 x2 (nI 0) (nI 0) (nI 0) (nI 0) M = some r) : zEv (d + 1) zmL_findMust [.ref 262, .ref x1, .int x2] M = some r := by
  rw [zEv_succ]
  show zEx0 (zEv d) zmL_findMust (0, [(0, .ref 262), (1, .ref x1), (2, .int x2)], [], M) = some r
  refine y_pure (pc' := 1) (st' := [.int (nI 0)]) rfl rfl ?_
  refine y_pure (pc' := 2) (ls' := [(0, .ref 262), (1, .ref x1), (2, .int x2), (3, .int (nI 0))]) (st' := []) rfl rfl ?_
  refine y_pure (pc' := 3) (st' := [.int (nI 0)]) rfl rfl ?_
  refine y_pure (pc' := 5) (ls' := [(0, .ref 262), (1, .ref x1), (2, .int x2), (3, .int (nI 0)), (4, .int (nI 0))]) (st' := []) rfl rfl ?_
  refine y_pure (pc' := 6) (st' := [.int (nI 0)]) rfl rfl ?_
  refine y_pure (pc' := 8) (ls' := [(0, .ref 262), (1, .ref x1), (2, .int x2), (3, .int (nI 0)), (4, .int (nI 0)), (5, .int (nI 0))]) (st' := []) rfl rfl ?_
  refine y_pure (pc' := 9) (st' := [.int (nI 0)]) rfl rfl ?_
  refine y_pure (pc' := 11) (ls' := [(0, .ref 262), (1, .ref x1), (2, .int x2), (3, .int (nI 0)), (4, .int (nI 0)), (5, .int (nI 0)), (6, .int (nI 0))]) (st' := []) rfl rfl ?_
  refine zEx_sub ?_ h
  exact ⟨rfl, rfl, rfl, rfl, rfl, rfl, rfl, trivial⟩
noncomputable def h_L_findHolder_3 (d : Nat) (x1 : Nat) (x2 : Int32) (x3 : Int32) (x4 : Int32) (M : ZM) : Option ZR := zEx0 (zEv d) zmL_findHolder (3, [(0, .ref 262), (1, .ref x1), (2, .int x2), (3, .int x3), (4, .int x4)], [], M)
theorem e_L_findHolder_3 {d : Nat} {x1 : Nat} {x2 : Int32} {x3 : Int32} {x4 : Int32} {M : ZM} {r : ZR} (hk1 : zkd x1 = (10, 0)) (h : (if zin x2 12 = true then (if x4 < (M.1 (x1 + 4) (Int32.toNatClampNeg x2)) then (if zin x4 6 = true then zL (M.1 (x1 + 7 + (Int32.toNatClampNeg x2)) (Int32.toNatClampNeg x4)) (fun y4 => zC1 (zEv d zmB_hasMark [.ref x1, .int y4, .int x3] M) (fun v8 M7 => (if v8 = (nI 0) then h_L_findHolder_3 d x1 x2 x3 (x4 + (nI 1)) M7 else zC1 (zEv d zmB_isDone [.ref x1, .int y4] M7) (fun v12 M11 => (if v12 = (nI 0) then (if zin y4 36 = true then zC1 (zEv d zmJI_bitCount [.int (M11.1 (x1 + 1) (Int32.toNatClampNeg y4))] M11) (fun v17 M16 => (if (nI 1) < v17 then zC1 (zEv d zmL_found [.ref 262, .int (nI 3), .int x2, .int y4, .int x3] M16) (fun v21 M20 => (if v21 = nI 0 ∨ v21 = nI 1 then some (some (.int v21), M20) else none)) else h_L_findHolder_3 d x1 x2 x3 (x4 + (nI 1)) M16)) else none) else h_L_findHolder_3 d x1 x2 x3 (x4 + (nI 1)) M11))))) else none) else some (some (.int (nI 0)), M)) else none) = some r) : h_L_findHolder_3 d x1 x2 x3 x4 M = some r := by
  show zEx0 (zEv d) zmL_findHolder (3, [(0, .ref 262), (1, .ref x1), (2, .int x2), (3, .int x3), (4, .int x4)], [], M) = some r
  refine y_pure (pc' := 5) (st' := [.int x4]) rfl rfl ?_
  refine y_pure (pc' := 6) (st' := [.ref x1, .int x4]) rfl rfl ?_
  refine y_getf (pc' := 9) (v := .ref (x1 + 4)) rfl rfl rfl hk1 rfl rfl ?_
  refine y_pure (pc' := 10) (st' := [.int x2, .ref (x1 + 4), .int x4]) rfl rfl ?_
  obtain ⟨hi1, h⟩ := zg_inv h
  refine y_iald (pc' := 11) rfl (zf_0_11 hk1) hi1 rfl ?_
  rcases zif_inv h with ⟨hc2, h⟩ | ⟨hc2, h⟩
  · refine y_cmp (pc' := 14) rfl rfl (zc_geF hc2) rfl ?_
    refine y_pure (pc' := 15) (st' := [.ref x1]) rfl rfl ?_
    refine y_getf (pc' := 18) (v := .ref (x1 + 6)) rfl rfl rfl hk1 rfl rfl ?_
    refine y_pure (pc' := 19) (st' := [.int x2, .ref (x1 + 6)]) rfl rfl ?_
    refine y_aald (pc' := 20) (q' := x1 + 7 + (Int32.toNatClampNeg x2)) rfl (zf_0_13 hk1) hi1 (congrArg (HAdd.hAdd (x1 + 7)) (Nat.one_mul _)) rfl ?_
    refine y_pure (pc' := 22) (st' := [.int x4, .ref (x1 + 7 + (Int32.toNatClampNeg x2))]) rfl rfl ?_
    obtain ⟨hi3, h⟩ := zg_inv h
    refine y_iald (pc' := 23) rfl (zl_0 (zf_0_13 hk1) hi1) hi3 rfl ?_
    obtain ⟨y4, e5, h⟩ := zL_inv h
    refine zT_gen e5 ?_
    refine y_pure (pc' := 25) (ls' := [(0, .ref 262), (1, .ref x1), (2, .int x2), (3, .int x3), (4, .int x4), (5, .int y4)]) (st' := []) rfl rfl ?_
    refine y_pure (pc' := 26) (st' := [.ref x1]) rfl rfl ?_
    refine y_pure (pc' := 28) (st' := [.int y4, .ref x1]) rfl rfl ?_
    refine y_pure (pc' := 29) (st' := [.int x3, .int y4, .ref x1]) rfl rfl ?_
    obtain ⟨v8, M7, he6, h⟩ := zC1_inv h
    refine y_callV (pc' := 32) (y := zmB_hasMark) (a' := [.int y4, .int x3]) (st' := []) rfl rfl rfl rfl rfl (zrecv_o (o := 0) hk1 rfl) rfl he6 rfl rfl ?_
    rcases zif_inv h with ⟨hc9, h⟩ | ⟨hc9, h⟩
    · refine y_cnd (pc' := 68) rfl rfl (zc_eqT hc9) rfl ?_
      refine y_pure (pc' := 71) (ls' := [(0, .ref 262), (1, .ref x1), (2, .int x2), (3, .int x3), (4, .int (x4 + (nI 1))), (5, .int y4)]) (st' := []) rfl rfl ?_
      refine y_pure (pc' := 3) rfl rfl ?_
      refine zEx_sub ?_ h
      exact ⟨rfl, rfl, rfl, rfl, rfl, trivial⟩
    · refine y_cnd (pc' := 35) rfl rfl (zc_eqF hc9) rfl ?_
      refine y_pure (pc' := 36) (st' := [.ref x1]) rfl rfl ?_
      refine y_pure (pc' := 38) (st' := [.int y4, .ref x1]) rfl rfl ?_
      obtain ⟨v12, M11, he10, h⟩ := zC1_inv h
      refine y_callV (pc' := 41) (y := zmB_isDone) (a' := [.int y4]) (st' := []) rfl rfl rfl rfl rfl (zrecv_o (o := 0) hk1 rfl) rfl he10 rfl rfl ?_
      rcases zif_inv h with ⟨hc13, h⟩ | ⟨hc13, h⟩
      · refine y_cnd (pc' := 44) rfl rfl (zc_neF hc13) rfl ?_
        refine y_pure (pc' := 45) (st' := [.ref x1]) rfl rfl ?_
        refine y_getf (pc' := 48) (v := .ref (x1 + 1)) rfl rfl rfl hk1 rfl rfl ?_
        refine y_pure (pc' := 50) (st' := [.int y4, .ref (x1 + 1)]) rfl rfl ?_
        obtain ⟨hi14, h⟩ := zg_inv h
        refine y_iald (pc' := 51) rfl (zf_0_8 hk1) hi14 rfl ?_
        obtain ⟨v17, M16, he15, h⟩ := zC1_inv h
        refine y_callS (pc' := 54) (y := zmJI_bitCount) (a := [.int (M11.1 (x1 + 1) (Int32.toNatClampNeg y4))]) (st' := []) rfl rfl rfl rfl rfl rfl he15 rfl rfl ?_
        refine y_pure (pc' := 55) (st' := [.int (nI 1), .int v17]) rfl rfl ?_
        rcases zif_inv h with ⟨hc18, h⟩ | ⟨hc18, h⟩
        · refine y_cmp (pc' := 58) rfl rfl (zc_leF hc18) rfl ?_
          refine y_pure (pc' := 59) (st' := [.ref 262]) rfl rfl ?_
          refine y_pure (pc' := 60) (st' := [.int (nI 3), .ref 262]) rfl rfl ?_
          refine y_pure (pc' := 61) (st' := [.int x2, .int (nI 3), .ref 262]) rfl rfl ?_
          refine y_pure (pc' := 63) (st' := [.int y4, .int x2, .int (nI 3), .ref 262]) rfl rfl ?_
          refine y_pure (pc' := 64) (st' := [.int x3, .int y4, .int x2, .int (nI 3), .ref 262]) rfl rfl ?_
          obtain ⟨v21, M20, he19, h⟩ := zC1_inv h
          refine y_callV (pc' := 67) (y := zmL_found) (a' := [.int (nI 3), .int x2, .int y4, .int x3]) (st' := []) rfl rfl rfl rfl rfl (zrecv_o (o := 1) zc_262 rfl) rfl he19 rfl rfl ?_
          obtain ⟨hb22, h⟩ := zg_inv h
          exact y_retZ rfl rfl hb22 h
        · refine y_cmp (pc' := 68) rfl rfl (zc_leT hc18) rfl ?_
          refine y_pure (pc' := 71) (ls' := [(0, .ref 262), (1, .ref x1), (2, .int x2), (3, .int x3), (4, .int (x4 + (nI 1))), (5, .int y4)]) (st' := []) rfl rfl ?_
          refine y_pure (pc' := 3) rfl rfl ?_
          refine zEx_sub ?_ h
          exact ⟨rfl, rfl, rfl, rfl, rfl, trivial⟩
      · refine y_cnd (pc' := 68) rfl rfl (zc_neT hc13) rfl ?_
        refine y_pure (pc' := 71) (ls' := [(0, .ref 262), (1, .ref x1), (2, .int x2), (3, .int x3), (4, .int (x4 + (nI 1))), (5, .int y4)]) (st' := []) rfl rfl ?_
        refine y_pure (pc' := 3) rfl rfl ?_
        refine zEx_sub ?_ h
        exact ⟨rfl, rfl, rfl, rfl, rfl, trivial⟩
  · refine y_cmp (pc' := 74) rfl rfl (zc_geT hc2) rfl ?_
    refine y_pure (pc' := 75) (st' := [.int (nI 0)]) rfl rfl ?_
    exact y_retZ rfl rfl (by decide) h
theorem e_L_findHolder {d : Nat} {x1 : Nat} {x2 : Int32} {x3 : Int32} {M : ZM} {r : ZR} (hk1 : zkd x1 = (10, 0)) (h : h_L_findHolder_3 d x1 x2 x3 (nI 0) M = some r) : zEv (d + 1) zmL_findHolder [.ref 262, .ref x1, .int x2, .int x3] M = some r := by
  rw [zEv_succ]
  show zEx0 (zEv d) zmL_findHolder (0, [(0, .ref 262), (1, .ref x1), (2, .int x2), (3, .int x3)], [], M) = some r
  refine y_pure (pc' := 1) (st' := [.int (nI 0)]) rfl rfl ?_
  refine y_pure (pc' := 3) (ls' := [(0, .ref 262), (1, .ref x1), (2, .int x2), (3, .int x3), (4, .int (nI 0))]) (st' := []) rfl rfl ?_
  refine zEx_sub ?_ h
  exact ⟨rfl, rfl, rfl, rfl, rfl, trivial⟩
noncomputable def h_L_findTwins_2 (d : Nat) (x1 : Nat) (x2 : Int32) (x3 : Int32) (M : ZM) : Option ZR := zEx0 (zEv d) zmL_findTwins (2, [(0, .ref 262), (1, .ref x1), (2, .int x2), (3, .int x3)], [], M)
noncomputable def h_L_findTwins_53 (d : Nat) (x1 : Nat) (x2 : Int32) (x3 : Int32) (x4 : Int32) (x5 : Int32) (M : ZM) : Option ZR := zEx0 (zEv d) zmL_findTwins (53, [(0, .ref 262), (1, .ref x1), (2, .int x2), (3, .int x3), (4, .int x4), (5, .int x5)], [], M)
theorem e_L_findTwins_2 {d : Nat} {x1 : Nat} {x2 : Int32} {x3 : Int32} {M : ZM} {r : ZR} (hk1 : zkd x1 = (10, 0)) (h : (if zin x2 12 = true then (if x3 < (M.1 (x1 + 4) (Int32.toNatClampNeg x2)) then (if zin x3 6 = true then zL (M.1 (x1 + 7 + (Int32.toNatClampNeg x2)) (Int32.toNatClampNeg x3)) (fun y4 => zC1 (zEv d zmB_isDone [.ref x1, .int y4] M) (fun v8 M7 => (if v8 = (nI 0) then (if zin y4 36 = true then zC1 (zEv d zmJI_bitCount [.int (M7.1 (x1 + 1) (Int32.toNatClampNeg y4))] M7) (fun v13 M12 => (if v13 = (nI 2) then h_L_findTwins_53 d x1 x2 x3 y4 (x3 + (nI 1)) M12 else h_L_findTwins_2 d x1 x2 (x3 + (nI 1)) M12)) else none) else h_L_findTwins_2 d x1 x2 (x3 + (nI 1)) M7))) else none) else some (some (.int (nI 0)), M)) else none) = some r) : h_L_findTwins_2 d x1 x2 x3 M = some r := by
  show zEx0 (zEv d) zmL_findTwins (2, [(0, .ref 262), (1, .ref x1), (2, .int x2), (3, .int x3)], [], M) = some r
  refine y_pure (pc' := 3) (st' := [.int x3]) rfl rfl ?_
  refine y_pure (pc' := 4) (st' := [.ref x1, .int x3]) rfl rfl ?_
  refine y_getf (pc' := 7) (v := .ref (x1 + 4)) rfl rfl rfl hk1 rfl rfl ?_
  refine y_pure (pc' := 8) (st' := [.int x2, .ref (x1 + 4), .int x3]) rfl rfl ?_
  obtain ⟨hi1, h⟩ := zg_inv h
  refine y_iald (pc' := 9) rfl (zf_0_11 hk1) hi1 rfl ?_
  rcases zif_inv h with ⟨hc2, h⟩ | ⟨hc2, h⟩
  · refine y_cmp (pc' := 12) rfl rfl (zc_geF hc2) rfl ?_
    refine y_pure (pc' := 13) (st' := [.ref x1]) rfl rfl ?_
    refine y_getf (pc' := 16) (v := .ref (x1 + 6)) rfl rfl rfl hk1 rfl rfl ?_
    refine y_pure (pc' := 17) (st' := [.int x2, .ref (x1 + 6)]) rfl rfl ?_
    refine y_aald (pc' := 18) (q' := x1 + 7 + (Int32.toNatClampNeg x2)) rfl (zf_0_13 hk1) hi1 (congrArg (HAdd.hAdd (x1 + 7)) (Nat.one_mul _)) rfl ?_
    refine y_pure (pc' := 19) (st' := [.int x3, .ref (x1 + 7 + (Int32.toNatClampNeg x2))]) rfl rfl ?_
    obtain ⟨hi3, h⟩ := zg_inv h
    refine y_iald (pc' := 20) rfl (zl_0 (zf_0_13 hk1) hi1) hi3 rfl ?_
    obtain ⟨y4, e5, h⟩ := zL_inv h
    refine zT_gen e5 ?_
    refine y_pure (pc' := 22) (ls' := [(0, .ref 262), (1, .ref x1), (2, .int x2), (3, .int x3), (4, .int y4)]) (st' := []) rfl rfl ?_
    refine y_pure (pc' := 23) (st' := [.ref x1]) rfl rfl ?_
    refine y_pure (pc' := 25) (st' := [.int y4, .ref x1]) rfl rfl ?_
    obtain ⟨v8, M7, he6, h⟩ := zC1_inv h
    refine y_callV (pc' := 28) (y := zmB_isDone) (a' := [.int y4]) (st' := []) rfl rfl rfl rfl rfl (zrecv_o (o := 0) hk1 rfl) rfl he6 rfl rfl ?_
    rcases zif_inv h with ⟨hc9, h⟩ | ⟨hc9, h⟩
    · refine y_cnd (pc' := 31) rfl rfl (zc_neF hc9) rfl ?_
      refine y_pure (pc' := 32) (st' := [.ref x1]) rfl rfl ?_
      refine y_getf (pc' := 35) (v := .ref (x1 + 1)) rfl rfl rfl hk1 rfl rfl ?_
      refine y_pure (pc' := 37) (st' := [.int y4, .ref (x1 + 1)]) rfl rfl ?_
      obtain ⟨hi10, h⟩ := zg_inv h
      refine y_iald (pc' := 38) rfl (zf_0_8 hk1) hi10 rfl ?_
      obtain ⟨v13, M12, he11, h⟩ := zC1_inv h
      refine y_callS (pc' := 41) (y := zmJI_bitCount) (a := [.int (M7.1 (x1 + 1) (Int32.toNatClampNeg y4))]) (st' := []) rfl rfl rfl rfl rfl rfl he11 rfl rfl ?_
      refine y_pure (pc' := 42) (st' := [.int (nI 2), .int v13]) rfl rfl ?_
      rcases zif_inv h with ⟨hc14, h⟩ | ⟨hc14, h⟩
      · refine y_cmp (pc' := 48) rfl rfl (zc_eqT hc14) rfl ?_
        refine y_pure (pc' := 49) (st' := [.int x3]) rfl rfl ?_
        refine y_pure (pc' := 50) (st' := [.int (nI 1), .int x3]) rfl rfl ?_
        refine y_pure (pc' := 51) (st' := [.int (x3 + (nI 1))]) rfl rfl ?_
        refine y_pure (pc' := 53) (ls' := [(0, .ref 262), (1, .ref x1), (2, .int x2), (3, .int x3), (4, .int y4), (5, .int (x3 + (nI 1)))]) (st' := []) rfl rfl ?_
        refine zEx_sub ?_ h
        exact ⟨rfl, rfl, rfl, rfl, rfl, rfl, trivial⟩
      · refine y_cmp (pc' := 45) rfl rfl (zc_eqF hc14) rfl ?_
        refine y_pure (pc' := 145) rfl rfl ?_
        refine y_pure (pc' := 148) (ls' := [(0, .ref 262), (1, .ref x1), (2, .int x2), (3, .int (x3 + (nI 1))), (4, .int y4)]) (st' := []) rfl rfl ?_
        refine y_pure (pc' := 2) rfl rfl ?_
        refine zEx_sub ?_ h
        exact ⟨rfl, rfl, rfl, rfl, trivial⟩
    · refine y_cnd (pc' := 145) rfl rfl (zc_neT hc9) rfl ?_
      refine y_pure (pc' := 148) (ls' := [(0, .ref 262), (1, .ref x1), (2, .int x2), (3, .int (x3 + (nI 1))), (4, .int y4)]) (st' := []) rfl rfl ?_
      refine y_pure (pc' := 2) rfl rfl ?_
      refine zEx_sub ?_ h
      exact ⟨rfl, rfl, rfl, rfl, trivial⟩
  · refine y_cmp (pc' := 151) rfl rfl (zc_geT hc2) rfl ?_
    refine y_pure (pc' := 152) (st' := [.int (nI 0)]) rfl rfl ?_
    exact y_retZ rfl rfl (by decide) h
theorem e_L_findTwins_53 {d : Nat} {x1 : Nat} {x2 : Int32} {x3 : Int32} {x4 : Int32} {x5 : Int32} {M : ZM} {r : ZR} (hk1 : zkd x1 = (10, 0)) (h : (if zin x2 12 = true then (if x5 < (M.1 (x1 + 4) (Int32.toNatClampNeg x2)) then (if zin x5 6 = true then zL (M.1 (x1 + 7 + (Int32.toNatClampNeg x2)) (Int32.toNatClampNeg x5)) (fun y4 => zC1 (zEv d zmB_isDone [.ref x1, .int y4] M) (fun v8 M7 => (if v8 = (nI 0) then (if zin y4 36 = true then (if zin x4 36 = true then (if (M7.1 (x1 + 1) (Int32.toNatClampNeg y4)) = (M7.1 (x1 + 1) (Int32.toNatClampNeg x4)) then zC1 (zEv d zmL_isMarkedElsewhere [.ref 262, .ref x1, .int x2, .int x4, .int y4] M7) (fun v15 M14 => (if v15 = (nI 0) then h_L_findTwins_53 d x1 x2 x3 x4 (x5 + (nI 1)) M14 else zC1 (zEv d zmC_leastDigit [.int ((zpi M14 262 9 y4).1 (x1 + 1) (Int32.toNatClampNeg x4))] (zpi M14 262 9 y4)) (fun v19 M18 => zC1 (zEv d zmL_found [.ref 262, .int (nI 4), .int x2, .int x4, .int v19] M18) (fun v22 M21 => (if v22 = nI 0 ∨ v22 = nI 1 then some (some (.int v22), M21) else none))))) else h_L_findTwins_53 d x1 x2 x3 x4 (x5 + (nI 1)) M7) else none) else none) else h_L_findTwins_53 d x1 x2 x3 x4 (x5 + (nI 1)) M7))) else none) else h_L_findTwins_2 d x1 x2 (x3 + (nI 1)) M) else none) = some r) : h_L_findTwins_53 d x1 x2 x3 x4 x5 M = some r := by
  show zEx0 (zEv d) zmL_findTwins (53, [(0, .ref 262), (1, .ref x1), (2, .int x2), (3, .int x3), (4, .int x4), (5, .int x5)], [], M) = some r
  refine y_pure (pc' := 55) (st' := [.int x5]) rfl rfl ?_
  refine y_pure (pc' := 56) (st' := [.ref x1, .int x5]) rfl rfl ?_
  refine y_getf (pc' := 59) (v := .ref (x1 + 4)) rfl rfl rfl hk1 rfl rfl ?_
  refine y_pure (pc' := 60) (st' := [.int x2, .ref (x1 + 4), .int x5]) rfl rfl ?_
  obtain ⟨hi1, h⟩ := zg_inv h
  refine y_iald (pc' := 61) rfl (zf_0_11 hk1) hi1 rfl ?_
  rcases zif_inv h with ⟨hc2, h⟩ | ⟨hc2, h⟩
  · refine y_cmp (pc' := 64) rfl rfl (zc_geF hc2) rfl ?_
    refine y_pure (pc' := 65) (st' := [.ref x1]) rfl rfl ?_
    refine y_getf (pc' := 68) (v := .ref (x1 + 6)) rfl rfl rfl hk1 rfl rfl ?_
    refine y_pure (pc' := 69) (st' := [.int x2, .ref (x1 + 6)]) rfl rfl ?_
    refine y_aald (pc' := 70) (q' := x1 + 7 + (Int32.toNatClampNeg x2)) rfl (zf_0_13 hk1) hi1 (congrArg (HAdd.hAdd (x1 + 7)) (Nat.one_mul _)) rfl ?_
    refine y_pure (pc' := 72) (st' := [.int x5, .ref (x1 + 7 + (Int32.toNatClampNeg x2))]) rfl rfl ?_
    obtain ⟨hi3, h⟩ := zg_inv h
    refine y_iald (pc' := 73) rfl (zl_0 (zf_0_13 hk1) hi1) hi3 rfl ?_
    obtain ⟨y4, e5, h⟩ := zL_inv h
    refine zT_gen e5 ?_
    refine y_pure (pc' := 75) (ls' := [(0, .ref 262), (1, .ref x1), (2, .int x2), (3, .int x3), (4, .int x4), (5, .int x5), (6, .int y4)]) (st' := []) rfl rfl ?_
    refine y_pure (pc' := 76) (st' := [.ref x1]) rfl rfl ?_
    refine y_pure (pc' := 78) (st' := [.int y4, .ref x1]) rfl rfl ?_
    obtain ⟨v8, M7, he6, h⟩ := zC1_inv h
    refine y_callV (pc' := 81) (y := zmB_isDone) (a' := [.int y4]) (st' := []) rfl rfl rfl rfl rfl (zrecv_o (o := 0) hk1 rfl) rfl he6 rfl rfl ?_
    rcases zif_inv h with ⟨hc9, h⟩ | ⟨hc9, h⟩
    · refine y_cnd (pc' := 84) rfl rfl (zc_neF hc9) rfl ?_
      refine y_pure (pc' := 85) (st' := [.ref x1]) rfl rfl ?_
      refine y_getf (pc' := 88) (v := .ref (x1 + 1)) rfl rfl rfl hk1 rfl rfl ?_
      refine y_pure (pc' := 90) (st' := [.int y4, .ref (x1 + 1)]) rfl rfl ?_
      obtain ⟨hi10, h⟩ := zg_inv h
      refine y_iald (pc' := 91) rfl (zf_0_8 hk1) hi10 rfl ?_
      refine y_pure (pc' := 92) (st' := [.ref x1, .int (M7.1 (x1 + 1) (Int32.toNatClampNeg y4))]) rfl rfl ?_
      refine y_getf (pc' := 95) (v := .ref (x1 + 1)) rfl rfl rfl hk1 rfl rfl ?_
      refine y_pure (pc' := 97) (st' := [.int x4, .ref (x1 + 1), .int (M7.1 (x1 + 1) (Int32.toNatClampNeg y4))]) rfl rfl ?_
      obtain ⟨hi11, h⟩ := zg_inv h
      refine y_iald (pc' := 98) rfl (zf_0_8 hk1) hi11 rfl ?_
      rcases zif_inv h with ⟨hc12, h⟩ | ⟨hc12, h⟩
      · refine y_cmp (pc' := 101) rfl rfl (zc_neF hc12) rfl ?_
        refine y_pure (pc' := 102) (st' := [.ref 262]) rfl rfl ?_
        refine y_pure (pc' := 103) (st' := [.ref x1, .ref 262]) rfl rfl ?_
        refine y_pure (pc' := 104) (st' := [.int x2, .ref x1, .ref 262]) rfl rfl ?_
        refine y_pure (pc' := 106) (st' := [.int x4, .int x2, .ref x1, .ref 262]) rfl rfl ?_
        refine y_pure (pc' := 108) (st' := [.int y4, .int x4, .int x2, .ref x1, .ref 262]) rfl rfl ?_
        obtain ⟨v15, M14, he13, h⟩ := zC1_inv h
        refine y_callV (pc' := 111) (y := zmL_isMarkedElsewhere) (a' := [.ref x1, .int x2, .int x4, .int y4]) (st' := []) rfl rfl rfl rfl rfl (zrecv_o (o := 1) zc_262 rfl) rfl he13 rfl rfl ?_
        rcases zif_inv h with ⟨hc16, h⟩ | ⟨hc16, h⟩
        · refine y_cnd (pc' := 139) rfl rfl (zc_eqT hc16) rfl ?_
          refine y_pure (pc' := 142) (ls' := [(0, .ref 262), (1, .ref x1), (2, .int x2), (3, .int x3), (4, .int x4), (5, .int (x5 + (nI 1))), (6, .int y4)]) (st' := []) rfl rfl ?_
          refine y_pure (pc' := 53) rfl rfl ?_
          refine zEx_sub ?_ h
          exact ⟨rfl, rfl, rfl, rfl, rfl, rfl, trivial⟩
        · refine y_cnd (pc' := 114) rfl rfl (zc_eqF hc16) rfl ?_
          refine y_pure (pc' := 115) (st' := [.ref 262]) rfl rfl ?_
          refine y_pure (pc' := 117) (st' := [.int y4, .ref 262]) rfl rfl ?_
          refine y_putI (pc' := 120) rfl rfl zc_262 rfl ?_
          refine y_pure (pc' := 121) (st' := [.ref 262]) rfl rfl ?_
          refine y_pure (pc' := 122) (st' := [.int (nI 4), .ref 262]) rfl rfl ?_
          refine y_pure (pc' := 123) (st' := [.int x2, .int (nI 4), .ref 262]) rfl rfl ?_
          refine y_pure (pc' := 125) (st' := [.int x4, .int x2, .int (nI 4), .ref 262]) rfl rfl ?_
          refine y_pure (pc' := 126) (st' := [.ref x1, .int x4, .int x2, .int (nI 4), .ref 262]) rfl rfl ?_
          refine y_getf (pc' := 129) (v := .ref (x1 + 1)) rfl rfl rfl hk1 rfl rfl ?_
          refine y_pure (pc' := 131) (st' := [.int x4, .ref (x1 + 1), .int x4, .int x2, .int (nI 4), .ref 262]) rfl rfl ?_
          refine y_iald (pc' := 132) rfl (zf_0_8 hk1) hi11 rfl ?_
          obtain ⟨v19, M18, he17, h⟩ := zC1_inv h
          refine y_callS (pc' := 135) (y := zmC_leastDigit) (a := [.int ((zpi M14 262 9 y4).1 (x1 + 1) (Int32.toNatClampNeg x4))]) (st' := [.int x4, .int x2, .int (nI 4), .ref 262]) rfl rfl rfl rfl rfl rfl he17 rfl rfl ?_
          obtain ⟨v22, M21, he20, h⟩ := zC1_inv h
          refine y_callV (pc' := 138) (y := zmL_found) (a' := [.int (nI 4), .int x2, .int x4, .int v19]) (st' := []) rfl rfl rfl rfl rfl (zrecv_o (o := 1) zc_262 rfl) rfl he20 rfl rfl ?_
          obtain ⟨hb23, h⟩ := zg_inv h
          exact y_retZ rfl rfl hb23 h
      · refine y_cmp (pc' := 139) rfl rfl (zc_neT hc12) rfl ?_
        refine y_pure (pc' := 142) (ls' := [(0, .ref 262), (1, .ref x1), (2, .int x2), (3, .int x3), (4, .int x4), (5, .int (x5 + (nI 1))), (6, .int y4)]) (st' := []) rfl rfl ?_
        refine y_pure (pc' := 53) rfl rfl ?_
        refine zEx_sub ?_ h
        exact ⟨rfl, rfl, rfl, rfl, rfl, rfl, trivial⟩
    · refine y_cnd (pc' := 139) rfl rfl (zc_neT hc9) rfl ?_
      refine y_pure (pc' := 142) (ls' := [(0, .ref 262), (1, .ref x1), (2, .int x2), (3, .int x3), (4, .int x4), (5, .int (x5 + (nI 1))), (6, .int y4)]) (st' := []) rfl rfl ?_
      refine y_pure (pc' := 53) rfl rfl ?_
      refine zEx_sub ?_ h
      exact ⟨rfl, rfl, rfl, rfl, rfl, rfl, trivial⟩
  · refine y_cmp (pc' := 145) rfl rfl (zc_geT hc2) rfl ?_
    refine y_pure (pc' := 148) (ls' := [(0, .ref 262), (1, .ref x1), (2, .int x2), (3, .int (x3 + (nI 1))), (4, .int x4), (5, .int x5)]) (st' := []) rfl rfl ?_
    refine y_pure (pc' := 2) rfl rfl ?_
    refine zEx_sub ?_ h
    exact ⟨rfl, rfl, rfl, rfl, trivial⟩
theorem e_L_findTwins {d : Nat} {x1 : Nat} {x2 : Int32} {M : ZM} {r : ZR} (hk1 : zkd x1 = (10, 0)) (h : h_L_findTwins_2 d x1 x2 (nI 0) M = some r) : zEv (d + 1) zmL_findTwins [.ref 262, .ref x1, .int x2] M = some r := by
  rw [zEv_succ]
  show zEx0 (zEv d) zmL_findTwins (0, [(0, .ref 262), (1, .ref x1), (2, .int x2)], [], M) = some r
  refine y_pure (pc' := 1) (st' := [.int (nI 0)]) rfl rfl ?_
  refine y_pure (pc' := 2) (ls' := [(0, .ref 262), (1, .ref x1), (2, .int x2), (3, .int (nI 0))]) (st' := []) rfl rfl ?_
  refine zEx_sub ?_ h
  exact ⟨rfl, rfl, rfl, rfl, trivial⟩
noncomputable def h_L_isMarkedElsewhere_3 (d : Nat) (x1 : Nat) (x2 : Int32) (x3 : Int32) (x4 : Int32) (x5 : Int32) (M : ZM) : Option ZR := zEx0 (zEv d) zmL_isMarkedElsewhere (3, [(1, .ref x1), (2, .int x2), (3, .int x3), (4, .int x4), (5, .int x5)], [], M)
theorem e_L_isMarkedElsewhere_3 {d : Nat} {x1 : Nat} {x2 : Int32} {x3 : Int32} {x4 : Int32} {x5 : Int32} {M : ZM} {r : ZR} (hk1 : zkd x1 = (10, 0)) (h : (if zin x2 12 = true then (if x5 < (M.1 (x1 + 4) (Int32.toNatClampNeg x2)) then (if zin x5 6 = true then zL (M.1 (x1 + 7 + (Int32.toNatClampNeg x2)) (Int32.toNatClampNeg x5)) (fun y4 => (if y4 = x3 then h_L_isMarkedElsewhere_3 d x1 x2 x3 x4 (x5 + (nI 1)) M else (if y4 = x4 then h_L_isMarkedElsewhere_3 d x1 x2 x3 x4 (x5 + (nI 1)) M else (if zin y4 36 = true then (if zin x3 36 = true then (if ((M.1 (x1 + 1) (Int32.toNatClampNeg y4)) &&& (M.1 (x1 + 1) (Int32.toNatClampNeg x3))) = (nI 0) then h_L_isMarkedElsewhere_3 d x1 x2 x3 x4 (x5 + (nI 1)) M else some (some (.int (nI 1)), M)) else none) else none)))) else none) else some (some (.int (nI 0)), M)) else none) = some r) : h_L_isMarkedElsewhere_3 d x1 x2 x3 x4 x5 M = some r := by
  show zEx0 (zEv d) zmL_isMarkedElsewhere (3, [(1, .ref x1), (2, .int x2), (3, .int x3), (4, .int x4), (5, .int x5)], [], M) = some r
  refine y_pure (pc' := 5) (st' := [.int x5]) rfl rfl ?_
  refine y_pure (pc' := 6) (st' := [.ref x1, .int x5]) rfl rfl ?_
  refine y_getf (pc' := 9) (v := .ref (x1 + 4)) rfl rfl rfl hk1 rfl rfl ?_
  refine y_pure (pc' := 10) (st' := [.int x2, .ref (x1 + 4), .int x5]) rfl rfl ?_
  obtain ⟨hi1, h⟩ := zg_inv h
  refine y_iald (pc' := 11) rfl (zf_0_11 hk1) hi1 rfl ?_
  rcases zif_inv h with ⟨hc2, h⟩ | ⟨hc2, h⟩
  · refine y_cmp (pc' := 14) rfl rfl (zc_geF hc2) rfl ?_
    refine y_pure (pc' := 15) (st' := [.ref x1]) rfl rfl ?_
    refine y_getf (pc' := 18) (v := .ref (x1 + 6)) rfl rfl rfl hk1 rfl rfl ?_
    refine y_pure (pc' := 19) (st' := [.int x2, .ref (x1 + 6)]) rfl rfl ?_
    refine y_aald (pc' := 20) (q' := x1 + 7 + (Int32.toNatClampNeg x2)) rfl (zf_0_13 hk1) hi1 (congrArg (HAdd.hAdd (x1 + 7)) (Nat.one_mul _)) rfl ?_
    refine y_pure (pc' := 22) (st' := [.int x5, .ref (x1 + 7 + (Int32.toNatClampNeg x2))]) rfl rfl ?_
    obtain ⟨hi3, h⟩ := zg_inv h
    refine y_iald (pc' := 23) rfl (zl_0 (zf_0_13 hk1) hi1) hi3 rfl ?_
    obtain ⟨y4, e5, h⟩ := zL_inv h
    refine zT_gen e5 ?_
    refine y_pure (pc' := 25) (ls' := [(1, .ref x1), (2, .int x2), (3, .int x3), (4, .int x4), (5, .int x5), (6, .int y4)]) (st' := []) rfl rfl ?_
    refine y_pure (pc' := 27) (st' := [.int y4]) rfl rfl ?_
    refine y_pure (pc' := 28) (st' := [.int x3, .int y4]) rfl rfl ?_
    rcases zif_inv h with ⟨hc6, h⟩ | ⟨hc6, h⟩
    · refine y_cmp (pc' := 57) rfl rfl (zc_eqT hc6) rfl ?_
      refine y_pure (pc' := 60) (ls' := [(1, .ref x1), (2, .int x2), (3, .int x3), (4, .int x4), (5, .int (x5 + (nI 1))), (6, .int y4)]) (st' := []) rfl rfl ?_
      refine y_pure (pc' := 3) rfl rfl ?_
      refine zEx_sub ?_ h
      exact ⟨rfl, rfl, rfl, rfl, rfl, trivial⟩
    · refine y_cmp (pc' := 31) rfl rfl (zc_eqF hc6) rfl ?_
      refine y_pure (pc' := 33) (st' := [.int y4]) rfl rfl ?_
      refine y_pure (pc' := 35) (st' := [.int x4, .int y4]) rfl rfl ?_
      rcases zif_inv h with ⟨hc7, h⟩ | ⟨hc7, h⟩
      · refine y_cmp (pc' := 57) rfl rfl (zc_eqT hc7) rfl ?_
        refine y_pure (pc' := 60) (ls' := [(1, .ref x1), (2, .int x2), (3, .int x3), (4, .int x4), (5, .int (x5 + (nI 1))), (6, .int y4)]) (st' := []) rfl rfl ?_
        refine y_pure (pc' := 3) rfl rfl ?_
        refine zEx_sub ?_ h
        exact ⟨rfl, rfl, rfl, rfl, rfl, trivial⟩
      · refine y_cmp (pc' := 38) rfl rfl (zc_eqF hc7) rfl ?_
        refine y_pure (pc' := 39) (st' := [.ref x1]) rfl rfl ?_
        refine y_getf (pc' := 42) (v := .ref (x1 + 1)) rfl rfl rfl hk1 rfl rfl ?_
        refine y_pure (pc' := 44) (st' := [.int y4, .ref (x1 + 1)]) rfl rfl ?_
        obtain ⟨hi8, h⟩ := zg_inv h
        refine y_iald (pc' := 45) rfl (zf_0_8 hk1) hi8 rfl ?_
        refine y_pure (pc' := 46) (st' := [.ref x1, .int (M.1 (x1 + 1) (Int32.toNatClampNeg y4))]) rfl rfl ?_
        refine y_getf (pc' := 49) (v := .ref (x1 + 1)) rfl rfl rfl hk1 rfl rfl ?_
        refine y_pure (pc' := 50) (st' := [.int x3, .ref (x1 + 1), .int (M.1 (x1 + 1) (Int32.toNatClampNeg y4))]) rfl rfl ?_
        obtain ⟨hi9, h⟩ := zg_inv h
        refine y_iald (pc' := 51) rfl (zf_0_8 hk1) hi9 rfl ?_
        refine y_pure (pc' := 52) (st' := [.int ((M.1 (x1 + 1) (Int32.toNatClampNeg y4)) &&& (M.1 (x1 + 1) (Int32.toNatClampNeg x3)))]) rfl rfl ?_
        rcases zif_inv h with ⟨hc10, h⟩ | ⟨hc10, h⟩
        · refine y_cnd (pc' := 57) rfl rfl (zc_eqT hc10) rfl ?_
          refine y_pure (pc' := 60) (ls' := [(1, .ref x1), (2, .int x2), (3, .int x3), (4, .int x4), (5, .int (x5 + (nI 1))), (6, .int y4)]) (st' := []) rfl rfl ?_
          refine y_pure (pc' := 3) rfl rfl ?_
          refine zEx_sub ?_ h
          exact ⟨rfl, rfl, rfl, rfl, rfl, trivial⟩
        · refine y_cnd (pc' := 55) rfl rfl (zc_eqF hc10) rfl ?_
          refine y_pure (pc' := 56) (st' := [.int (nI 1)]) rfl rfl ?_
          exact y_retZ rfl rfl (by decide) h
  · refine y_cmp (pc' := 63) rfl rfl (zc_geT hc2) rfl ?_
    refine y_pure (pc' := 64) (st' := [.int (nI 0)]) rfl rfl ?_
    exact y_retZ rfl rfl (by decide) h
theorem e_L_isMarkedElsewhere {d : Nat} {x1 : Nat} {x2 : Int32} {x3 : Int32} {x4 : Int32} {M : ZM} {r : ZR} (hk1 : zkd x1 = (10, 0)) (h : h_L_isMarkedElsewhere_3 d x1 x2 x3 x4 (nI 0) M = some r) : zEv (d + 1) zmL_isMarkedElsewhere [.ref 262, .ref x1, .int x2, .int x3, .int x4] M = some r := by
  rw [zEv_succ]
  show zEx0 (zEv d) zmL_isMarkedElsewhere (0, [(0, .ref 262), (1, .ref x1), (2, .int x2), (3, .int x3), (4, .int x4)], [], M) = some r
  refine y_pure (pc' := 1) (st' := [.int (nI 0)]) rfl rfl ?_
  refine y_pure (pc' := 3) (ls' := [(0, .ref 262), (1, .ref x1), (2, .int x2), (3, .int x3), (4, .int x4), (5, .int (nI 0))]) (st' := []) rfl rfl ?_
  refine zEx_sub ?_ h
  exact ⟨rfl, rfl, rfl, rfl, rfl, trivial⟩
theorem e_L_apply {d : Nat} {x1 : Nat} {M : ZM} {r : ZR} (hk1 : zkd x1 = (10, 0)) (h : zC1 (zEv d zmB_isOpen [.ref x1, .int (M.1 262 7)] M) (fun v3 M2 => (if v3 = (nI 0) then some (none, M2) else (if (M2.1 262 5) = (nI 1) then zC0 (zEv d zmB_putDigit [.ref x1, .int (M2.1 262 7), .int (M2.1 262 8)] M2) (fun M10 => some (none, M10)) else (if (M2.1 262 5) = (nI 2) then (if zin (M2.1 262 7) 36 = true then zL (zpi M2 (x1 + 1) (Int32.toNatClampNeg (M2.1 262 7)) ((M2.1 (x1 + 1) (Int32.toNatClampNeg (M2.1 262 7))) &&& (((nI 1) <<< ((M2.1 262 8) &&& 31)) ^^^ (-1 : Int32)))) (fun M12 => some (none, M12)) else none) else (if (M2.1 262 5) = (nI 3) then zC0 (zEv d zmB_putDigit [.ref x1, .int (M2.1 262 7), .int (M2.1 262 8)] M2) (fun M15 => some (none, M15)) else (if (M2.1 262 5) = (nI 4) then zC0 (zEv d zmL_strikeTwins [.ref 262, .ref x1] M2) (fun M17 => some (none, M17)) else some (none, M2))))))) = some r) : zEv (d + 1) zmL_apply [.ref 262, .ref x1] M = some r := by
  rw [zEv_succ]
  show zEx0 (zEv d) zmL_apply (0, [(0, .ref 262), (1, .ref x1)], [], M) = some r
  refine y_pure (pc' := 1) (st' := [.ref x1]) rfl rfl ?_
  refine y_pure (pc' := 2) (st' := [.ref 262, .ref x1]) rfl rfl ?_
  refine y_getf (pc' := 5) (v := .int (M.1 262 7)) rfl rfl rfl zc_262 rfl rfl ?_
  obtain ⟨v3, M2, he1, h⟩ := zC1_inv h
  refine y_callV (pc' := 8) (y := zmB_isOpen) (a' := [.int (M.1 262 7)]) (st' := []) rfl rfl rfl rfl rfl (zrecv_o (o := 0) hk1 rfl) rfl he1 rfl rfl ?_
  rcases zif_inv h with ⟨hc4, h⟩ | ⟨hc4, h⟩
  · refine y_cnd (pc' := 11) rfl rfl (zc_neF hc4) rfl ?_
    exact y_ret rfl rfl rfl rfl h
  · refine y_cnd (pc' := 12) rfl rfl (zc_neT hc4) rfl ?_
    refine y_pure (pc' := 13) (st' := [.ref 262]) rfl rfl ?_
    refine y_getf (pc' := 16) (v := .int (M2.1 262 5)) rfl rfl rfl zc_262 rfl rfl ?_
    rcases zif_inv h with ⟨hc5, h⟩ | ⟨hc5, h⟩
    · refine y_sw (k := 0) (t := 48) rfl (by rw [hc5]; decide) (by decide) rfl rfl ?_
      refine y_pure (pc' := 49) (st' := [.ref x1]) rfl rfl ?_
      refine y_pure (pc' := 50) (st' := [.ref 262, .ref x1]) rfl rfl ?_
      refine y_getf (pc' := 53) (v := .int (M2.1 262 7)) rfl rfl rfl zc_262 rfl rfl ?_
      refine y_pure (pc' := 54) (st' := [.ref 262, .int (M2.1 262 7), .ref x1]) rfl rfl ?_
      refine y_getf (pc' := 57) (v := .int (M2.1 262 8)) rfl rfl rfl zc_262 rfl rfl ?_
      obtain ⟨M10, he9, h⟩ := zC0_inv h
      refine y_callV (pc' := 60) (y := zmB_putDigit) (a' := [.int (M2.1 262 7), .int (M2.1 262 8)]) (st' := []) rfl rfl rfl rfl rfl (zrecv_o (o := 0) hk1 rfl) rfl he9 rfl rfl ?_
      refine y_pure (pc' := 94) rfl rfl ?_
      exact y_ret rfl rfl rfl rfl h
    · rcases zif_inv h with ⟨hc6, h⟩ | ⟨hc6, h⟩
      · refine y_sw (k := 1) (t := 63) rfl (by rw [hc6]; decide) (by decide) rfl rfl ?_
        refine y_pure (pc' := 64) (st' := [.ref x1]) rfl rfl ?_
        refine y_getf (pc' := 67) (v := .ref (x1 + 1)) rfl rfl rfl hk1 rfl rfl ?_
        refine y_pure (pc' := 68) (st' := [.ref 262, .ref (x1 + 1)]) rfl rfl ?_
        refine y_getf (pc' := 71) (v := .int (M2.1 262 7)) rfl rfl rfl zc_262 rfl rfl ?_
        refine y_pure (pc' := 72) (st' := [.int (M2.1 262 7), .ref (x1 + 1), .int (M2.1 262 7), .ref (x1 + 1)]) rfl rfl ?_
        obtain ⟨hi11, h⟩ := zg_inv h
        refine y_iald (pc' := 73) rfl (zf_0_8 hk1) hi11 rfl ?_
        refine y_pure (pc' := 74) (st' := [.int (nI 1), .int (M2.1 (x1 + 1) (Int32.toNatClampNeg (M2.1 262 7))), .int (M2.1 262 7), .ref (x1 + 1)]) rfl rfl ?_
        refine y_pure (pc' := 75) (st' := [.ref 262, .int (nI 1), .int (M2.1 (x1 + 1) (Int32.toNatClampNeg (M2.1 262 7))), .int (M2.1 262 7), .ref (x1 + 1)]) rfl rfl ?_
        refine y_getf (pc' := 78) (v := .int (M2.1 262 8)) rfl rfl rfl zc_262 rfl rfl ?_
        refine y_pure (pc' := 79) (st' := [.int ((nI 1) <<< ((M2.1 262 8) &&& 31)), .int (M2.1 (x1 + 1) (Int32.toNatClampNeg (M2.1 262 7))), .int (M2.1 262 7), .ref (x1 + 1)]) rfl rfl ?_
        refine y_pure (pc' := 80) (st' := [.int (-1 : Int32), .int ((nI 1) <<< ((M2.1 262 8) &&& 31)), .int (M2.1 (x1 + 1) (Int32.toNatClampNeg (M2.1 262 7))), .int (M2.1 262 7), .ref (x1 + 1)]) rfl rfl ?_
        refine y_pure (pc' := 81) (st' := [.int (((nI 1) <<< ((M2.1 262 8) &&& 31)) ^^^ (-1 : Int32)), .int (M2.1 (x1 + 1) (Int32.toNatClampNeg (M2.1 262 7))), .int (M2.1 262 7), .ref (x1 + 1)]) rfl rfl ?_
        refine y_pure (pc' := 82) (st' := [.int ((M2.1 (x1 + 1) (Int32.toNatClampNeg (M2.1 262 7))) &&& (((nI 1) <<< ((M2.1 262 8) &&& 31)) ^^^ (-1 : Int32))), .int (M2.1 262 7), .ref (x1 + 1)]) rfl rfl ?_
        refine y_iast (pc' := 83) rfl (zf_0_8 hk1) hi11 rfl ?_
        obtain ⟨M12, e13, h⟩ := zL_inv h
        refine zM_gen e13 ?_
        refine y_pure (pc' := 94) rfl rfl ?_
        exact y_ret rfl rfl rfl rfl h
      · rcases zif_inv h with ⟨hc7, h⟩ | ⟨hc7, h⟩
        · refine y_sw (k := 2) (t := 48) rfl (by rw [hc7]; decide) (by decide) rfl rfl ?_
          refine y_pure (pc' := 49) (st' := [.ref x1]) rfl rfl ?_
          refine y_pure (pc' := 50) (st' := [.ref 262, .ref x1]) rfl rfl ?_
          refine y_getf (pc' := 53) (v := .int (M2.1 262 7)) rfl rfl rfl zc_262 rfl rfl ?_
          refine y_pure (pc' := 54) (st' := [.ref 262, .int (M2.1 262 7), .ref x1]) rfl rfl ?_
          refine y_getf (pc' := 57) (v := .int (M2.1 262 8)) rfl rfl rfl zc_262 rfl rfl ?_
          obtain ⟨M15, he14, h⟩ := zC0_inv h
          refine y_callV (pc' := 60) (y := zmB_putDigit) (a' := [.int (M2.1 262 7), .int (M2.1 262 8)]) (st' := []) rfl rfl rfl rfl rfl (zrecv_o (o := 0) hk1 rfl) rfl he14 rfl rfl ?_
          refine y_pure (pc' := 94) rfl rfl ?_
          exact y_ret rfl rfl rfl rfl h
        · rcases zif_inv h with ⟨hc8, h⟩ | ⟨hc8, h⟩
          · refine y_sw (k := 3) (t := 86) rfl (by rw [hc8]; decide) (by decide) rfl rfl ?_
            refine y_pure (pc' := 87) (st' := [.ref 262]) rfl rfl ?_
            refine y_pure (pc' := 88) (st' := [.ref x1, .ref 262]) rfl rfl ?_
            obtain ⟨M17, he16, h⟩ := zC0_inv h
            refine y_callV (pc' := 91) (y := zmL_strikeTwins) (a' := [.ref x1]) (st' := []) rfl rfl rfl rfl rfl (zrecv_o (o := 1) zc_262 rfl) rfl he16 rfl rfl ?_
            refine y_pure (pc' := 94) rfl rfl ?_
            exact y_ret rfl rfl rfl rfl h
          · refine y_swD (t := 94) rfl (by have q0 := zsw_ne (k := 1) (by decide) hc5; have q1 := zsw_ne (k := 2) (by decide) hc6; have q2 := zsw_ne (k := 3) (by decide) hc7; have q3 := zsw_ne (k := 4) (by decide) hc8; omega) rfl ?_
            exact y_ret rfl rfl rfl rfl h
noncomputable def h_L_strikeTwins_12 (d : Nat) (x1 : Nat) (x2 : Int32) (x3 : Int32) (M : ZM) : Option ZR := zEx0 (zEv d) zmL_strikeTwins (12, [(0, .ref 262), (1, .ref x1), (2, .int x2), (3, .int x3)], [], M)
theorem e_L_strikeTwins_12 {d : Nat} {x1 : Nat} {x2 : Int32} {x3 : Int32} {M : ZM} {r : ZR} (hk1 : zkd x1 = (10, 0)) (h : zC1 (zEv d zmB_isCage [.ref x1, .int (M.1 262 6)] M) (fun v3 M2 => (if v3 = (nI 0) then some (none, M2) else (if zin (M2.1 262 6) 12 = true then (if x3 < (M2.1 (x1 + 4) (Int32.toNatClampNeg (M2.1 262 6))) then (if zin x3 6 = true then zL (M2.1 (x1 + 7 + (Int32.toNatClampNeg (M2.1 262 6))) (Int32.toNatClampNeg x3)) (fun y8 => (if y8 = (M2.1 262 7) then h_L_strikeTwins_12 d x1 x2 (x3 + (nI 1)) M2 else (if y8 = (M2.1 262 9) then h_L_strikeTwins_12 d x1 x2 (x3 + (nI 1)) M2 else (if zin y8 36 = true then h_L_strikeTwins_12 d x1 x2 (x3 + (nI 1)) (zpi M2 (x1 + 1) (Int32.toNatClampNeg y8) ((M2.1 (x1 + 1) (Int32.toNatClampNeg y8)) &&& (x2 ^^^ (-1 : Int32)))) else none)))) else none) else some (none, M2)) else none))) = some r) : h_L_strikeTwins_12 d x1 x2 x3 M = some r := by
  show zEx0 (zEv d) zmL_strikeTwins (12, [(0, .ref 262), (1, .ref x1), (2, .int x2), (3, .int x3)], [], M) = some r
  refine y_pure (pc' := 13) (st' := [.ref x1]) rfl rfl ?_
  refine y_pure (pc' := 14) (st' := [.ref 262, .ref x1]) rfl rfl ?_
  refine y_getf (pc' := 17) (v := .int (M.1 262 6)) rfl rfl rfl zc_262 rfl rfl ?_
  obtain ⟨v3, M2, he1, h⟩ := zC1_inv h
  refine y_callV (pc' := 20) (y := zmB_isCage) (a' := [.int (M.1 262 6)]) (st' := []) rfl rfl rfl rfl rfl (zrecv_o (o := 0) hk1 rfl) rfl he1 rfl rfl ?_
  rcases zif_inv h with ⟨hc4, h⟩ | ⟨hc4, h⟩
  · refine y_cnd (pc' := 86) rfl rfl (zc_eqT hc4) rfl ?_
    exact y_ret rfl rfl rfl rfl h
  · refine y_cnd (pc' := 23) rfl rfl (zc_eqF hc4) rfl ?_
    refine y_pure (pc' := 24) (st' := [.int x3]) rfl rfl ?_
    refine y_pure (pc' := 25) (st' := [.ref x1, .int x3]) rfl rfl ?_
    refine y_getf (pc' := 28) (v := .ref (x1 + 4)) rfl rfl rfl hk1 rfl rfl ?_
    refine y_pure (pc' := 29) (st' := [.ref 262, .ref (x1 + 4), .int x3]) rfl rfl ?_
    refine y_getf (pc' := 32) (v := .int (M2.1 262 6)) rfl rfl rfl zc_262 rfl rfl ?_
    obtain ⟨hi5, h⟩ := zg_inv h
    refine y_iald (pc' := 33) rfl (zf_0_11 hk1) hi5 rfl ?_
    rcases zif_inv h with ⟨hc6, h⟩ | ⟨hc6, h⟩
    · refine y_cmp (pc' := 36) rfl rfl (zc_geF hc6) rfl ?_
      refine y_pure (pc' := 37) (st' := [.ref x1]) rfl rfl ?_
      refine y_getf (pc' := 40) (v := .ref (x1 + 6)) rfl rfl rfl hk1 rfl rfl ?_
      refine y_pure (pc' := 41) (st' := [.ref 262, .ref (x1 + 6)]) rfl rfl ?_
      refine y_getf (pc' := 44) (v := .int (M2.1 262 6)) rfl rfl rfl zc_262 rfl rfl ?_
      refine y_aald (pc' := 45) (q' := x1 + 7 + (Int32.toNatClampNeg (M2.1 262 6))) rfl (zf_0_13 hk1) hi5 (congrArg (HAdd.hAdd (x1 + 7)) (Nat.one_mul _)) rfl ?_
      refine y_pure (pc' := 46) (st' := [.int x3, .ref (x1 + 7 + (Int32.toNatClampNeg (M2.1 262 6)))]) rfl rfl ?_
      obtain ⟨hi7, h⟩ := zg_inv h
      refine y_iald (pc' := 47) rfl (zl_0 (zf_0_13 hk1) hi5) hi7 rfl ?_
      obtain ⟨y8, e9, h⟩ := zL_inv h
      refine zT_gen e9 ?_
      refine y_pure (pc' := 49) (ls' := [(0, .ref 262), (1, .ref x1), (2, .int x2), (3, .int x3), (4, .int y8)]) (st' := []) rfl rfl ?_
      refine y_pure (pc' := 51) (st' := [.int y8]) rfl rfl ?_
      refine y_pure (pc' := 52) (st' := [.ref 262, .int y8]) rfl rfl ?_
      refine y_getf (pc' := 55) (v := .int (M2.1 262 7)) rfl rfl rfl zc_262 rfl rfl ?_
      rcases zif_inv h with ⟨hc10, h⟩ | ⟨hc10, h⟩
      · refine y_cmp (pc' := 80) rfl rfl (zc_eqT hc10) rfl ?_
        refine y_pure (pc' := 83) (ls' := [(0, .ref 262), (1, .ref x1), (2, .int x2), (3, .int (x3 + (nI 1))), (4, .int y8)]) (st' := []) rfl rfl ?_
        refine y_pure (pc' := 12) rfl rfl ?_
        refine zEx_sub ?_ h
        exact ⟨rfl, rfl, rfl, rfl, trivial⟩
      · refine y_cmp (pc' := 58) rfl rfl (zc_eqF hc10) rfl ?_
        refine y_pure (pc' := 60) (st' := [.int y8]) rfl rfl ?_
        refine y_pure (pc' := 61) (st' := [.ref 262, .int y8]) rfl rfl ?_
        refine y_getf (pc' := 64) (v := .int (M2.1 262 9)) rfl rfl rfl zc_262 rfl rfl ?_
        rcases zif_inv h with ⟨hc11, h⟩ | ⟨hc11, h⟩
        · refine y_cmp (pc' := 80) rfl rfl (zc_eqT hc11) rfl ?_
          refine y_pure (pc' := 83) (ls' := [(0, .ref 262), (1, .ref x1), (2, .int x2), (3, .int (x3 + (nI 1))), (4, .int y8)]) (st' := []) rfl rfl ?_
          refine y_pure (pc' := 12) rfl rfl ?_
          refine zEx_sub ?_ h
          exact ⟨rfl, rfl, rfl, rfl, trivial⟩
        · refine y_cmp (pc' := 67) rfl rfl (zc_eqF hc11) rfl ?_
          refine y_pure (pc' := 68) (st' := [.ref x1]) rfl rfl ?_
          refine y_getf (pc' := 71) (v := .ref (x1 + 1)) rfl rfl rfl hk1 rfl rfl ?_
          refine y_pure (pc' := 73) (st' := [.int y8, .ref (x1 + 1)]) rfl rfl ?_
          refine y_pure (pc' := 74) (st' := [.int y8, .ref (x1 + 1), .int y8, .ref (x1 + 1)]) rfl rfl ?_
          obtain ⟨hi12, h⟩ := zg_inv h
          refine y_iald (pc' := 75) rfl (zf_0_8 hk1) hi12 rfl ?_
          refine y_pure (pc' := 76) (st' := [.int x2, .int (M2.1 (x1 + 1) (Int32.toNatClampNeg y8)), .int y8, .ref (x1 + 1)]) rfl rfl ?_
          refine y_pure (pc' := 77) (st' := [.int (-1 : Int32), .int x2, .int (M2.1 (x1 + 1) (Int32.toNatClampNeg y8)), .int y8, .ref (x1 + 1)]) rfl rfl ?_
          refine y_pure (pc' := 78) (st' := [.int (x2 ^^^ (-1 : Int32)), .int (M2.1 (x1 + 1) (Int32.toNatClampNeg y8)), .int y8, .ref (x1 + 1)]) rfl rfl ?_
          refine y_pure (pc' := 79) (st' := [.int ((M2.1 (x1 + 1) (Int32.toNatClampNeg y8)) &&& (x2 ^^^ (-1 : Int32))), .int y8, .ref (x1 + 1)]) rfl rfl ?_
          refine y_iast (pc' := 80) rfl (zf_0_8 hk1) hi12 rfl ?_
          refine y_pure (pc' := 83) (ls' := [(0, .ref 262), (1, .ref x1), (2, .int x2), (3, .int (x3 + (nI 1))), (4, .int y8)]) (st' := []) rfl rfl ?_
          refine y_pure (pc' := 12) rfl rfl ?_
          refine zEx_sub ?_ h
          exact ⟨rfl, rfl, rfl, rfl, trivial⟩
    · refine y_cmp (pc' := 86) rfl rfl (zc_geT hc6) rfl ?_
      exact y_ret rfl rfl rfl rfl h
theorem e_L_strikeTwins {d : Nat} {x1 : Nat} {M : ZM} {r : ZR} (hk1 : zkd x1 = (10, 0)) (h : (if zin (M.1 262 7) 36 = true then h_L_strikeTwins_12 d x1 (M.1 (x1 + 1) (Int32.toNatClampNeg (M.1 262 7))) (nI 0) M else none) = some r) : zEv (d + 1) zmL_strikeTwins [.ref 262, .ref x1] M = some r := by
  rw [zEv_succ]
  show zEx0 (zEv d) zmL_strikeTwins (0, [(0, .ref 262), (1, .ref x1)], [], M) = some r
  refine y_pure (pc' := 1) (st' := [.ref x1]) rfl rfl ?_
  refine y_getf (pc' := 4) (v := .ref (x1 + 1)) rfl rfl rfl hk1 rfl rfl ?_
  refine y_pure (pc' := 5) (st' := [.ref 262, .ref (x1 + 1)]) rfl rfl ?_
  refine y_getf (pc' := 8) (v := .int (M.1 262 7)) rfl rfl rfl zc_262 rfl rfl ?_
  obtain ⟨hi1, h⟩ := zg_inv h
  refine y_iald (pc' := 9) rfl (zf_0_8 hk1) hi1 rfl ?_
  refine y_pure (pc' := 10) (ls' := [(0, .ref 262), (1, .ref x1), (2, .int (M.1 (x1 + 1) (Int32.toNatClampNeg (M.1 262 7))))]) (st' := []) rfl rfl ?_
  refine y_pure (pc' := 11) (st' := [.int (nI 0)]) rfl rfl ?_
  refine y_pure (pc' := 12) (ls' := [(0, .ref 262), (1, .ref x1), (2, .int (M.1 (x1 + 1) (Int32.toNatClampNeg (M.1 262 7)))), (3, .int (nI 0))]) (st' := []) rfl rfl ?_
  refine zEx_sub ?_ h
  exact ⟨rfl, rfl, rfl, rfl, trivial⟩
noncomputable def h_L_applyAll_10 (d : Nat) (x1 : Nat) (M : ZM) : Option ZR := zEx0 (zEv d) zmL_applyAll (10, [(0, .ref 262), (1, .ref x1)], [], M)
theorem e_L_applyAll_10 {d : Nat} {x1 : Nat} {M : ZM} {r : ZR} (hk1 : zkd x1 = (10, 0)) (h : (if (M.1 262 5) = (nI 0) then some (none, M) else (if (M.1 262 10) < (nI 128) then zL (zpi (zpi M 262 10 ((M.1 262 10) + (nI 1))) 262 11 (((zpi M 262 10 ((M.1 262 10) + (nI 1))).1 262 11) + ((zpi M 262 10 ((M.1 262 10) + (nI 1))).1 262 5))) (fun M3 => zC0 (zEv d zmL_apply [.ref 262, .ref x1] M3) (fun M6 => zC0 (zEv d zmL_find [.ref 262, .ref x1] M6) (fun M8 => h_L_applyAll_10 d x1 M8))) else some (none, M))) = some r) : h_L_applyAll_10 d x1 M = some r := by
  show zEx0 (zEv d) zmL_applyAll (10, [(0, .ref 262), (1, .ref x1)], [], M) = some r
  refine y_pure (pc' := 11) (st' := [.ref 262]) rfl rfl ?_
  refine y_getf (pc' := 14) (v := .int (M.1 262 5)) rfl rfl rfl zc_262 rfl rfl ?_
  rcases zif_inv h with ⟨hc1, h⟩ | ⟨hc1, h⟩
  · refine y_cnd (pc' := 63) rfl rfl (zc_eqT hc1) rfl ?_
    exact y_ret rfl rfl rfl rfl h
  · refine y_cnd (pc' := 17) rfl rfl (zc_eqF hc1) rfl ?_
    refine y_pure (pc' := 18) (st' := [.ref 262]) rfl rfl ?_
    refine y_getf (pc' := 21) (v := .int (M.1 262 10)) rfl rfl rfl zc_262 rfl rfl ?_
    refine y_pure (pc' := 24) (st' := [.int (nI 128), .int (M.1 262 10)]) rfl rfl ?_
    rcases zif_inv h with ⟨hc2, h⟩ | ⟨hc2, h⟩
    · refine y_cmp (pc' := 27) rfl rfl (zc_geF hc2) rfl ?_
      refine y_pure (pc' := 28) (st' := [.ref 262]) rfl rfl ?_
      refine y_pure (pc' := 29) (st' := [.ref 262, .ref 262]) rfl rfl ?_
      refine y_getf (pc' := 32) (v := .int (M.1 262 10)) rfl rfl rfl zc_262 rfl rfl ?_
      refine y_pure (pc' := 33) (st' := [.int (nI 1), .int (M.1 262 10), .ref 262]) rfl rfl ?_
      refine y_pure (pc' := 34) (st' := [.int ((M.1 262 10) + (nI 1)), .ref 262]) rfl rfl ?_
      refine y_putI (pc' := 37) rfl rfl zc_262 rfl ?_
      refine y_pure (pc' := 38) (st' := [.ref 262]) rfl rfl ?_
      refine y_pure (pc' := 39) (st' := [.ref 262, .ref 262]) rfl rfl ?_
      refine y_getf (pc' := 42) (v := .int ((zpi M 262 10 ((M.1 262 10) + (nI 1))).1 262 11)) rfl rfl rfl zc_262 rfl rfl ?_
      refine y_pure (pc' := 43) (st' := [.ref 262, .int ((zpi M 262 10 ((M.1 262 10) + (nI 1))).1 262 11), .ref 262]) rfl rfl ?_
      refine y_getf (pc' := 46) (v := .int ((zpi M 262 10 ((M.1 262 10) + (nI 1))).1 262 5)) rfl rfl rfl zc_262 rfl rfl ?_
      refine y_pure (pc' := 47) (st' := [.int (((zpi M 262 10 ((M.1 262 10) + (nI 1))).1 262 11) + ((zpi M 262 10 ((M.1 262 10) + (nI 1))).1 262 5)), .ref 262]) rfl rfl ?_
      refine y_putI (pc' := 50) rfl rfl zc_262 rfl ?_
      obtain ⟨M3, e4, h⟩ := zL_inv h
      refine zM_gen e4 ?_
      refine y_pure (pc' := 51) (st' := [.ref 262]) rfl rfl ?_
      refine y_pure (pc' := 52) (st' := [.ref x1, .ref 262]) rfl rfl ?_
      obtain ⟨M6, he5, h⟩ := zC0_inv h
      refine y_callV (pc' := 55) (y := zmL_apply) (a' := [.ref x1]) (st' := []) rfl rfl rfl rfl rfl (zrecv_o (o := 1) zc_262 rfl) rfl he5 rfl rfl ?_
      refine y_pure (pc' := 56) (st' := [.ref 262]) rfl rfl ?_
      refine y_pure (pc' := 57) (st' := [.ref x1, .ref 262]) rfl rfl ?_
      obtain ⟨M8, he7, h⟩ := zC0_inv h
      refine y_callV (pc' := 60) (y := zmL_find) (a' := [.ref x1]) (st' := []) rfl rfl rfl rfl rfl (zrecv_o (o := 1) zc_262 rfl) rfl he7 rfl rfl ?_
      refine y_pure (pc' := 10) rfl rfl ?_
      refine zEx_sub ?_ h
      exact ⟨rfl, rfl, trivial⟩
    · refine y_cmp (pc' := 63) rfl rfl (zc_geT hc2) rfl ?_
      exact y_ret rfl rfl rfl rfl h
theorem e_L_applyAll {d : Nat} {x1 : Nat} {M : ZM} {r : ZR} (hk1 : zkd x1 = (10, 0)) (h : h_L_applyAll_10 d x1 (zpi (zpi M 262 10 (nI 0)) 262 11 (nI 0)) = some r) : zEv (d + 1) zmL_applyAll [.ref 262, .ref x1] M = some r := by
  rw [zEv_succ]
  show zEx0 (zEv d) zmL_applyAll (0, [(0, .ref 262), (1, .ref x1)], [], M) = some r
  refine y_pure (pc' := 1) (st' := [.ref 262]) rfl rfl ?_
  refine y_pure (pc' := 2) (st' := [.int (nI 0), .ref 262]) rfl rfl ?_
  refine y_putI (pc' := 5) rfl rfl zc_262 rfl ?_
  refine y_pure (pc' := 6) (st' := [.ref 262]) rfl rfl ?_
  refine y_pure (pc' := 7) (st' := [.int (nI 0), .ref 262]) rfl rfl ?_
  refine y_putI (pc' := 10) rfl rfl zc_262 rfl ?_
  refine zEx_sub ?_ h
  exact ⟨rfl, rfl, trivial⟩
noncomputable def h_R_fit_34 (d : Nat) (x0 : Nat) (x1 : Int32) (x2 : Int32) (x3 : Int32) (x4 : Int32) (M : ZM) : Option ZR := zEx0 (zEv d) zmR_fit (34, [(0, .ref x0), (1, .int x1), (2, .int x2), (3, .int x3), (4, .int x4)], [], M)
theorem e_R_fit_34 {d : Nat} {x0 : Nat} {x1 : Int32} {x2 : Int32} {x3 : Int32} {x4 : Int32} {M : ZM} {r : ZR} (hk0 : zkd x0 = (13, 0)) (h : (if x2 = nI 0 ∨ x2 = nI 1 then zC1 (zEv d zmJM_min [.int (nI 6), .int x4] (zpi (zpi (zpi M x0 0 x1) x0 1 x2) x0 2 x3)) (fun v4 M3 => zC1 (zEv d zmJM_max [.int (nI 0), .int v4] M3) (fun v7 M6 => zC0 (zEv d zmR_forget [.ref x0] (zpi M6 x0 3 v7)) (fun M9 => zC1 (zEv d zmR_isOfSets [.ref x0] M9) (fun v12 M11 => (if v12 = (nI 0) then (if (M11.1 x0 0) = (nI 0) then zC0 (zEv d zmR_fitSum [.ref x0] M11) (fun M16 => some (none, M16)) else zC0 (zEv d zmR_fitProduct [.ref x0] M11) (fun M18 => some (none, M18))) else zC0 (zEv d zmR_fitSets [.ref x0] M11) (fun M20 => some (none, M20))))))) else none) = some r) : h_R_fit_34 d x0 x1 x2 x3 x4 M = some r := by
  show zEx0 (zEv d) zmR_fit (34, [(0, .ref x0), (1, .int x1), (2, .int x2), (3, .int x3), (4, .int x4)], [], M) = some r
  refine y_pure (pc' := 35) (st' := [.ref x0]) rfl rfl ?_
  refine y_pure (pc' := 36) (st' := [.int x1, .ref x0]) rfl rfl ?_
  refine y_putI (pc' := 39) rfl rfl hk0 rfl ?_
  refine y_pure (pc' := 40) (st' := [.ref x0]) rfl rfl ?_
  refine y_pure (pc' := 41) (st' := [.int x2, .ref x0]) rfl rfl ?_
  obtain ⟨hb1, h⟩ := zg_inv h
  refine y_putZ (pc' := 44) rfl rfl hk0 hb1 rfl ?_
  refine y_pure (pc' := 45) (st' := [.ref x0]) rfl rfl ?_
  refine y_pure (pc' := 46) (st' := [.int x3, .ref x0]) rfl rfl ?_
  refine y_putI (pc' := 49) rfl rfl hk0 rfl ?_
  refine y_pure (pc' := 50) (st' := [.ref x0]) rfl rfl ?_
  refine y_pure (pc' := 51) (st' := [.int (nI 0), .ref x0]) rfl rfl ?_
  refine y_pure (pc' := 53) (st' := [.int (nI 6), .int (nI 0), .ref x0]) rfl rfl ?_
  refine y_pure (pc' := 55) (st' := [.int x4, .int (nI 6), .int (nI 0), .ref x0]) rfl rfl ?_
  obtain ⟨v4, M3, he2, h⟩ := zC1_inv h
  refine y_callS (pc' := 58) (y := zmJM_min) (a := [.int (nI 6), .int x4]) (st' := [.int (nI 0), .ref x0]) rfl rfl rfl rfl rfl rfl he2 rfl rfl ?_
  obtain ⟨v7, M6, he5, h⟩ := zC1_inv h
  refine y_callS (pc' := 61) (y := zmJM_max) (a := [.int (nI 0), .int v4]) (st' := [.ref x0]) rfl rfl rfl rfl rfl rfl he5 rfl rfl ?_
  refine y_putI (pc' := 64) rfl rfl hk0 rfl ?_
  refine y_pure (pc' := 65) (st' := [.ref x0]) rfl rfl ?_
  obtain ⟨M9, he8, h⟩ := zC0_inv h
  refine y_callV (pc' := 68) (y := zmR_forget) (a' := []) (st' := []) rfl rfl rfl rfl rfl (zrecv_o (o := 3) hk0 rfl) rfl he8 rfl rfl ?_
  refine y_pure (pc' := 69) (st' := [.ref x0]) rfl rfl ?_
  obtain ⟨v12, M11, he10, h⟩ := zC1_inv h
  refine y_callV (pc' := 72) (y := zmR_isOfSets) (a' := []) (st' := []) rfl rfl rfl rfl rfl (zrecv_o (o := 3) hk0 rfl) rfl he10 rfl rfl ?_
  rcases zif_inv h with ⟨hc13, h⟩ | ⟨hc13, h⟩
  · refine y_cnd (pc' := 82) rfl rfl (zc_eqT hc13) rfl ?_
    refine y_pure (pc' := 83) (st' := [.ref x0]) rfl rfl ?_
    refine y_getf (pc' := 86) (v := .int (M11.1 x0 0)) rfl rfl rfl hk0 rfl rfl ?_
    rcases zif_inv h with ⟨hc14, h⟩ | ⟨hc14, h⟩
    · refine y_cnd (pc' := 89) rfl rfl (zc_neF hc14) rfl ?_
      refine y_pure (pc' := 90) (st' := [.ref x0]) rfl rfl ?_
      obtain ⟨M16, he15, h⟩ := zC0_inv h
      refine y_callV (pc' := 93) (y := zmR_fitSum) (a' := []) (st' := []) rfl rfl rfl rfl rfl (zrecv_o (o := 3) hk0 rfl) rfl he15 rfl rfl ?_
      refine y_pure (pc' := 100) rfl rfl ?_
      exact y_ret rfl rfl rfl rfl h
    · refine y_cnd (pc' := 96) rfl rfl (zc_neT hc14) rfl ?_
      refine y_pure (pc' := 97) (st' := [.ref x0]) rfl rfl ?_
      obtain ⟨M18, he17, h⟩ := zC0_inv h
      refine y_callV (pc' := 100) (y := zmR_fitProduct) (a' := []) (st' := []) rfl rfl rfl rfl rfl (zrecv_o (o := 3) hk0 rfl) rfl he17 rfl rfl ?_
      exact y_ret rfl rfl rfl rfl h
  · refine y_cnd (pc' := 75) rfl rfl (zc_eqF hc13) rfl ?_
    refine y_pure (pc' := 76) (st' := [.ref x0]) rfl rfl ?_
    obtain ⟨M20, he19, h⟩ := zC0_inv h
    refine y_callV (pc' := 79) (y := zmR_fitSets) (a' := []) (st' := []) rfl rfl rfl rfl rfl (zrecv_o (o := 3) hk0 rfl) rfl he19 rfl rfl ?_
    refine y_pure (pc' := 100) rfl rfl ?_
    exact y_ret rfl rfl rfl rfl h
theorem e_R_fit {d : Nat} {x0 : Nat} {x1 : Int32} {x2 : Int32} {x3 : Int32} {x4 : Int32} {M : ZM} {r : ZR} (hk0 : zkd x0 = (13, 0)) (h : (if (M.1 x0 0) = x1 then (if (M.1 x0 1) = x2 then (if (M.1 x0 2) = x3 then (if (M.1 x0 3) = x4 then some (none, M) else h_R_fit_34 d x0 x1 x2 x3 x4 M) else h_R_fit_34 d x0 x1 x2 x3 x4 M) else h_R_fit_34 d x0 x1 x2 x3 x4 M) else h_R_fit_34 d x0 x1 x2 x3 x4 M) = some r) : zEv (d + 1) zmR_fit [.ref x0, .int x1, .int x2, .int x3, .int x4] M = some r := by
  rw [zEv_succ]
  show zEx0 (zEv d) zmR_fit (0, [(0, .ref x0), (1, .int x1), (2, .int x2), (3, .int x3), (4, .int x4)], [], M) = some r
  refine y_pure (pc' := 1) (st' := [.ref x0]) rfl rfl ?_
  refine y_getf (pc' := 4) (v := .int (M.1 x0 0)) rfl rfl rfl hk0 rfl rfl ?_
  refine y_pure (pc' := 5) (st' := [.int x1, .int (M.1 x0 0)]) rfl rfl ?_
  rcases zif_inv h with ⟨hc1, h⟩ | ⟨hc1, h⟩
  · refine y_cmp (pc' := 8) rfl rfl (zc_neF hc1) rfl ?_
    refine y_pure (pc' := 9) (st' := [.ref x0]) rfl rfl ?_
    refine y_getf (pc' := 12) (v := .int (M.1 x0 1)) rfl rfl rfl hk0 rfl rfl ?_
    refine y_pure (pc' := 13) (st' := [.int x2, .int (M.1 x0 1)]) rfl rfl ?_
    rcases zif_inv h with ⟨hc2, h⟩ | ⟨hc2, h⟩
    · refine y_cmp (pc' := 16) rfl rfl (zc_neF hc2) rfl ?_
      refine y_pure (pc' := 17) (st' := [.ref x0]) rfl rfl ?_
      refine y_getf (pc' := 20) (v := .int (M.1 x0 2)) rfl rfl rfl hk0 rfl rfl ?_
      refine y_pure (pc' := 21) (st' := [.int x3, .int (M.1 x0 2)]) rfl rfl ?_
      rcases zif_inv h with ⟨hc3, h⟩ | ⟨hc3, h⟩
      · refine y_cmp (pc' := 24) rfl rfl (zc_neF hc3) rfl ?_
        refine y_pure (pc' := 25) (st' := [.ref x0]) rfl rfl ?_
        refine y_getf (pc' := 28) (v := .int (M.1 x0 3)) rfl rfl rfl hk0 rfl rfl ?_
        refine y_pure (pc' := 30) (st' := [.int x4, .int (M.1 x0 3)]) rfl rfl ?_
        rcases zif_inv h with ⟨hc4, h⟩ | ⟨hc4, h⟩
        · refine y_cmp (pc' := 33) rfl rfl (zc_neF hc4) rfl ?_
          exact y_ret rfl rfl rfl rfl h
        · refine y_cmp (pc' := 34) rfl rfl (zc_neT hc4) rfl ?_
          refine zEx_sub ?_ h
          exact ⟨rfl, rfl, rfl, rfl, rfl, trivial⟩
      · refine y_cmp (pc' := 34) rfl rfl (zc_neT hc3) rfl ?_
        refine zEx_sub ?_ h
        exact ⟨rfl, rfl, rfl, rfl, rfl, trivial⟩
    · refine y_cmp (pc' := 34) rfl rfl (zc_neT hc2) rfl ?_
      refine zEx_sub ?_ h
      exact ⟨rfl, rfl, rfl, rfl, rfl, trivial⟩
  · refine y_cmp (pc' := 34) rfl rfl (zc_neT hc1) rfl ?_
    refine zEx_sub ?_ h
    exact ⟨rfl, rfl, rfl, rfl, rfl, trivial⟩
theorem e_R_size {d : Nat} {x0 : Nat} {M : ZM} {r : ZR} (hk0 : zkd x0 = (13, 0)) (h : some (some (.int (M.1 x0 3)), M) = some r) : zEv (d + 1) zmR_size [.ref x0] M = some r := by
  rw [zEv_succ]
  show zEx0 (zEv d) zmR_size (0, [(0, .ref x0)], [], M) = some r
  refine y_pure (pc' := 1) (st' := [.ref x0]) rfl rfl ?_
  refine y_getf (pc' := 4) (v := .int (M.1 x0 3)) rfl rfl rfl hk0 rfl rfl ?_
  exact y_ret rfl rfl rfl rfl h
theorem e_R_isOfSets {d : Nat} {x0 : Nat} {M : ZM} {r : ZR} (hk0 : zkd x0 = (13, 0)) (h : (if (M.1 x0 1) = (nI 0) then some (some (.int (nI 1)), M) else (if (M.1 x0 0) = (nI 2) then some (some (.int (nI 1)), M) else (if (M.1 x0 0) = (nI 3) then some (some (.int (nI 1)), M) else some (some (.int (nI 0)), M)))) = some r) : zEv (d + 1) zmR_isOfSets [.ref x0] M = some r := by
  rw [zEv_succ]
  show zEx0 (zEv d) zmR_isOfSets (0, [(0, .ref x0)], [], M) = some r
  refine y_pure (pc' := 1) (st' := [.ref x0]) rfl rfl ?_
  refine y_getf (pc' := 4) (v := .int (M.1 x0 1)) rfl rfl rfl hk0 rfl rfl ?_
  rcases zif_inv h with ⟨hc1, h⟩ | ⟨hc1, h⟩
  · refine y_cnd (pc' := 23) rfl rfl (zc_eqT hc1) rfl ?_
    refine y_pure (pc' := 24) (st' := [.int (nI 1)]) rfl rfl ?_
    refine y_pure (pc' := 28) rfl rfl ?_
    exact y_retZ rfl rfl (by decide) h
  · refine y_cnd (pc' := 7) rfl rfl (zc_eqF hc1) rfl ?_
    refine y_pure (pc' := 8) (st' := [.ref x0]) rfl rfl ?_
    refine y_getf (pc' := 11) (v := .int (M.1 x0 0)) rfl rfl rfl hk0 rfl rfl ?_
    refine y_pure (pc' := 12) (st' := [.int (nI 2), .int (M.1 x0 0)]) rfl rfl ?_
    rcases zif_inv h with ⟨hc2, h⟩ | ⟨hc2, h⟩
    · refine y_cmp (pc' := 23) rfl rfl (zc_eqT hc2) rfl ?_
      refine y_pure (pc' := 24) (st' := [.int (nI 1)]) rfl rfl ?_
      refine y_pure (pc' := 28) rfl rfl ?_
      exact y_retZ rfl rfl (by decide) h
    · refine y_cmp (pc' := 15) rfl rfl (zc_eqF hc2) rfl ?_
      refine y_pure (pc' := 16) (st' := [.ref x0]) rfl rfl ?_
      refine y_getf (pc' := 19) (v := .int (M.1 x0 0)) rfl rfl rfl hk0 rfl rfl ?_
      refine y_pure (pc' := 20) (st' := [.int (nI 3), .int (M.1 x0 0)]) rfl rfl ?_
      rcases zif_inv h with ⟨hc3, h⟩ | ⟨hc3, h⟩
      · refine y_cmp (pc' := 23) rfl rfl (zc_neF hc3) rfl ?_
        refine y_pure (pc' := 24) (st' := [.int (nI 1)]) rfl rfl ?_
        refine y_pure (pc' := 28) rfl rfl ?_
        exact y_retZ rfl rfl (by decide) h
      · refine y_cmp (pc' := 27) rfl rfl (zc_neT hc3) rfl ?_
        refine y_pure (pc' := 28) (st' := [.int (nI 0)]) rfl rfl ?_
        exact y_retZ rfl rfl (by decide) h
noncomputable def h_R_forget_2 (d : Nat) (x0 : Nat) (x1 : Int32) (M : ZM) : Option ZR := zEx0 (zEv d) zmR_forget (2, [(0, .ref x0), (1, .int x1)], [], M)
theorem e_R_forget_2 {d : Nat} {x0 : Nat} {x1 : Int32} {M : ZM} {r : ZR} (hk0 : zkd x0 = (13, 0)) (h : (if (nI 7) < x1 then some (none, (zpl (zpl M x0 9 (nJ 0)) x0 10 (nJ 0))) else (if zin x1 8 = true then zL (zpl (zpl (zpl M (x0 + 1) (Int32.toNatClampNeg x1) (nJ 0)) (x0 + 2) (Int32.toNatClampNeg x1) (nJ 0)) (x0 + 3) (Int32.toNatClampNeg x1) (nJ 0)) (fun M3 => h_R_forget_2 d x0 (x1 + (nI 1)) (zpi (zpl M3 (x0 + 4) (Int32.toNatClampNeg x1) (nJ 0)) (x0 + 5) (Int32.toNatClampNeg x1) (nI 0))) else none)) = some r) : h_R_forget_2 d x0 x1 M = some r := by
  show zEx0 (zEv d) zmR_forget (2, [(0, .ref x0), (1, .int x1)], [], M) = some r
  refine y_pure (pc' := 3) (st' := [.int x1]) rfl rfl ?_
  refine y_pure (pc' := 5) (st' := [.int (nI 7), .int x1]) rfl rfl ?_
  rcases zif_inv h with ⟨hc1, h⟩ | ⟨hc1, h⟩
  · refine y_cmp (pc' := 49) rfl rfl (zc_gtT hc1) rfl ?_
    refine y_pure (pc' := 50) (st' := [.ref x0]) rfl rfl ?_
    refine y_pure (pc' := 51) (st' := [.long (nJ 0), .ref x0]) rfl rfl ?_
    refine y_putL (pc' := 54) rfl rfl hk0 rfl ?_
    refine y_pure (pc' := 55) (st' := [.ref x0]) rfl rfl ?_
    refine y_pure (pc' := 56) (st' := [.long (nJ 0), .ref x0]) rfl rfl ?_
    refine y_putL (pc' := 59) rfl rfl hk0 rfl ?_
    exact y_ret rfl rfl rfl rfl h
  · refine y_cmp (pc' := 8) rfl rfl (zc_gtF hc1) rfl ?_
    refine y_pure (pc' := 9) (st' := [.ref x0]) rfl rfl ?_
    refine y_getf (pc' := 12) (v := .ref (x0 + 1)) rfl rfl rfl hk0 rfl rfl ?_
    refine y_pure (pc' := 13) (st' := [.int x1, .ref (x0 + 1)]) rfl rfl ?_
    refine y_pure (pc' := 14) (st' := [.long (nJ 0), .int x1, .ref (x0 + 1)]) rfl rfl ?_
    obtain ⟨hi2, h⟩ := zg_inv h
    refine y_last (pc' := 15) rfl (zf_3_4 hk0) hi2 rfl ?_
    refine y_pure (pc' := 16) (st' := [.ref x0]) rfl rfl ?_
    refine y_getf (pc' := 19) (v := .ref (x0 + 2)) rfl rfl rfl hk0 rfl rfl ?_
    refine y_pure (pc' := 20) (st' := [.int x1, .ref (x0 + 2)]) rfl rfl ?_
    refine y_pure (pc' := 21) (st' := [.long (nJ 0), .int x1, .ref (x0 + 2)]) rfl rfl ?_
    refine y_last (pc' := 22) rfl (zf_3_5 hk0) hi2 rfl ?_
    refine y_pure (pc' := 23) (st' := [.ref x0]) rfl rfl ?_
    refine y_getf (pc' := 26) (v := .ref (x0 + 3)) rfl rfl rfl hk0 rfl rfl ?_
    refine y_pure (pc' := 27) (st' := [.int x1, .ref (x0 + 3)]) rfl rfl ?_
    refine y_pure (pc' := 28) (st' := [.long (nJ 0), .int x1, .ref (x0 + 3)]) rfl rfl ?_
    refine y_last (pc' := 29) rfl (zf_3_6 hk0) hi2 rfl ?_
    obtain ⟨M3, e4, h⟩ := zL_inv h
    refine zM_gen e4 ?_
    refine y_pure (pc' := 30) (st' := [.ref x0]) rfl rfl ?_
    refine y_getf (pc' := 33) (v := .ref (x0 + 4)) rfl rfl rfl hk0 rfl rfl ?_
    refine y_pure (pc' := 34) (st' := [.int x1, .ref (x0 + 4)]) rfl rfl ?_
    refine y_pure (pc' := 35) (st' := [.long (nJ 0), .int x1, .ref (x0 + 4)]) rfl rfl ?_
    refine y_last (pc' := 36) rfl (zf_3_7 hk0) hi2 rfl ?_
    refine y_pure (pc' := 37) (st' := [.ref x0]) rfl rfl ?_
    refine y_getf (pc' := 40) (v := .ref (x0 + 5)) rfl rfl rfl hk0 rfl rfl ?_
    refine y_pure (pc' := 41) (st' := [.int x1, .ref (x0 + 5)]) rfl rfl ?_
    refine y_pure (pc' := 42) (st' := [.int (nI 0), .int x1, .ref (x0 + 5)]) rfl rfl ?_
    refine y_iast (pc' := 43) rfl (zf_3_8 hk0) hi2 rfl ?_
    refine y_pure (pc' := 46) (ls' := [(0, .ref x0), (1, .int (x1 + (nI 1)))]) (st' := []) rfl rfl ?_
    refine y_pure (pc' := 2) rfl rfl ?_
    refine zEx_sub ?_ h
    exact ⟨rfl, rfl, trivial⟩
theorem e_R_forget {d : Nat} {x0 : Nat} {M : ZM} {r : ZR} (hk0 : zkd x0 = (13, 0)) (h : h_R_forget_2 d x0 (nI 0) M = some r) : zEv (d + 1) zmR_forget [.ref x0] M = some r := by
  rw [zEv_succ]
  show zEx0 (zEv d) zmR_forget (0, [(0, .ref x0)], [], M) = some r
  refine y_pure (pc' := 1) (st' := [.int (nI 0)]) rfl rfl ?_
  refine y_pure (pc' := 2) (ls' := [(0, .ref x0), (1, .int (nI 0))]) (st' := []) rfl rfl ?_
  refine zEx_sub ?_ h
  exact ⟨rfl, rfl, trivial⟩
noncomputable def h_R_fitSets_2 (d : Nat) (x0 : Nat) (x1 : Int32) (M : ZM) : Option ZR := zEx0 (zEv d) zmR_fitSets (2, [(0, .ref x0), (1, .int x1)], [], M)
noncomputable def h_R_fitSets_101 (d : Nat) (x0 : Nat) (x1 : Int32) (M : ZM) : Option ZR := zEx0 (zEv d) zmR_fitSets (101, [(0, .ref x0), (1, .int x1)], [], M)
theorem e_R_fitSets_2 {d : Nat} {x0 : Nat} {x1 : Int32} {M : ZM} {r : ZR} (hk0 : zkd x0 = (13, 0)) (h : (if (nI 7) < x1 then h_R_fitSets_101 d x0 (nI 1) M else (if zin x1 8 = true then zL (zpl (zpl M (x0 + 3) (Int32.toNatClampNeg x1) ((zsl 0).getD (Int32.toNatClampNeg x1) 0)) (x0 + 4) (Int32.toNatClampNeg x1) ((zsl 1).getD (Int32.toNatClampNeg x1) 0)) (fun M3 => (if (M3.1 x0 1) = (nI 0) then (if ((zpl M3 (x0 + 1) (Int32.toNatClampNeg x1) (nJ 0)).1 x0 1) = (nI 0) then zL (zpi (zpl (zpl M3 (x0 + 1) (Int32.toNatClampNeg x1) (nJ 0)) (x0 + 2) (Int32.toNatClampNeg x1) (nJ 0)) (x0 + 5) (Int32.toNatClampNeg x1) ((nI 1) <<< ((x1 - (nI 1)) &&& 31))) (fun M7 => h_R_fitSets_2 d x0 (x1 + (nI 1)) M7) else zL (zpl (zpl M3 (x0 + 1) (Int32.toNatClampNeg x1) (nJ 0)) (x0 + 2) (Int32.toNatClampNeg x1) (((zsl 1).getD (Int32.toNatClampNeg x1) 0) ^^^ (-1 : Int64))) (fun M9 => h_R_fitSets_2 d x0 (x1 + (nI 1)) (zpi M9 (x0 + 5) (Int32.toNatClampNeg x1) ((nI 1) <<< ((x1 - (nI 1)) &&& 31))))) else (if ((zpl M3 (x0 + 1) (Int32.toNatClampNeg x1) (((zsl 0).getD (Int32.toNatClampNeg x1) 0) ^^^ (-1 : Int64))).1 x0 1) = (nI 0) then zL (zpl (zpl M3 (x0 + 1) (Int32.toNatClampNeg x1) (((zsl 0).getD (Int32.toNatClampNeg x1) 0) ^^^ (-1 : Int64))) (x0 + 2) (Int32.toNatClampNeg x1) (nJ 0)) (fun M12 => h_R_fitSets_2 d x0 (x1 + (nI 1)) (zpi M12 (x0 + 5) (Int32.toNatClampNeg x1) ((nI 1) <<< ((x1 - (nI 1)) &&& 31)))) else zL (zpl (zpl M3 (x0 + 1) (Int32.toNatClampNeg x1) (((zsl 0).getD (Int32.toNatClampNeg x1) 0) ^^^ (-1 : Int64))) (x0 + 2) (Int32.toNatClampNeg x1) (((zsl 1).getD (Int32.toNatClampNeg x1) 0) ^^^ (-1 : Int64))) (fun M14 => h_R_fitSets_2 d x0 (x1 + (nI 1)) (zpi M14 (x0 + 5) (Int32.toNatClampNeg x1) ((nI 1) <<< ((x1 - (nI 1)) &&& 31))))))) else none)) = some r) : h_R_fitSets_2 d x0 x1 M = some r := by
  show zEx0 (zEv d) zmR_fitSets (2, [(0, .ref x0), (1, .int x1)], [], M) = some r
  refine y_pure (pc' := 3) (st' := [.int x1]) rfl rfl ?_
  refine y_pure (pc' := 5) (st' := [.int (nI 7), .int x1]) rfl rfl ?_
  rcases zif_inv h with ⟨hc1, h⟩ | ⟨hc1, h⟩
  · refine y_cmp (pc' := 99) rfl rfl (zc_gtT hc1) rfl ?_
    refine y_pure (pc' := 100) (st' := [.int (nI 1)]) rfl rfl ?_
    refine y_pure (pc' := 101) (ls' := [(0, .ref x0), (1, .int (nI 1))]) (st' := []) rfl rfl ?_
    refine zEx_sub ?_ h
    exact ⟨rfl, rfl, trivial⟩
  · refine y_cmp (pc' := 8) rfl rfl (zc_gtF hc1) rfl ?_
    refine y_pure (pc' := 9) (st' := [.ref x0]) rfl rfl ?_
    refine y_getf (pc' := 12) (v := .ref (x0 + 3)) rfl rfl rfl hk0 rfl rfl ?_
    refine y_pure (pc' := 13) (st' := [.int x1, .ref (x0 + 3)]) rfl rfl ?_
    refine y_gets (pc' := 16) (v := .ref 60) rfl rfl rfl rfl ?_
    refine y_pure (pc' := 17) (st' := [.int x1, .ref 60, .int x1, .ref (x0 + 3)]) rfl rfl ?_
    obtain ⟨hi2, h⟩ := zg_inv h
    refine y_cald (pc' := 18) rfl zc_60 hi2 rfl ?_
    refine y_last (pc' := 19) rfl (zf_3_6 hk0) hi2 rfl ?_
    refine y_pure (pc' := 20) (st' := [.ref x0]) rfl rfl ?_
    refine y_getf (pc' := 23) (v := .ref (x0 + 4)) rfl rfl rfl hk0 rfl rfl ?_
    refine y_pure (pc' := 24) (st' := [.int x1, .ref (x0 + 4)]) rfl rfl ?_
    refine y_gets (pc' := 27) (v := .ref 61) rfl rfl rfl rfl ?_
    refine y_pure (pc' := 28) (st' := [.int x1, .ref 61, .int x1, .ref (x0 + 4)]) rfl rfl ?_
    refine y_cald (pc' := 29) rfl zc_61 hi2 rfl ?_
    refine y_last (pc' := 30) rfl (zf_3_7 hk0) hi2 rfl ?_
    obtain ⟨M3, e4, h⟩ := zL_inv h
    refine zM_gen e4 ?_
    refine y_pure (pc' := 31) (st' := [.ref x0]) rfl rfl ?_
    refine y_getf (pc' := 34) (v := .ref (x0 + 1)) rfl rfl rfl hk0 rfl rfl ?_
    refine y_pure (pc' := 35) (st' := [.int x1, .ref (x0 + 1)]) rfl rfl ?_
    refine y_pure (pc' := 36) (st' := [.ref x0, .int x1, .ref (x0 + 1)]) rfl rfl ?_
    refine y_getf (pc' := 39) (v := .int (M3.1 x0 1)) rfl rfl rfl hk0 rfl rfl ?_
    rcases zif_inv h with ⟨hc5, h⟩ | ⟨hc5, h⟩
    · refine y_cnd (pc' := 54) rfl rfl (zc_eqT hc5) rfl ?_
      refine y_pure (pc' := 55) (st' := [.long (nJ 0), .int x1, .ref (x0 + 1)]) rfl rfl ?_
      refine y_last (pc' := 56) rfl (zf_3_4 hk0) hi2 rfl ?_
      refine y_pure (pc' := 57) (st' := [.ref x0]) rfl rfl ?_
      refine y_getf (pc' := 60) (v := .ref (x0 + 2)) rfl rfl rfl hk0 rfl rfl ?_
      refine y_pure (pc' := 61) (st' := [.int x1, .ref (x0 + 2)]) rfl rfl ?_
      refine y_pure (pc' := 62) (st' := [.ref x0, .int x1, .ref (x0 + 2)]) rfl rfl ?_
      refine y_getf (pc' := 65) (v := .int ((zpl M3 (x0 + 1) (Int32.toNatClampNeg x1) (nJ 0)).1 x0 1)) rfl rfl rfl hk0 rfl rfl ?_
      rcases zif_inv h with ⟨hc6, h⟩ | ⟨hc6, h⟩
      · refine y_cnd (pc' := 80) rfl rfl (zc_eqT hc6) rfl ?_
        refine y_pure (pc' := 81) (st' := [.long (nJ 0), .int x1, .ref (x0 + 2)]) rfl rfl ?_
        refine y_last (pc' := 82) rfl (zf_3_5 hk0) hi2 rfl ?_
        refine y_pure (pc' := 83) (st' := [.ref x0]) rfl rfl ?_
        refine y_getf (pc' := 86) (v := .ref (x0 + 5)) rfl rfl rfl hk0 rfl rfl ?_
        refine y_pure (pc' := 87) (st' := [.int x1, .ref (x0 + 5)]) rfl rfl ?_
        refine y_pure (pc' := 88) (st' := [.int (nI 1), .int x1, .ref (x0 + 5)]) rfl rfl ?_
        refine y_pure (pc' := 89) (st' := [.int x1, .int (nI 1), .int x1, .ref (x0 + 5)]) rfl rfl ?_
        refine y_pure (pc' := 90) (st' := [.int (nI 1), .int x1, .int (nI 1), .int x1, .ref (x0 + 5)]) rfl rfl ?_
        refine y_pure (pc' := 91) (st' := [.int (x1 - (nI 1)), .int (nI 1), .int x1, .ref (x0 + 5)]) rfl rfl ?_
        refine y_pure (pc' := 92) (st' := [.int ((nI 1) <<< ((x1 - (nI 1)) &&& 31)), .int x1, .ref (x0 + 5)]) rfl rfl ?_
        refine y_iast (pc' := 93) rfl (zf_3_8 hk0) hi2 rfl ?_
        obtain ⟨M7, e8, h⟩ := zL_inv h
        refine zM_gen e8 ?_
        refine y_pure (pc' := 96) (ls' := [(0, .ref x0), (1, .int (x1 + (nI 1)))]) (st' := []) rfl rfl ?_
        refine y_pure (pc' := 2) rfl rfl ?_
        refine zEx_sub ?_ h
        exact ⟨rfl, rfl, trivial⟩
      · refine y_cnd (pc' := 68) rfl rfl (zc_eqF hc6) rfl ?_
        refine y_gets (pc' := 71) (v := .ref 61) rfl rfl rfl rfl ?_
        refine y_pure (pc' := 72) (st' := [.int x1, .ref 61, .int x1, .ref (x0 + 2)]) rfl rfl ?_
        refine y_cald (pc' := 73) rfl zc_61 hi2 rfl ?_
        refine y_pure (pc' := 76) (st' := [.long (-1 : Int64), .long ((zsl 1).getD (Int32.toNatClampNeg x1) 0), .int x1, .ref (x0 + 2)]) rfl rfl ?_
        refine y_pure (pc' := 77) (st' := [.long (((zsl 1).getD (Int32.toNatClampNeg x1) 0) ^^^ (-1 : Int64)), .int x1, .ref (x0 + 2)]) rfl rfl ?_
        refine y_pure (pc' := 81) rfl rfl ?_
        refine y_last (pc' := 82) rfl (zf_3_5 hk0) hi2 rfl ?_
        obtain ⟨M9, e10, h⟩ := zL_inv h
        refine zM_gen e10 ?_
        refine y_pure (pc' := 83) (st' := [.ref x0]) rfl rfl ?_
        refine y_getf (pc' := 86) (v := .ref (x0 + 5)) rfl rfl rfl hk0 rfl rfl ?_
        refine y_pure (pc' := 87) (st' := [.int x1, .ref (x0 + 5)]) rfl rfl ?_
        refine y_pure (pc' := 88) (st' := [.int (nI 1), .int x1, .ref (x0 + 5)]) rfl rfl ?_
        refine y_pure (pc' := 89) (st' := [.int x1, .int (nI 1), .int x1, .ref (x0 + 5)]) rfl rfl ?_
        refine y_pure (pc' := 90) (st' := [.int (nI 1), .int x1, .int (nI 1), .int x1, .ref (x0 + 5)]) rfl rfl ?_
        refine y_pure (pc' := 91) (st' := [.int (x1 - (nI 1)), .int (nI 1), .int x1, .ref (x0 + 5)]) rfl rfl ?_
        refine y_pure (pc' := 92) (st' := [.int ((nI 1) <<< ((x1 - (nI 1)) &&& 31)), .int x1, .ref (x0 + 5)]) rfl rfl ?_
        refine y_iast (pc' := 93) rfl (zf_3_8 hk0) hi2 rfl ?_
        refine y_pure (pc' := 96) (ls' := [(0, .ref x0), (1, .int (x1 + (nI 1)))]) (st' := []) rfl rfl ?_
        refine y_pure (pc' := 2) rfl rfl ?_
        refine zEx_sub ?_ h
        exact ⟨rfl, rfl, trivial⟩
    · refine y_cnd (pc' := 42) rfl rfl (zc_eqF hc5) rfl ?_
      refine y_gets (pc' := 45) (v := .ref 60) rfl rfl rfl rfl ?_
      refine y_pure (pc' := 46) (st' := [.int x1, .ref 60, .int x1, .ref (x0 + 1)]) rfl rfl ?_
      refine y_cald (pc' := 47) rfl zc_60 hi2 rfl ?_
      refine y_pure (pc' := 50) (st' := [.long (-1 : Int64), .long ((zsl 0).getD (Int32.toNatClampNeg x1) 0), .int x1, .ref (x0 + 1)]) rfl rfl ?_
      refine y_pure (pc' := 51) (st' := [.long (((zsl 0).getD (Int32.toNatClampNeg x1) 0) ^^^ (-1 : Int64)), .int x1, .ref (x0 + 1)]) rfl rfl ?_
      refine y_pure (pc' := 55) rfl rfl ?_
      refine y_last (pc' := 56) rfl (zf_3_4 hk0) hi2 rfl ?_
      refine y_pure (pc' := 57) (st' := [.ref x0]) rfl rfl ?_
      refine y_getf (pc' := 60) (v := .ref (x0 + 2)) rfl rfl rfl hk0 rfl rfl ?_
      refine y_pure (pc' := 61) (st' := [.int x1, .ref (x0 + 2)]) rfl rfl ?_
      refine y_pure (pc' := 62) (st' := [.ref x0, .int x1, .ref (x0 + 2)]) rfl rfl ?_
      refine y_getf (pc' := 65) (v := .int ((zpl M3 (x0 + 1) (Int32.toNatClampNeg x1) (((zsl 0).getD (Int32.toNatClampNeg x1) 0) ^^^ (-1 : Int64))).1 x0 1)) rfl rfl rfl hk0 rfl rfl ?_
      rcases zif_inv h with ⟨hc11, h⟩ | ⟨hc11, h⟩
      · refine y_cnd (pc' := 80) rfl rfl (zc_eqT hc11) rfl ?_
        refine y_pure (pc' := 81) (st' := [.long (nJ 0), .int x1, .ref (x0 + 2)]) rfl rfl ?_
        refine y_last (pc' := 82) rfl (zf_3_5 hk0) hi2 rfl ?_
        obtain ⟨M12, e13, h⟩ := zL_inv h
        refine zM_gen e13 ?_
        refine y_pure (pc' := 83) (st' := [.ref x0]) rfl rfl ?_
        refine y_getf (pc' := 86) (v := .ref (x0 + 5)) rfl rfl rfl hk0 rfl rfl ?_
        refine y_pure (pc' := 87) (st' := [.int x1, .ref (x0 + 5)]) rfl rfl ?_
        refine y_pure (pc' := 88) (st' := [.int (nI 1), .int x1, .ref (x0 + 5)]) rfl rfl ?_
        refine y_pure (pc' := 89) (st' := [.int x1, .int (nI 1), .int x1, .ref (x0 + 5)]) rfl rfl ?_
        refine y_pure (pc' := 90) (st' := [.int (nI 1), .int x1, .int (nI 1), .int x1, .ref (x0 + 5)]) rfl rfl ?_
        refine y_pure (pc' := 91) (st' := [.int (x1 - (nI 1)), .int (nI 1), .int x1, .ref (x0 + 5)]) rfl rfl ?_
        refine y_pure (pc' := 92) (st' := [.int ((nI 1) <<< ((x1 - (nI 1)) &&& 31)), .int x1, .ref (x0 + 5)]) rfl rfl ?_
        refine y_iast (pc' := 93) rfl (zf_3_8 hk0) hi2 rfl ?_
        refine y_pure (pc' := 96) (ls' := [(0, .ref x0), (1, .int (x1 + (nI 1)))]) (st' := []) rfl rfl ?_
        refine y_pure (pc' := 2) rfl rfl ?_
        refine zEx_sub ?_ h
        exact ⟨rfl, rfl, trivial⟩
      · refine y_cnd (pc' := 68) rfl rfl (zc_eqF hc11) rfl ?_
        refine y_gets (pc' := 71) (v := .ref 61) rfl rfl rfl rfl ?_
        refine y_pure (pc' := 72) (st' := [.int x1, .ref 61, .int x1, .ref (x0 + 2)]) rfl rfl ?_
        refine y_cald (pc' := 73) rfl zc_61 hi2 rfl ?_
        refine y_pure (pc' := 76) (st' := [.long (-1 : Int64), .long ((zsl 1).getD (Int32.toNatClampNeg x1) 0), .int x1, .ref (x0 + 2)]) rfl rfl ?_
        refine y_pure (pc' := 77) (st' := [.long (((zsl 1).getD (Int32.toNatClampNeg x1) 0) ^^^ (-1 : Int64)), .int x1, .ref (x0 + 2)]) rfl rfl ?_
        refine y_pure (pc' := 81) rfl rfl ?_
        refine y_last (pc' := 82) rfl (zf_3_5 hk0) hi2 rfl ?_
        obtain ⟨M14, e15, h⟩ := zL_inv h
        refine zM_gen e15 ?_
        refine y_pure (pc' := 83) (st' := [.ref x0]) rfl rfl ?_
        refine y_getf (pc' := 86) (v := .ref (x0 + 5)) rfl rfl rfl hk0 rfl rfl ?_
        refine y_pure (pc' := 87) (st' := [.int x1, .ref (x0 + 5)]) rfl rfl ?_
        refine y_pure (pc' := 88) (st' := [.int (nI 1), .int x1, .ref (x0 + 5)]) rfl rfl ?_
        refine y_pure (pc' := 89) (st' := [.int x1, .int (nI 1), .int x1, .ref (x0 + 5)]) rfl rfl ?_
        refine y_pure (pc' := 90) (st' := [.int (nI 1), .int x1, .int (nI 1), .int x1, .ref (x0 + 5)]) rfl rfl ?_
        refine y_pure (pc' := 91) (st' := [.int (x1 - (nI 1)), .int (nI 1), .int x1, .ref (x0 + 5)]) rfl rfl ?_
        refine y_pure (pc' := 92) (st' := [.int ((nI 1) <<< ((x1 - (nI 1)) &&& 31)), .int x1, .ref (x0 + 5)]) rfl rfl ?_
        refine y_iast (pc' := 93) rfl (zf_3_8 hk0) hi2 rfl ?_
        refine y_pure (pc' := 96) (ls' := [(0, .ref x0), (1, .int (x1 + (nI 1)))]) (st' := []) rfl rfl ?_
        refine y_pure (pc' := 2) rfl rfl ?_
        refine zEx_sub ?_ h
        exact ⟨rfl, rfl, trivial⟩
theorem e_R_fitSets_101 {d : Nat} {x0 : Nat} {x1 : Int32} {M : ZM} {r : ZR} (hk0 : zkd x0 = (13, 0)) (h : (if x1 < (nI 128) then (if (M.1 x0 1) = (nI 0) then zC1 (zEv d zmJI_bitCount [.int x1] M) (fun v5 M4 => (if v5 = (M4.1 x0 3) then (if (M4.1 x0 0) = (nI 3) then zC0 (zEv d zmR_aim [.ref x0, .int x1] M4) (fun M10 => h_R_fitSets_101 d x0 (x1 + (nI 1)) M10) else zC1 (zEv d zmC_totalOfSet [.int (M4.1 x0 0), .int (x1 <<< ((nI 1) &&& 31))] M4) (fun v13 M12 => (if v13 = (M12.1 x0 2) then zC0 (zEv d zmR_aim [.ref x0, .int x1] M12) (fun M16 => h_R_fitSets_101 d x0 (x1 + (nI 1)) M16) else h_R_fitSets_101 d x0 (x1 + (nI 1)) M12))) else h_R_fitSets_101 d x0 (x1 + (nI 1)) M4)) else (if (M.1 x0 0) = (nI 3) then zC0 (zEv d zmR_aim [.ref x0, .int x1] M) (fun M21 => h_R_fitSets_101 d x0 (x1 + (nI 1)) M21) else zC1 (zEv d zmC_totalOfSet [.int (M.1 x0 0), .int (x1 <<< ((nI 1) &&& 31))] M) (fun v24 M23 => (if v24 = (M23.1 x0 2) then zC0 (zEv d zmR_aim [.ref x0, .int x1] M23) (fun M27 => h_R_fitSets_101 d x0 (x1 + (nI 1)) M27) else h_R_fitSets_101 d x0 (x1 + (nI 1)) M23)))) else some (none, M)) = some r) : h_R_fitSets_101 d x0 x1 M = some r := by
  show zEx0 (zEv d) zmR_fitSets (101, [(0, .ref x0), (1, .int x1)], [], M) = some r
  refine y_pure (pc' := 102) (st' := [.int x1]) rfl rfl ?_
  refine y_pure (pc' := 105) (st' := [.int (nI 128), .int x1]) rfl rfl ?_
  rcases zif_inv h with ⟨hc1, h⟩ | ⟨hc1, h⟩
  · refine y_cmp (pc' := 108) rfl rfl (zc_geF hc1) rfl ?_
    refine y_pure (pc' := 109) (st' := [.ref x0]) rfl rfl ?_
    refine y_getf (pc' := 112) (v := .int (M.1 x0 1)) rfl rfl rfl hk0 rfl rfl ?_
    rcases zif_inv h with ⟨hc2, h⟩ | ⟨hc2, h⟩
    · refine y_cnd (pc' := 115) rfl rfl (zc_neF hc2) rfl ?_
      refine y_pure (pc' := 116) (st' := [.int x1]) rfl rfl ?_
      obtain ⟨v5, M4, he3, h⟩ := zC1_inv h
      refine y_callS (pc' := 119) (y := zmJI_bitCount) (a := [.int x1]) (st' := []) rfl rfl rfl rfl rfl rfl he3 rfl rfl ?_
      refine y_pure (pc' := 120) (st' := [.ref x0, .int v5]) rfl rfl ?_
      refine y_getf (pc' := 123) (v := .int (M4.1 x0 3)) rfl rfl rfl hk0 rfl rfl ?_
      rcases zif_inv h with ⟨hc6, h⟩ | ⟨hc6, h⟩
      · refine y_cmp (pc' := 126) rfl rfl (zc_neF hc6) rfl ?_
        refine y_pure (pc' := 127) (st' := [.int (nI 1)]) rfl rfl ?_
        refine y_pure (pc' := 131) rfl rfl ?_
        refine y_pure (pc' := 132) (ls' := [(0, .ref x0), (1, .int x1), (2, .int (nI 1))]) (st' := []) rfl rfl ?_
        refine y_pure (pc' := 133) (st' := [.int (nI 1)]) rfl rfl ?_
        refine y_cnd (pc' := 136) rfl rfl (zc_eqF (by decide)) rfl ?_
        refine y_pure (pc' := 137) (st' := [.ref x0]) rfl rfl ?_
        refine y_getf (pc' := 140) (v := .int (M4.1 x0 0)) rfl rfl rfl hk0 rfl rfl ?_
        refine y_pure (pc' := 141) (st' := [.int (nI 3), .int (M4.1 x0 0)]) rfl rfl ?_
        rcases zif_inv h with ⟨hc8, h⟩ | ⟨hc8, h⟩
        · refine y_cmp (pc' := 161) rfl rfl (zc_eqT hc8) rfl ?_
          refine y_pure (pc' := 162) (st' := [.ref x0]) rfl rfl ?_
          refine y_pure (pc' := 163) (st' := [.int x1, .ref x0]) rfl rfl ?_
          obtain ⟨M10, he9, h⟩ := zC0_inv h
          refine y_callV (pc' := 166) (y := zmR_aim) (a' := [.int x1]) (st' := []) rfl rfl rfl rfl rfl (zrecv_o (o := 3) hk0 rfl) rfl he9 rfl rfl ?_
          refine y_pure (pc' := 169) (ls' := [(0, .ref x0), (1, .int (x1 + (nI 1))), (2, .int (nI 1))]) (st' := []) rfl rfl ?_
          refine y_pure (pc' := 101) rfl rfl ?_
          refine zEx_sub ?_ h
          exact ⟨rfl, rfl, trivial⟩
        · refine y_cmp (pc' := 144) rfl rfl (zc_eqF hc8) rfl ?_
          refine y_pure (pc' := 145) (st' := [.ref x0]) rfl rfl ?_
          refine y_getf (pc' := 148) (v := .int (M4.1 x0 0)) rfl rfl rfl hk0 rfl rfl ?_
          refine y_pure (pc' := 149) (st' := [.int x1, .int (M4.1 x0 0)]) rfl rfl ?_
          refine y_pure (pc' := 150) (st' := [.int (nI 1), .int x1, .int (M4.1 x0 0)]) rfl rfl ?_
          refine y_pure (pc' := 151) (st' := [.int (x1 <<< ((nI 1) &&& 31)), .int (M4.1 x0 0)]) rfl rfl ?_
          obtain ⟨v13, M12, he11, h⟩ := zC1_inv h
          refine y_callS (pc' := 154) (y := zmC_totalOfSet) (a := [.int (M4.1 x0 0), .int (x1 <<< ((nI 1) &&& 31))]) (st' := []) rfl rfl rfl rfl rfl rfl he11 rfl rfl ?_
          refine y_pure (pc' := 155) (st' := [.ref x0, .int v13]) rfl rfl ?_
          refine y_getf (pc' := 158) (v := .int (M12.1 x0 2)) rfl rfl rfl hk0 rfl rfl ?_
          rcases zif_inv h with ⟨hc14, h⟩ | ⟨hc14, h⟩
          · refine y_cmp (pc' := 161) rfl rfl (zc_neF hc14) rfl ?_
            refine y_pure (pc' := 162) (st' := [.ref x0]) rfl rfl ?_
            refine y_pure (pc' := 163) (st' := [.int x1, .ref x0]) rfl rfl ?_
            obtain ⟨M16, he15, h⟩ := zC0_inv h
            refine y_callV (pc' := 166) (y := zmR_aim) (a' := [.int x1]) (st' := []) rfl rfl rfl rfl rfl (zrecv_o (o := 3) hk0 rfl) rfl he15 rfl rfl ?_
            refine y_pure (pc' := 169) (ls' := [(0, .ref x0), (1, .int (x1 + (nI 1))), (2, .int (nI 1))]) (st' := []) rfl rfl ?_
            refine y_pure (pc' := 101) rfl rfl ?_
            refine zEx_sub ?_ h
            exact ⟨rfl, rfl, trivial⟩
          · refine y_cmp (pc' := 166) rfl rfl (zc_neT hc14) rfl ?_
            refine y_pure (pc' := 169) (ls' := [(0, .ref x0), (1, .int (x1 + (nI 1))), (2, .int (nI 1))]) (st' := []) rfl rfl ?_
            refine y_pure (pc' := 101) rfl rfl ?_
            refine zEx_sub ?_ h
            exact ⟨rfl, rfl, trivial⟩
      · refine y_cmp (pc' := 130) rfl rfl (zc_neT hc6) rfl ?_
        refine y_pure (pc' := 131) (st' := [.int (nI 0)]) rfl rfl ?_
        refine y_pure (pc' := 132) (ls' := [(0, .ref x0), (1, .int x1), (2, .int (nI 0))]) (st' := []) rfl rfl ?_
        refine y_pure (pc' := 133) (st' := [.int (nI 0)]) rfl rfl ?_
        refine y_cnd (pc' := 166) rfl rfl (zc_eqT (by decide)) rfl ?_
        refine y_pure (pc' := 169) (ls' := [(0, .ref x0), (1, .int (x1 + (nI 1))), (2, .int (nI 0))]) (st' := []) rfl rfl ?_
        refine y_pure (pc' := 101) rfl rfl ?_
        refine zEx_sub ?_ h
        exact ⟨rfl, rfl, trivial⟩
    · refine y_cnd (pc' := 126) rfl rfl (zc_neT hc2) rfl ?_
      refine y_pure (pc' := 127) (st' := [.int (nI 1)]) rfl rfl ?_
      refine y_pure (pc' := 131) rfl rfl ?_
      refine y_pure (pc' := 132) (ls' := [(0, .ref x0), (1, .int x1), (2, .int (nI 1))]) (st' := []) rfl rfl ?_
      refine y_pure (pc' := 133) (st' := [.int (nI 1)]) rfl rfl ?_
      refine y_cnd (pc' := 136) rfl rfl (zc_eqF (by decide)) rfl ?_
      refine y_pure (pc' := 137) (st' := [.ref x0]) rfl rfl ?_
      refine y_getf (pc' := 140) (v := .int (M.1 x0 0)) rfl rfl rfl hk0 rfl rfl ?_
      refine y_pure (pc' := 141) (st' := [.int (nI 3), .int (M.1 x0 0)]) rfl rfl ?_
      rcases zif_inv h with ⟨hc19, h⟩ | ⟨hc19, h⟩
      · refine y_cmp (pc' := 161) rfl rfl (zc_eqT hc19) rfl ?_
        refine y_pure (pc' := 162) (st' := [.ref x0]) rfl rfl ?_
        refine y_pure (pc' := 163) (st' := [.int x1, .ref x0]) rfl rfl ?_
        obtain ⟨M21, he20, h⟩ := zC0_inv h
        refine y_callV (pc' := 166) (y := zmR_aim) (a' := [.int x1]) (st' := []) rfl rfl rfl rfl rfl (zrecv_o (o := 3) hk0 rfl) rfl he20 rfl rfl ?_
        refine y_pure (pc' := 169) (ls' := [(0, .ref x0), (1, .int (x1 + (nI 1))), (2, .int (nI 1))]) (st' := []) rfl rfl ?_
        refine y_pure (pc' := 101) rfl rfl ?_
        refine zEx_sub ?_ h
        exact ⟨rfl, rfl, trivial⟩
      · refine y_cmp (pc' := 144) rfl rfl (zc_eqF hc19) rfl ?_
        refine y_pure (pc' := 145) (st' := [.ref x0]) rfl rfl ?_
        refine y_getf (pc' := 148) (v := .int (M.1 x0 0)) rfl rfl rfl hk0 rfl rfl ?_
        refine y_pure (pc' := 149) (st' := [.int x1, .int (M.1 x0 0)]) rfl rfl ?_
        refine y_pure (pc' := 150) (st' := [.int (nI 1), .int x1, .int (M.1 x0 0)]) rfl rfl ?_
        refine y_pure (pc' := 151) (st' := [.int (x1 <<< ((nI 1) &&& 31)), .int (M.1 x0 0)]) rfl rfl ?_
        obtain ⟨v24, M23, he22, h⟩ := zC1_inv h
        refine y_callS (pc' := 154) (y := zmC_totalOfSet) (a := [.int (M.1 x0 0), .int (x1 <<< ((nI 1) &&& 31))]) (st' := []) rfl rfl rfl rfl rfl rfl he22 rfl rfl ?_
        refine y_pure (pc' := 155) (st' := [.ref x0, .int v24]) rfl rfl ?_
        refine y_getf (pc' := 158) (v := .int (M23.1 x0 2)) rfl rfl rfl hk0 rfl rfl ?_
        rcases zif_inv h with ⟨hc25, h⟩ | ⟨hc25, h⟩
        · refine y_cmp (pc' := 161) rfl rfl (zc_neF hc25) rfl ?_
          refine y_pure (pc' := 162) (st' := [.ref x0]) rfl rfl ?_
          refine y_pure (pc' := 163) (st' := [.int x1, .ref x0]) rfl rfl ?_
          obtain ⟨M27, he26, h⟩ := zC0_inv h
          refine y_callV (pc' := 166) (y := zmR_aim) (a' := [.int x1]) (st' := []) rfl rfl rfl rfl rfl (zrecv_o (o := 3) hk0 rfl) rfl he26 rfl rfl ?_
          refine y_pure (pc' := 169) (ls' := [(0, .ref x0), (1, .int (x1 + (nI 1))), (2, .int (nI 1))]) (st' := []) rfl rfl ?_
          refine y_pure (pc' := 101) rfl rfl ?_
          refine zEx_sub ?_ h
          exact ⟨rfl, rfl, trivial⟩
        · refine y_cmp (pc' := 166) rfl rfl (zc_neT hc25) rfl ?_
          refine y_pure (pc' := 169) (ls' := [(0, .ref x0), (1, .int (x1 + (nI 1))), (2, .int (nI 1))]) (st' := []) rfl rfl ?_
          refine y_pure (pc' := 101) rfl rfl ?_
          refine zEx_sub ?_ h
          exact ⟨rfl, rfl, trivial⟩
  · refine y_cmp (pc' := 172) rfl rfl (zc_geT hc1) rfl ?_
    exact y_ret rfl rfl rfl rfl h
theorem e_R_fitSets {d : Nat} {x0 : Nat} {M : ZM} {r : ZR} (hk0 : zkd x0 = (13, 0)) (h : h_R_fitSets_2 d x0 (nI 1) M = some r) : zEv (d + 1) zmR_fitSets [.ref x0] M = some r := by
  rw [zEv_succ]
  show zEx0 (zEv d) zmR_fitSets (0, [(0, .ref x0)], [], M) = some r
  refine y_pure (pc' := 1) (st' := [.int (nI 1)]) rfl rfl ?_
  refine y_pure (pc' := 2) (ls' := [(0, .ref x0), (1, .int (nI 1))]) (st' := []) rfl rfl ?_
  refine zEx_sub ?_ h
  exact ⟨rfl, rfl, trivial⟩
noncomputable def h_R_fitSum_19 (d : Nat) (x0 : Nat) (x1 : Int32) (M : ZM) : Option ZR := zEx0 (zEv d) zmR_fitSum (19, [(0, .ref x0), (1, .int x1)], [], M)
noncomputable def h_R_fitSum_34 (d : Nat) (x0 : Nat) (x1 : Int32) (x2 : Int32) (M : ZM) : Option ZR := zEx0 (zEv d) zmR_fitSum (34, [(0, .ref x0), (1, .int x1), (2, .int x2)], [], M)
theorem e_R_fitSum_19 {d : Nat} {x0 : Nat} {x1 : Int32} {M : ZM} {r : ZR} (hk0 : zkd x0 = (13, 0)) (h : (if (nI 7) < x1 then zC0 (zEv d zmR_aim [.ref x0, .int (M.1 x0 2)] M) (fun M3 => some (none, M3)) else (if zin x1 8 = true then h_R_fitSum_34 d x0 x1 (nI 0) (zpi M (x0 + 5) (Int32.toNatClampNeg x1) x1) else none)) = some r) : h_R_fitSum_19 d x0 x1 M = some r := by
  show zEx0 (zEv d) zmR_fitSum (19, [(0, .ref x0), (1, .int x1)], [], M) = some r
  refine y_pure (pc' := 20) (st' := [.int x1]) rfl rfl ?_
  refine y_pure (pc' := 22) (st' := [.int (nI 7), .int x1]) rfl rfl ?_
  rcases zif_inv h with ⟨hc1, h⟩ | ⟨hc1, h⟩
  · refine y_cmp (pc' := 62) rfl rfl (zc_gtT hc1) rfl ?_
    refine y_pure (pc' := 63) (st' := [.ref x0]) rfl rfl ?_
    refine y_pure (pc' := 64) (st' := [.ref x0, .ref x0]) rfl rfl ?_
    refine y_getf (pc' := 67) (v := .int (M.1 x0 2)) rfl rfl rfl hk0 rfl rfl ?_
    obtain ⟨M3, he2, h⟩ := zC0_inv h
    refine y_callV (pc' := 70) (y := zmR_aim) (a' := [.int (M.1 x0 2)]) (st' := []) rfl rfl rfl rfl rfl (zrecv_o (o := 3) hk0 rfl) rfl he2 rfl rfl ?_
    exact y_ret rfl rfl rfl rfl h
  · refine y_cmp (pc' := 25) rfl rfl (zc_gtF hc1) rfl ?_
    refine y_pure (pc' := 26) (st' := [.ref x0]) rfl rfl ?_
    refine y_getf (pc' := 29) (v := .ref (x0 + 5)) rfl rfl rfl hk0 rfl rfl ?_
    refine y_pure (pc' := 30) (st' := [.int x1, .ref (x0 + 5)]) rfl rfl ?_
    refine y_pure (pc' := 31) (st' := [.int x1, .int x1, .ref (x0 + 5)]) rfl rfl ?_
    obtain ⟨hi4, h⟩ := zg_inv h
    refine y_iast (pc' := 32) rfl (zf_3_8 hk0) hi4 rfl ?_
    refine y_pure (pc' := 33) (st' := [.int (nI 0)]) rfl rfl ?_
    refine y_pure (pc' := 34) (ls' := [(0, .ref x0), (1, .int x1), (2, .int (nI 0))]) (st' := []) rfl rfl ?_
    refine zEx_sub ?_ h
    exact ⟨rfl, rfl, rfl, trivial⟩
theorem e_R_fitSum_34 {d : Nat} {x0 : Nat} {x1 : Int32} {x2 : Int32} {M : ZM} {r : ZR} (hk0 : zkd x0 = (13, 0)) (h : (if (M.1 x0 2) < (x2 + x1) then h_R_fitSum_19 d x0 (x1 + (nI 1)) M else zC0 (zEv d zmR_allow [.ref x0, .int x1, .int x2] M) (fun M3 => h_R_fitSum_34 d x0 x1 (x2 + (nI 1)) M3)) = some r) : h_R_fitSum_34 d x0 x1 x2 M = some r := by
  show zEx0 (zEv d) zmR_fitSum (34, [(0, .ref x0), (1, .int x1), (2, .int x2)], [], M) = some r
  refine y_pure (pc' := 35) (st' := [.int x2]) rfl rfl ?_
  refine y_pure (pc' := 36) (st' := [.int x1, .int x2]) rfl rfl ?_
  refine y_pure (pc' := 37) (st' := [.int (x2 + x1)]) rfl rfl ?_
  refine y_pure (pc' := 38) (st' := [.ref x0, .int (x2 + x1)]) rfl rfl ?_
  refine y_getf (pc' := 41) (v := .int (M.1 x0 2)) rfl rfl rfl hk0 rfl rfl ?_
  rcases zif_inv h with ⟨hc1, h⟩ | ⟨hc1, h⟩
  · refine y_cmp (pc' := 56) rfl rfl (zc_gtT hc1) rfl ?_
    refine y_pure (pc' := 59) (ls' := [(0, .ref x0), (1, .int (x1 + (nI 1))), (2, .int x2)]) (st' := []) rfl rfl ?_
    refine y_pure (pc' := 19) rfl rfl ?_
    refine zEx_sub ?_ h
    exact ⟨rfl, rfl, trivial⟩
  · refine y_cmp (pc' := 44) rfl rfl (zc_gtF hc1) rfl ?_
    refine y_pure (pc' := 45) (st' := [.ref x0]) rfl rfl ?_
    refine y_pure (pc' := 46) (st' := [.int x1, .ref x0]) rfl rfl ?_
    refine y_pure (pc' := 47) (st' := [.int x2, .int x1, .ref x0]) rfl rfl ?_
    obtain ⟨M3, he2, h⟩ := zC0_inv h
    refine y_callV (pc' := 50) (y := zmR_allow) (a' := [.int x1, .int x2]) (st' := []) rfl rfl rfl rfl rfl (zrecv_o (o := 3) hk0 rfl) rfl he2 rfl rfl ?_
    refine y_pure (pc' := 53) (ls' := [(0, .ref x0), (1, .int x1), (2, .int (x2 + (nI 1)))]) (st' := []) rfl rfl ?_
    refine y_pure (pc' := 34) rfl rfl ?_
    refine zEx_sub ?_ h
    exact ⟨rfl, rfl, rfl, trivial⟩
theorem e_R_fitSum {d : Nat} {x0 : Nat} {M : ZM} {r : ZR} (hk0 : zkd x0 = (13, 0)) (h : (if (M.1 x0 2) < (nI 0) then some (none, M) else (if (nI 42) < (M.1 x0 2) then some (none, M) else h_R_fitSum_19 d x0 (nI 1) M)) = some r) : zEv (d + 1) zmR_fitSum [.ref x0] M = some r := by
  rw [zEv_succ]
  show zEx0 (zEv d) zmR_fitSum (0, [(0, .ref x0)], [], M) = some r
  refine y_pure (pc' := 1) (st' := [.ref x0]) rfl rfl ?_
  refine y_getf (pc' := 4) (v := .int (M.1 x0 2)) rfl rfl rfl hk0 rfl rfl ?_
  rcases zif_inv h with ⟨hc1, h⟩ | ⟨hc1, h⟩
  · refine y_cnd (pc' := 16) rfl rfl (zc_ltT hc1) rfl ?_
    exact y_ret rfl rfl rfl rfl h
  · refine y_cnd (pc' := 7) rfl rfl (zc_ltF hc1) rfl ?_
    refine y_pure (pc' := 8) (st' := [.ref x0]) rfl rfl ?_
    refine y_getf (pc' := 11) (v := .int (M.1 x0 2)) rfl rfl rfl hk0 rfl rfl ?_
    refine y_pure (pc' := 13) (st' := [.int (nI 42), .int (M.1 x0 2)]) rfl rfl ?_
    rcases zif_inv h with ⟨hc2, h⟩ | ⟨hc2, h⟩
    · refine y_cmp (pc' := 16) rfl rfl (zc_leF hc2) rfl ?_
      exact y_ret rfl rfl rfl rfl h
    · refine y_cmp (pc' := 17) rfl rfl (zc_leT hc2) rfl ?_
      refine y_pure (pc' := 18) (st' := [.int (nI 1)]) rfl rfl ?_
      refine y_pure (pc' := 19) (ls' := [(0, .ref x0), (1, .int (nI 1))]) (st' := []) rfl rfl ?_
      refine zEx_sub ?_ h
      exact ⟨rfl, rfl, trivial⟩
noncomputable def h_R_fitProduct_201 (d : Nat) (x0 : Nat) (x2 : Int32) (x3 : Int32) (x5 : Int32) (x6 : Int32) (x7 : Int32) (x8 : Int32) (x9 : Int32) (M : ZM) : Option ZR := zEx0 (zEv d) zmR_fitProduct (201, [(0, .ref x0), (2, .int x2), (3, .int x3), (5, .int x5), (6, .int x6), (7, .int x7), (8, .int x8), (9, .int x9)], [], M)
noncomputable def h_R_fitProduct_261 (d : Nat) (x0 : Nat) (x2 : Int32) (x3 : Int32) (x5 : Int32) (x6 : Int32) (x7 : Int32) (x8 : Int32) (x9 : Int32) (x10 : Int32) (x11 : Int32) (M : ZM) : Option ZR := zEx0 (zEv d) zmR_fitProduct (261, [(0, .ref x0), (2, .int x2), (3, .int x3), (5, .int x5), (6, .int x6), (7, .int x7), (8, .int x8), (9, .int x9), (10, .int x10), (11, .int x11)], [], M)
theorem e_R_fitProduct_201 {d : Nat} {x0 : Nat} {x2 : Int32} {x3 : Int32} {x5 : Int32} {x6 : Int32} {x7 : Int32} {x8 : Int32} {x9 : Int32} {M : ZM} {r : ZR} (hk0 : zkd x0 = (13, 0)) (h : (if x9 < x8 then (if x5 = nI 0 then none else zC1 (zEv d zmR_power [.int (nI 2), .int (x9 - x9 / x5 * x5)] M) (fun v5 M4 => (if x5 = nI 0 then none else (if (x2 + (nI 1)) = nI 0 then none else zC1 (zEv d zmR_power [.int (nI 3), .int ((x9 / x5) - (x9 / x5) / (x2 + (nI 1)) * (x2 + (nI 1)))] M4) (fun v10 M9 => (if x6 = nI 0 then none else (if (x3 + (nI 1)) = nI 0 then none else zC1 (zEv d zmR_power [.int (nI 5), .int ((x9 / x6) - (x9 / x6) / (x3 + (nI 1)) * (x3 + (nI 1)))] M9) (fun v15 M14 => (if x7 = nI 0 then none else zC1 (zEv d zmR_power [.int (nI 7), .int (x9 / x7)] M14) (fun v19 M18 => h_R_fitProduct_261 d x0 x2 x3 x5 x6 x7 x8 x9 (((v5 * v10) * v15) * v19) (nI 1) M18)))))))))) else zC0 (zEv d zmR_aim [.ref x0, .int (x8 - (nI 1))] M) (fun M21 => some (none, M21))) = some r) : h_R_fitProduct_201 d x0 x2 x3 x5 x6 x7 x8 x9 M = some r := by
  show zEx0 (zEv d) zmR_fitProduct (201, [(0, .ref x0), (2, .int x2), (3, .int x3), (5, .int x5), (6, .int x6), (7, .int x7), (8, .int x8), (9, .int x9)], [], M) = some r
  refine y_pure (pc' := 203) (st' := [.int x9]) rfl rfl ?_
  refine y_pure (pc' := 205) (st' := [.int x8, .int x9]) rfl rfl ?_
  rcases zif_inv h with ⟨hc1, h⟩ | ⟨hc1, h⟩
  · refine y_cmp (pc' := 208) rfl rfl (zc_geF hc1) rfl ?_
    refine y_pure (pc' := 209) (st' := [.int (nI 2)]) rfl rfl ?_
    refine y_pure (pc' := 211) (st' := [.int x9, .int (nI 2)]) rfl rfl ?_
    refine y_pure (pc' := 213) (st' := [.int x5, .int x9, .int (nI 2)]) rfl rfl ?_
    obtain ⟨hb2, h⟩ := zd_inv h
    refine y_irem (pc' := 214) (st := [.int (nI 2)]) rfl hb2 rfl ?_
    obtain ⟨v5, M4, he3, h⟩ := zC1_inv h
    refine y_callS (pc' := 217) (y := zmR_power) (a := [.int (nI 2), .int (x9 - x9 / x5 * x5)]) (st' := []) rfl rfl rfl rfl rfl rfl he3 rfl rfl ?_
    refine y_pure (pc' := 218) (st' := [.int (nI 3), .int v5]) rfl rfl ?_
    refine y_pure (pc' := 220) (st' := [.int x9, .int (nI 3), .int v5]) rfl rfl ?_
    refine y_pure (pc' := 222) (st' := [.int x5, .int x9, .int (nI 3), .int v5]) rfl rfl ?_
    obtain ⟨hb6, h⟩ := zd_inv h
    refine y_idiv (pc' := 223) (st := [.int (nI 3), .int v5]) rfl hb6 rfl ?_
    refine y_pure (pc' := 224) (st' := [.int x2, .int (x9 / x5), .int (nI 3), .int v5]) rfl rfl ?_
    refine y_pure (pc' := 225) (st' := [.int (nI 1), .int x2, .int (x9 / x5), .int (nI 3), .int v5]) rfl rfl ?_
    refine y_pure (pc' := 226) (st' := [.int (x2 + (nI 1)), .int (x9 / x5), .int (nI 3), .int v5]) rfl rfl ?_
    obtain ⟨hb7, h⟩ := zd_inv h
    refine y_irem (pc' := 227) (st := [.int (nI 3), .int v5]) rfl hb7 rfl ?_
    obtain ⟨v10, M9, he8, h⟩ := zC1_inv h
    refine y_callS (pc' := 230) (y := zmR_power) (a := [.int (nI 3), .int ((x9 / x5) - (x9 / x5) / (x2 + (nI 1)) * (x2 + (nI 1)))]) (st' := [.int v5]) rfl rfl rfl rfl rfl rfl he8 rfl rfl ?_
    refine y_pure (pc' := 231) (st' := [.int (v5 * v10)]) rfl rfl ?_
    refine y_pure (pc' := 232) (st' := [.int (nI 5), .int (v5 * v10)]) rfl rfl ?_
    refine y_pure (pc' := 234) (st' := [.int x9, .int (nI 5), .int (v5 * v10)]) rfl rfl ?_
    refine y_pure (pc' := 236) (st' := [.int x6, .int x9, .int (nI 5), .int (v5 * v10)]) rfl rfl ?_
    obtain ⟨hb11, h⟩ := zd_inv h
    refine y_idiv (pc' := 237) (st := [.int (nI 5), .int (v5 * v10)]) rfl hb11 rfl ?_
    refine y_pure (pc' := 238) (st' := [.int x3, .int (x9 / x6), .int (nI 5), .int (v5 * v10)]) rfl rfl ?_
    refine y_pure (pc' := 239) (st' := [.int (nI 1), .int x3, .int (x9 / x6), .int (nI 5), .int (v5 * v10)]) rfl rfl ?_
    refine y_pure (pc' := 240) (st' := [.int (x3 + (nI 1)), .int (x9 / x6), .int (nI 5), .int (v5 * v10)]) rfl rfl ?_
    obtain ⟨hb12, h⟩ := zd_inv h
    refine y_irem (pc' := 241) (st := [.int (nI 5), .int (v5 * v10)]) rfl hb12 rfl ?_
    obtain ⟨v15, M14, he13, h⟩ := zC1_inv h
    refine y_callS (pc' := 244) (y := zmR_power) (a := [.int (nI 5), .int ((x9 / x6) - (x9 / x6) / (x3 + (nI 1)) * (x3 + (nI 1)))]) (st' := [.int (v5 * v10)]) rfl rfl rfl rfl rfl rfl he13 rfl rfl ?_
    refine y_pure (pc' := 245) (st' := [.int ((v5 * v10) * v15)]) rfl rfl ?_
    refine y_pure (pc' := 247) (st' := [.int (nI 7), .int ((v5 * v10) * v15)]) rfl rfl ?_
    refine y_pure (pc' := 249) (st' := [.int x9, .int (nI 7), .int ((v5 * v10) * v15)]) rfl rfl ?_
    refine y_pure (pc' := 251) (st' := [.int x7, .int x9, .int (nI 7), .int ((v5 * v10) * v15)]) rfl rfl ?_
    obtain ⟨hb16, h⟩ := zd_inv h
    refine y_idiv (pc' := 252) (st := [.int (nI 7), .int ((v5 * v10) * v15)]) rfl hb16 rfl ?_
    obtain ⟨v19, M18, he17, h⟩ := zC1_inv h
    refine y_callS (pc' := 255) (y := zmR_power) (a := [.int (nI 7), .int (x9 / x7)]) (st' := [.int ((v5 * v10) * v15)]) rfl rfl rfl rfl rfl rfl he17 rfl rfl ?_
    refine y_pure (pc' := 256) (st' := [.int (((v5 * v10) * v15) * v19)]) rfl rfl ?_
    refine y_pure (pc' := 258) (ls' := [(0, .ref x0), (2, .int x2), (3, .int x3), (5, .int x5), (6, .int x6), (7, .int x7), (8, .int x8), (9, .int x9), (10, .int (((v5 * v10) * v15) * v19))]) (st' := []) rfl rfl ?_
    refine y_pure (pc' := 259) (st' := [.int (nI 1)]) rfl rfl ?_
    refine y_pure (pc' := 261) (ls' := [(0, .ref x0), (2, .int x2), (3, .int x3), (5, .int x5), (6, .int x6), (7, .int x7), (8, .int x8), (9, .int x9), (10, .int (((v5 * v10) * v15) * v19)), (11, .int (nI 1))]) (st' := []) rfl rfl ?_
    refine zEx_sub ?_ h
    exact ⟨rfl, rfl, rfl, rfl, rfl, rfl, rfl, rfl, rfl, rfl, trivial⟩
  · refine y_cmp (pc' := 306) rfl rfl (zc_geT hc1) rfl ?_
    refine y_pure (pc' := 307) (st' := [.ref x0]) rfl rfl ?_
    refine y_pure (pc' := 309) (st' := [.int x8, .ref x0]) rfl rfl ?_
    refine y_pure (pc' := 310) (st' := [.int (nI 1), .int x8, .ref x0]) rfl rfl ?_
    refine y_pure (pc' := 311) (st' := [.int (x8 - (nI 1)), .ref x0]) rfl rfl ?_
    obtain ⟨M21, he20, h⟩ := zC0_inv h
    refine y_callV (pc' := 314) (y := zmR_aim) (a' := [.int (x8 - (nI 1))]) (st' := []) rfl rfl rfl rfl rfl (zrecv_o (o := 3) hk0 rfl) rfl he20 rfl rfl ?_
    exact y_ret rfl rfl rfl rfl h
theorem e_R_fitProduct_261 {d : Nat} {x0 : Nat} {x2 : Int32} {x3 : Int32} {x5 : Int32} {x6 : Int32} {x7 : Int32} {x8 : Int32} {x9 : Int32} {x10 : Int32} {x11 : Int32} {M : ZM} {r : ZR} (hk0 : zkd x0 = (13, 0)) (h : (if (nI 7) < x11 then h_R_fitProduct_201 d x0 x2 x3 x5 x6 x7 x8 (x9 + (nI 1)) M else (if (nI 0) < x10 then (if x10 = nI 0 then none else (if x11 = nI 0 then none else (if (((M.1 x0 2) / x10) - ((M.1 x0 2) / x10) / x11 * x11) = (nI 0) then zC0 (zEv d zmR_allow [.ref x0, .int x11, .int x9] M) (fun M7 => h_R_fitProduct_261 d x0 x2 x3 x5 x6 x7 x8 x9 x10 (x11 + (nI 1)) M7) else h_R_fitProduct_261 d x0 x2 x3 x5 x6 x7 x8 x9 x10 (x11 + (nI 1)) M))) else h_R_fitProduct_261 d x0 x2 x3 x5 x6 x7 x8 x9 x10 (x11 + (nI 1)) M)) = some r) : h_R_fitProduct_261 d x0 x2 x3 x5 x6 x7 x8 x9 x10 x11 M = some r := by
  show zEx0 (zEv d) zmR_fitProduct (261, [(0, .ref x0), (2, .int x2), (3, .int x3), (5, .int x5), (6, .int x6), (7, .int x7), (8, .int x8), (9, .int x9), (10, .int x10), (11, .int x11)], [], M) = some r
  refine y_pure (pc' := 263) (st' := [.int x11]) rfl rfl ?_
  refine y_pure (pc' := 265) (st' := [.int (nI 7), .int x11]) rfl rfl ?_
  rcases zif_inv h with ⟨hc1, h⟩ | ⟨hc1, h⟩
  · refine y_cmp (pc' := 300) rfl rfl (zc_gtT hc1) rfl ?_
    refine y_pure (pc' := 303) (ls' := [(0, .ref x0), (2, .int x2), (3, .int x3), (5, .int x5), (6, .int x6), (7, .int x7), (8, .int x8), (9, .int (x9 + (nI 1))), (10, .int x10), (11, .int x11)]) (st' := []) rfl rfl ?_
    refine y_pure (pc' := 201) rfl rfl ?_
    refine zEx_sub ?_ h
    exact ⟨rfl, rfl, rfl, rfl, rfl, rfl, rfl, rfl, trivial⟩
  · refine y_cmp (pc' := 268) rfl rfl (zc_gtF hc1) rfl ?_
    refine y_pure (pc' := 270) (st' := [.int x10]) rfl rfl ?_
    rcases zif_inv h with ⟨hc2, h⟩ | ⟨hc2, h⟩
    · refine y_cnd (pc' := 273) rfl rfl (zc_leF hc2) rfl ?_
      refine y_pure (pc' := 274) (st' := [.ref x0]) rfl rfl ?_
      refine y_getf (pc' := 277) (v := .int (M.1 x0 2)) rfl rfl rfl hk0 rfl rfl ?_
      refine y_pure (pc' := 279) (st' := [.int x10, .int (M.1 x0 2)]) rfl rfl ?_
      obtain ⟨hb3, h⟩ := zd_inv h
      refine y_idiv (pc' := 280) (st := []) rfl hb3 rfl ?_
      refine y_pure (pc' := 282) (st' := [.int x11, .int ((M.1 x0 2) / x10)]) rfl rfl ?_
      obtain ⟨hb4, h⟩ := zd_inv h
      refine y_irem (pc' := 283) (st := []) rfl hb4 rfl ?_
      rcases zif_inv h with ⟨hc5, h⟩ | ⟨hc5, h⟩
      · refine y_cnd (pc' := 286) rfl rfl (zc_neF hc5) rfl ?_
        refine y_pure (pc' := 287) (st' := [.ref x0]) rfl rfl ?_
        refine y_pure (pc' := 289) (st' := [.int x11, .ref x0]) rfl rfl ?_
        refine y_pure (pc' := 291) (st' := [.int x9, .int x11, .ref x0]) rfl rfl ?_
        obtain ⟨M7, he6, h⟩ := zC0_inv h
        refine y_callV (pc' := 294) (y := zmR_allow) (a' := [.int x11, .int x9]) (st' := []) rfl rfl rfl rfl rfl (zrecv_o (o := 3) hk0 rfl) rfl he6 rfl rfl ?_
        refine y_pure (pc' := 297) (ls' := [(0, .ref x0), (2, .int x2), (3, .int x3), (5, .int x5), (6, .int x6), (7, .int x7), (8, .int x8), (9, .int x9), (10, .int x10), (11, .int (x11 + (nI 1)))]) (st' := []) rfl rfl ?_
        refine y_pure (pc' := 261) rfl rfl ?_
        refine zEx_sub ?_ h
        exact ⟨rfl, rfl, rfl, rfl, rfl, rfl, rfl, rfl, rfl, rfl, trivial⟩
      · refine y_cnd (pc' := 294) rfl rfl (zc_neT hc5) rfl ?_
        refine y_pure (pc' := 297) (ls' := [(0, .ref x0), (2, .int x2), (3, .int x3), (5, .int x5), (6, .int x6), (7, .int x7), (8, .int x8), (9, .int x9), (10, .int x10), (11, .int (x11 + (nI 1)))]) (st' := []) rfl rfl ?_
        refine y_pure (pc' := 261) rfl rfl ?_
        refine zEx_sub ?_ h
        exact ⟨rfl, rfl, rfl, rfl, rfl, rfl, rfl, rfl, rfl, rfl, trivial⟩
    · refine y_cnd (pc' := 294) rfl rfl (zc_leT hc2) rfl ?_
      refine y_pure (pc' := 297) (ls' := [(0, .ref x0), (2, .int x2), (3, .int x3), (5, .int x5), (6, .int x6), (7, .int x7), (8, .int x8), (9, .int x9), (10, .int x10), (11, .int (x11 + (nI 1)))]) (st' := []) rfl rfl ?_
      refine y_pure (pc' := 261) rfl rfl ?_
      refine zEx_sub ?_ h
      exact ⟨rfl, rfl, rfl, rfl, rfl, rfl, rfl, rfl, rfl, rfl, trivial⟩
theorem e_R_fitProduct {d : Nat} {x0 : Nat} {M : ZM} {r : ZR} (hk0 : zkd x0 = (13, 0)) (h : (if (M.1 x0 2) < (nI 1) then some (none, M) else (if (nI 117649) < (M.1 x0 2) then some (none, M) else zC1 (zEv d zmR_timesIn [.int (M.1 x0 2), .int (nI 2)] M) (fun v5 M4 => zC1 (zEv d zmR_timesIn [.int (M4.1 x0 2), .int (nI 3)] M4) (fun v8 M7 => zC1 (zEv d zmR_timesIn [.int (M7.1 x0 2), .int (nI 5)] M7) (fun v11 M10 => zC1 (zEv d zmR_timesIn [.int (M10.1 x0 2), .int (nI 7)] M10) (fun v14 M13 => zL ((((v5 + (nI 1)) * (v8 + (nI 1))) * (v11 + (nI 1))) * (v14 + (nI 1))) (fun y15 => zC1 (zEv d zmR_power [.int (nI 2), .int v5] M13) (fun v19 M18 => zC1 (zEv d zmR_power [.int (nI 3), .int v8] M18) (fun v22 M21 => zC1 (zEv d zmR_power [.int (nI 5), .int v11] M21) (fun v25 M24 => zC1 (zEv d zmR_power [.int (nI 7), .int v14] M24) (fun v28 M27 => (if (((v19 * v22) * v25) * v28) = (M27.1 x0 2) then (if (nI 128) < y15 then some (none, M27) else (if (v5 + (nI 1)) < (nI 1) then some (none, M27) else (if ((v5 + (nI 1)) * (v8 + (nI 1))) < (v5 + (nI 1)) then some (none, M27) else (if (((v5 + (nI 1)) * (v8 + (nI 1))) * (v11 + (nI 1))) < ((v5 + (nI 1)) * (v8 + (nI 1))) then some (none, M27) else zL (zpi (zpi (zpi (zpi (zpi M27 (x0 + 5) 2 (nI 1)) (x0 + 5) 3 (v5 + (nI 1))) (x0 + 5) 4 (nI 2)) (x0 + 5) 5 ((v5 + (nI 1)) * (v8 + (nI 1)))) (x0 + 5) 6 ((nI 1) + (v5 + (nI 1)))) (fun M34 => h_R_fitProduct_201 d x0 v8 v11 (v5 + (nI 1)) ((v5 + (nI 1)) * (v8 + (nI 1))) (((v5 + (nI 1)) * (v8 + (nI 1))) * (v11 + (nI 1))) y15 (nI 0) (zpi M34 (x0 + 5) 7 (((v5 + (nI 1)) * (v8 + (nI 1))) * (v11 + (nI 1))))))))) else some (none, M27))))))))))))) = some r) : zEv (d + 1) zmR_fitProduct [.ref x0] M = some r := by
  rw [zEv_succ]
  show zEx0 (zEv d) zmR_fitProduct (0, [(0, .ref x0)], [], M) = some r
  refine y_pure (pc' := 1) (st' := [.ref x0]) rfl rfl ?_
  refine y_getf (pc' := 4) (v := .int (M.1 x0 2)) rfl rfl rfl hk0 rfl rfl ?_
  refine y_pure (pc' := 5) (st' := [.int (nI 1), .int (M.1 x0 2)]) rfl rfl ?_
  rcases zif_inv h with ⟨hc1, h⟩ | ⟨hc1, h⟩
  · refine y_cmp (pc' := 17) rfl rfl (zc_ltT hc1) rfl ?_
    exact y_ret rfl rfl rfl rfl h
  · refine y_cmp (pc' := 8) rfl rfl (zc_ltF hc1) rfl ?_
    refine y_pure (pc' := 9) (st' := [.ref x0]) rfl rfl ?_
    refine y_getf (pc' := 12) (v := .int (M.1 x0 2)) rfl rfl rfl hk0 rfl rfl ?_
    refine y_pure (pc' := 14) (st' := [.int (nI 117649), .int (M.1 x0 2)]) rfl rfl ?_
    rcases zif_inv h with ⟨hc2, h⟩ | ⟨hc2, h⟩
    · refine y_cmp (pc' := 17) rfl rfl (zc_leF hc2) rfl ?_
      exact y_ret rfl rfl rfl rfl h
    · refine y_cmp (pc' := 18) rfl rfl (zc_leT hc2) rfl ?_
      refine y_pure (pc' := 19) (st' := [.ref x0]) rfl rfl ?_
      refine y_getf (pc' := 22) (v := .int (M.1 x0 2)) rfl rfl rfl hk0 rfl rfl ?_
      refine y_pure (pc' := 23) (st' := [.int (nI 2), .int (M.1 x0 2)]) rfl rfl ?_
      obtain ⟨v5, M4, he3, h⟩ := zC1_inv h
      refine y_callS (pc' := 26) (y := zmR_timesIn) (a := [.int (M.1 x0 2), .int (nI 2)]) (st' := []) rfl rfl rfl rfl rfl rfl he3 rfl rfl ?_
      refine y_pure (pc' := 27) (ls' := [(0, .ref x0), (1, .int v5)]) (st' := []) rfl rfl ?_
      refine y_pure (pc' := 28) (st' := [.ref x0]) rfl rfl ?_
      refine y_getf (pc' := 31) (v := .int (M4.1 x0 2)) rfl rfl rfl hk0 rfl rfl ?_
      refine y_pure (pc' := 32) (st' := [.int (nI 3), .int (M4.1 x0 2)]) rfl rfl ?_
      obtain ⟨v8, M7, he6, h⟩ := zC1_inv h
      refine y_callS (pc' := 35) (y := zmR_timesIn) (a := [.int (M4.1 x0 2), .int (nI 3)]) (st' := []) rfl rfl rfl rfl rfl rfl he6 rfl rfl ?_
      refine y_pure (pc' := 36) (ls' := [(0, .ref x0), (1, .int v5), (2, .int v8)]) (st' := []) rfl rfl ?_
      refine y_pure (pc' := 37) (st' := [.ref x0]) rfl rfl ?_
      refine y_getf (pc' := 40) (v := .int (M7.1 x0 2)) rfl rfl rfl hk0 rfl rfl ?_
      refine y_pure (pc' := 41) (st' := [.int (nI 5), .int (M7.1 x0 2)]) rfl rfl ?_
      obtain ⟨v11, M10, he9, h⟩ := zC1_inv h
      refine y_callS (pc' := 44) (y := zmR_timesIn) (a := [.int (M7.1 x0 2), .int (nI 5)]) (st' := []) rfl rfl rfl rfl rfl rfl he9 rfl rfl ?_
      refine y_pure (pc' := 45) (ls' := [(0, .ref x0), (1, .int v5), (2, .int v8), (3, .int v11)]) (st' := []) rfl rfl ?_
      refine y_pure (pc' := 46) (st' := [.ref x0]) rfl rfl ?_
      refine y_getf (pc' := 49) (v := .int (M10.1 x0 2)) rfl rfl rfl hk0 rfl rfl ?_
      refine y_pure (pc' := 51) (st' := [.int (nI 7), .int (M10.1 x0 2)]) rfl rfl ?_
      obtain ⟨v14, M13, he12, h⟩ := zC1_inv h
      refine y_callS (pc' := 54) (y := zmR_timesIn) (a := [.int (M10.1 x0 2), .int (nI 7)]) (st' := []) rfl rfl rfl rfl rfl rfl he12 rfl rfl ?_
      refine y_pure (pc' := 56) (ls' := [(0, .ref x0), (1, .int v5), (2, .int v8), (3, .int v11), (4, .int v14)]) (st' := []) rfl rfl ?_
      refine y_pure (pc' := 57) (st' := [.int v5]) rfl rfl ?_
      refine y_pure (pc' := 58) (st' := [.int (nI 1), .int v5]) rfl rfl ?_
      refine y_pure (pc' := 59) (st' := [.int (v5 + (nI 1))]) rfl rfl ?_
      refine y_pure (pc' := 61) (ls' := [(0, .ref x0), (1, .int v5), (2, .int v8), (3, .int v11), (4, .int v14), (5, .int (v5 + (nI 1)))]) (st' := []) rfl rfl ?_
      refine y_pure (pc' := 63) (st' := [.int (v5 + (nI 1))]) rfl rfl ?_
      refine y_pure (pc' := 64) (st' := [.int v8, .int (v5 + (nI 1))]) rfl rfl ?_
      refine y_pure (pc' := 65) (st' := [.int (nI 1), .int v8, .int (v5 + (nI 1))]) rfl rfl ?_
      refine y_pure (pc' := 66) (st' := [.int (v8 + (nI 1)), .int (v5 + (nI 1))]) rfl rfl ?_
      refine y_pure (pc' := 67) (st' := [.int ((v5 + (nI 1)) * (v8 + (nI 1)))]) rfl rfl ?_
      refine y_pure (pc' := 69) (ls' := [(0, .ref x0), (1, .int v5), (2, .int v8), (3, .int v11), (4, .int v14), (5, .int (v5 + (nI 1))), (6, .int ((v5 + (nI 1)) * (v8 + (nI 1))))]) (st' := []) rfl rfl ?_
      refine y_pure (pc' := 71) (st' := [.int ((v5 + (nI 1)) * (v8 + (nI 1)))]) rfl rfl ?_
      refine y_pure (pc' := 72) (st' := [.int v11, .int ((v5 + (nI 1)) * (v8 + (nI 1)))]) rfl rfl ?_
      refine y_pure (pc' := 73) (st' := [.int (nI 1), .int v11, .int ((v5 + (nI 1)) * (v8 + (nI 1)))]) rfl rfl ?_
      refine y_pure (pc' := 74) (st' := [.int (v11 + (nI 1)), .int ((v5 + (nI 1)) * (v8 + (nI 1)))]) rfl rfl ?_
      refine y_pure (pc' := 75) (st' := [.int (((v5 + (nI 1)) * (v8 + (nI 1))) * (v11 + (nI 1)))]) rfl rfl ?_
      refine y_pure (pc' := 77) (ls' := [(0, .ref x0), (1, .int v5), (2, .int v8), (3, .int v11), (4, .int v14), (5, .int (v5 + (nI 1))), (6, .int ((v5 + (nI 1)) * (v8 + (nI 1)))), (7, .int (((v5 + (nI 1)) * (v8 + (nI 1))) * (v11 + (nI 1))))]) (st' := []) rfl rfl ?_
      refine y_pure (pc' := 79) (st' := [.int (((v5 + (nI 1)) * (v8 + (nI 1))) * (v11 + (nI 1)))]) rfl rfl ?_
      refine y_pure (pc' := 81) (st' := [.int v14, .int (((v5 + (nI 1)) * (v8 + (nI 1))) * (v11 + (nI 1)))]) rfl rfl ?_
      refine y_pure (pc' := 82) (st' := [.int (nI 1), .int v14, .int (((v5 + (nI 1)) * (v8 + (nI 1))) * (v11 + (nI 1)))]) rfl rfl ?_
      refine y_pure (pc' := 83) (st' := [.int (v14 + (nI 1)), .int (((v5 + (nI 1)) * (v8 + (nI 1))) * (v11 + (nI 1)))]) rfl rfl ?_
      refine y_pure (pc' := 84) (st' := [.int ((((v5 + (nI 1)) * (v8 + (nI 1))) * (v11 + (nI 1))) * (v14 + (nI 1)))]) rfl rfl ?_
      obtain ⟨y15, e16, h⟩ := zL_inv h
      refine zT_gen e16 ?_
      refine y_pure (pc' := 86) (ls' := [(0, .ref x0), (1, .int v5), (2, .int v8), (3, .int v11), (4, .int v14), (5, .int (v5 + (nI 1))), (6, .int ((v5 + (nI 1)) * (v8 + (nI 1)))), (7, .int (((v5 + (nI 1)) * (v8 + (nI 1))) * (v11 + (nI 1)))), (8, .int y15)]) (st' := []) rfl rfl ?_
      refine y_pure (pc' := 87) (st' := [.int (nI 2)]) rfl rfl ?_
      refine y_pure (pc' := 88) (st' := [.int v5, .int (nI 2)]) rfl rfl ?_
      obtain ⟨v19, M18, he17, h⟩ := zC1_inv h
      refine y_callS (pc' := 91) (y := zmR_power) (a := [.int (nI 2), .int v5]) (st' := []) rfl rfl rfl rfl rfl rfl he17 rfl rfl ?_
      refine y_pure (pc' := 92) (st' := [.int (nI 3), .int v19]) rfl rfl ?_
      refine y_pure (pc' := 93) (st' := [.int v8, .int (nI 3), .int v19]) rfl rfl ?_
      obtain ⟨v22, M21, he20, h⟩ := zC1_inv h
      refine y_callS (pc' := 96) (y := zmR_power) (a := [.int (nI 3), .int v8]) (st' := [.int v19]) rfl rfl rfl rfl rfl rfl he20 rfl rfl ?_
      refine y_pure (pc' := 97) (st' := [.int (v19 * v22)]) rfl rfl ?_
      refine y_pure (pc' := 98) (st' := [.int (nI 5), .int (v19 * v22)]) rfl rfl ?_
      refine y_pure (pc' := 99) (st' := [.int v11, .int (nI 5), .int (v19 * v22)]) rfl rfl ?_
      obtain ⟨v25, M24, he23, h⟩ := zC1_inv h
      refine y_callS (pc' := 102) (y := zmR_power) (a := [.int (nI 5), .int v11]) (st' := [.int (v19 * v22)]) rfl rfl rfl rfl rfl rfl he23 rfl rfl ?_
      refine y_pure (pc' := 103) (st' := [.int ((v19 * v22) * v25)]) rfl rfl ?_
      refine y_pure (pc' := 105) (st' := [.int (nI 7), .int ((v19 * v22) * v25)]) rfl rfl ?_
      refine y_pure (pc' := 107) (st' := [.int v14, .int (nI 7), .int ((v19 * v22) * v25)]) rfl rfl ?_
      obtain ⟨v28, M27, he26, h⟩ := zC1_inv h
      refine y_callS (pc' := 110) (y := zmR_power) (a := [.int (nI 7), .int v14]) (st' := [.int ((v19 * v22) * v25)]) rfl rfl rfl rfl rfl rfl he26 rfl rfl ?_
      refine y_pure (pc' := 111) (st' := [.int (((v19 * v22) * v25) * v28)]) rfl rfl ?_
      refine y_pure (pc' := 112) (st' := [.ref x0, .int (((v19 * v22) * v25) * v28)]) rfl rfl ?_
      refine y_getf (pc' := 115) (v := .int (M27.1 x0 2)) rfl rfl rfl hk0 rfl rfl ?_
      rcases zif_inv h with ⟨hc29, h⟩ | ⟨hc29, h⟩
      · refine y_cmp (pc' := 118) rfl rfl (zc_neF hc29) rfl ?_
        refine y_pure (pc' := 120) (st' := [.int y15]) rfl rfl ?_
        refine y_pure (pc' := 123) (st' := [.int (nI 128), .int y15]) rfl rfl ?_
        rcases zif_inv h with ⟨hc30, h⟩ | ⟨hc30, h⟩
        · refine y_cmp (pc' := 126) rfl rfl (zc_leF hc30) rfl ?_
          exact y_ret rfl rfl rfl rfl h
        · refine y_cmp (pc' := 127) rfl rfl (zc_leT hc30) rfl ?_
          refine y_pure (pc' := 129) (st' := [.int (v5 + (nI 1))]) rfl rfl ?_
          refine y_pure (pc' := 130) (st' := [.int (nI 1), .int (v5 + (nI 1))]) rfl rfl ?_
          rcases zif_inv h with ⟨hc31, h⟩ | ⟨hc31, h⟩
          · refine y_cmp (pc' := 147) rfl rfl (zc_ltT hc31) rfl ?_
            exact y_ret rfl rfl rfl rfl h
          · refine y_cmp (pc' := 133) rfl rfl (zc_ltF hc31) rfl ?_
            refine y_pure (pc' := 135) (st' := [.int ((v5 + (nI 1)) * (v8 + (nI 1)))]) rfl rfl ?_
            refine y_pure (pc' := 137) (st' := [.int (v5 + (nI 1)), .int ((v5 + (nI 1)) * (v8 + (nI 1)))]) rfl rfl ?_
            rcases zif_inv h with ⟨hc32, h⟩ | ⟨hc32, h⟩
            · refine y_cmp (pc' := 147) rfl rfl (zc_ltT hc32) rfl ?_
              exact y_ret rfl rfl rfl rfl h
            · refine y_cmp (pc' := 140) rfl rfl (zc_ltF hc32) rfl ?_
              refine y_pure (pc' := 142) (st' := [.int (((v5 + (nI 1)) * (v8 + (nI 1))) * (v11 + (nI 1)))]) rfl rfl ?_
              refine y_pure (pc' := 144) (st' := [.int ((v5 + (nI 1)) * (v8 + (nI 1))), .int (((v5 + (nI 1)) * (v8 + (nI 1))) * (v11 + (nI 1)))]) rfl rfl ?_
              rcases zif_inv h with ⟨hc33, h⟩ | ⟨hc33, h⟩
              · refine y_cmp (pc' := 147) rfl rfl (zc_geF hc33) rfl ?_
                exact y_ret rfl rfl rfl rfl h
              · refine y_cmp (pc' := 148) rfl rfl (zc_geT hc33) rfl ?_
                refine y_pure (pc' := 149) (st' := [.ref x0]) rfl rfl ?_
                refine y_getf (pc' := 152) (v := .ref (x0 + 5)) rfl rfl rfl hk0 rfl rfl ?_
                refine y_pure (pc' := 153) (st' := [.int (nI 2), .ref (x0 + 5)]) rfl rfl ?_
                refine y_pure (pc' := 154) (st' := [.int (nI 1), .int (nI 2), .ref (x0 + 5)]) rfl rfl ?_
                refine y_iast (pc' := 155) rfl (zf_3_8 hk0) (by decide) rfl ?_
                refine y_pure (pc' := 156) (st' := [.ref x0]) rfl rfl ?_
                refine y_getf (pc' := 159) (v := .ref (x0 + 5)) rfl rfl rfl hk0 rfl rfl ?_
                refine y_pure (pc' := 160) (st' := [.int (nI 3), .ref (x0 + 5)]) rfl rfl ?_
                refine y_pure (pc' := 162) (st' := [.int (v5 + (nI 1)), .int (nI 3), .ref (x0 + 5)]) rfl rfl ?_
                refine y_iast (pc' := 163) rfl (zf_3_8 hk0) (by decide) rfl ?_
                refine y_pure (pc' := 164) (st' := [.ref x0]) rfl rfl ?_
                refine y_getf (pc' := 167) (v := .ref (x0 + 5)) rfl rfl rfl hk0 rfl rfl ?_
                refine y_pure (pc' := 168) (st' := [.int (nI 4), .ref (x0 + 5)]) rfl rfl ?_
                refine y_pure (pc' := 169) (st' := [.int (nI 2), .int (nI 4), .ref (x0 + 5)]) rfl rfl ?_
                refine y_iast (pc' := 170) rfl (zf_3_8 hk0) (by decide) rfl ?_
                refine y_pure (pc' := 171) (st' := [.ref x0]) rfl rfl ?_
                refine y_getf (pc' := 174) (v := .ref (x0 + 5)) rfl rfl rfl hk0 rfl rfl ?_
                refine y_pure (pc' := 175) (st' := [.int (nI 5), .ref (x0 + 5)]) rfl rfl ?_
                refine y_pure (pc' := 177) (st' := [.int ((v5 + (nI 1)) * (v8 + (nI 1))), .int (nI 5), .ref (x0 + 5)]) rfl rfl ?_
                refine y_iast (pc' := 178) rfl (zf_3_8 hk0) (by decide) rfl ?_
                refine y_pure (pc' := 179) (st' := [.ref x0]) rfl rfl ?_
                refine y_getf (pc' := 182) (v := .ref (x0 + 5)) rfl rfl rfl hk0 rfl rfl ?_
                refine y_pure (pc' := 184) (st' := [.int (nI 6), .ref (x0 + 5)]) rfl rfl ?_
                refine y_pure (pc' := 185) (st' := [.int (nI 1), .int (nI 6), .ref (x0 + 5)]) rfl rfl ?_
                refine y_pure (pc' := 187) (st' := [.int (v5 + (nI 1)), .int (nI 1), .int (nI 6), .ref (x0 + 5)]) rfl rfl ?_
                refine y_pure (pc' := 188) (st' := [.int ((nI 1) + (v5 + (nI 1))), .int (nI 6), .ref (x0 + 5)]) rfl rfl ?_
                refine y_iast (pc' := 189) rfl (zf_3_8 hk0) (by decide) rfl ?_
                obtain ⟨M34, e35, h⟩ := zL_inv h
                refine zM_gen e35 ?_
                refine y_pure (pc' := 190) (st' := [.ref x0]) rfl rfl ?_
                refine y_getf (pc' := 193) (v := .ref (x0 + 5)) rfl rfl rfl hk0 rfl rfl ?_
                refine y_pure (pc' := 195) (st' := [.int (nI 7), .ref (x0 + 5)]) rfl rfl ?_
                refine y_pure (pc' := 197) (st' := [.int (((v5 + (nI 1)) * (v8 + (nI 1))) * (v11 + (nI 1))), .int (nI 7), .ref (x0 + 5)]) rfl rfl ?_
                refine y_iast (pc' := 198) rfl (zf_3_8 hk0) (by decide) rfl ?_
                refine y_pure (pc' := 199) (st' := [.int (nI 0)]) rfl rfl ?_
                refine y_pure (pc' := 201) (ls' := [(0, .ref x0), (1, .int v5), (2, .int v8), (3, .int v11), (4, .int v14), (5, .int (v5 + (nI 1))), (6, .int ((v5 + (nI 1)) * (v8 + (nI 1)))), (7, .int (((v5 + (nI 1)) * (v8 + (nI 1))) * (v11 + (nI 1)))), (8, .int y15), (9, .int (nI 0))]) (st' := []) rfl rfl ?_
                refine zEx_sub ?_ h
                exact ⟨rfl, rfl, rfl, rfl, rfl, rfl, rfl, rfl, trivial⟩
      · refine y_cmp (pc' := 126) rfl rfl (zc_neT hc29) rfl ?_
        exact y_ret rfl rfl rfl rfl h
noncomputable def h_R_timesIn_4 (d : Nat) (x1 : Int32) (x2 : Int32) (x3 : Int32) (M : ZM) : Option ZR := zEx0 (zEv d) zmR_timesIn (4, [(1, .int x1), (2, .int x2), (3, .int x3)], [], M)
theorem e_R_timesIn_4 {d : Nat} {x1 : Int32} {x2 : Int32} {x3 : Int32} {M : ZM} {r : ZR}  (h : (if x2 < (nI 17) then (if (nI 1) < x1 then (if (nI 0) < x3 then (if x1 = nI 0 then none else (if (x3 - x3 / x1 * x1) = (nI 0) then (if x1 = nI 0 then none else h_R_timesIn_4 d x1 (x2 + (nI 1)) (x3 / x1) M) else some (some (.int x2), M))) else some (some (.int x2), M)) else some (some (.int x2), M)) else some (some (.int x2), M)) = some r) : h_R_timesIn_4 d x1 x2 x3 M = some r := by
  show zEx0 (zEv d) zmR_timesIn (4, [(1, .int x1), (2, .int x2), (3, .int x3)], [], M) = some r
  refine y_pure (pc' := 5) (st' := [.int x2]) rfl rfl ?_
  refine y_pure (pc' := 7) (st' := [.int (nI 17), .int x2]) rfl rfl ?_
  rcases zif_inv h with ⟨hc1, h⟩ | ⟨hc1, h⟩
  · refine y_cmp (pc' := 10) rfl rfl (zc_geF hc1) rfl ?_
    refine y_pure (pc' := 11) (st' := [.int x1]) rfl rfl ?_
    refine y_pure (pc' := 12) (st' := [.int (nI 1), .int x1]) rfl rfl ?_
    rcases zif_inv h with ⟨hc2, h⟩ | ⟨hc2, h⟩
    · refine y_cmp (pc' := 15) rfl rfl (zc_leF hc2) rfl ?_
      refine y_pure (pc' := 16) (st' := [.int x3]) rfl rfl ?_
      rcases zif_inv h with ⟨hc3, h⟩ | ⟨hc3, h⟩
      · refine y_cnd (pc' := 19) rfl rfl (zc_leF hc3) rfl ?_
        refine y_pure (pc' := 20) (st' := [.int x3]) rfl rfl ?_
        refine y_pure (pc' := 21) (st' := [.int x1, .int x3]) rfl rfl ?_
        obtain ⟨hb4, h⟩ := zd_inv h
        refine y_irem (pc' := 22) (st := []) rfl hb4 rfl ?_
        rcases zif_inv h with ⟨hc5, h⟩ | ⟨hc5, h⟩
        · refine y_cnd (pc' := 25) rfl rfl (zc_neF hc5) rfl ?_
          refine y_pure (pc' := 26) (st' := [.int x3]) rfl rfl ?_
          refine y_pure (pc' := 27) (st' := [.int x1, .int x3]) rfl rfl ?_
          obtain ⟨hb6, h⟩ := zd_inv h
          refine y_idiv (pc' := 28) (st := []) rfl hb6 rfl ?_
          refine y_pure (pc' := 29) (ls' := [(1, .int x1), (2, .int x2), (3, .int (x3 / x1))]) (st' := []) rfl rfl ?_
          refine y_pure (pc' := 32) (ls' := [(1, .int x1), (2, .int (x2 + (nI 1))), (3, .int (x3 / x1))]) (st' := []) rfl rfl ?_
          refine y_pure (pc' := 4) rfl rfl ?_
          refine zEx_sub ?_ h
          exact ⟨rfl, rfl, rfl, trivial⟩
        · refine y_cnd (pc' := 35) rfl rfl (zc_neT hc5) rfl ?_
          refine y_pure (pc' := 36) (st' := [.int x2]) rfl rfl ?_
          exact y_ret rfl rfl rfl rfl h
      · refine y_cnd (pc' := 35) rfl rfl (zc_leT hc3) rfl ?_
        refine y_pure (pc' := 36) (st' := [.int x2]) rfl rfl ?_
        exact y_ret rfl rfl rfl rfl h
    · refine y_cmp (pc' := 35) rfl rfl (zc_leT hc2) rfl ?_
      refine y_pure (pc' := 36) (st' := [.int x2]) rfl rfl ?_
      exact y_ret rfl rfl rfl rfl h
  · refine y_cmp (pc' := 35) rfl rfl (zc_geT hc1) rfl ?_
    refine y_pure (pc' := 36) (st' := [.int x2]) rfl rfl ?_
    exact y_ret rfl rfl rfl rfl h
theorem e_R_timesIn {d : Nat} {x0 : Int32} {x1 : Int32} {M : ZM} {r : ZR}  (h : h_R_timesIn_4 d x1 (nI 0) x0 M = some r) : zEv (d + 1) zmR_timesIn [.int x0, .int x1] M = some r := by
  rw [zEv_succ]
  show zEx0 (zEv d) zmR_timesIn (0, [(0, .int x0), (1, .int x1)], [], M) = some r
  refine y_pure (pc' := 1) (st' := [.int (nI 0)]) rfl rfl ?_
  refine y_pure (pc' := 2) (ls' := [(0, .int x0), (1, .int x1), (2, .int (nI 0))]) (st' := []) rfl rfl ?_
  refine y_pure (pc' := 3) (st' := [.int x0]) rfl rfl ?_
  refine y_pure (pc' := 4) (ls' := [(0, .int x0), (1, .int x1), (2, .int (nI 0)), (3, .int x0)]) (st' := []) rfl rfl ?_
  refine zEx_sub ?_ h
  exact ⟨rfl, rfl, rfl, trivial⟩
noncomputable def h_R_power_4 (d : Nat) (x0 : Int32) (x1 : Int32) (x2 : Int32) (x3 : Int32) (M : ZM) : Option ZR := zEx0 (zEv d) zmR_power (4, [(0, .int x0), (1, .int x1), (2, .int x2), (3, .int x3)], [], M)
theorem e_R_power_4 {d : Nat} {x0 : Int32} {x1 : Int32} {x2 : Int32} {x3 : Int32} {M : ZM} {r : ZR}  (h : (if x3 < x1 then h_R_power_4 d x0 x1 (x2 * x0) (x3 + (nI 1)) M else some (some (.int x2), M)) = some r) : h_R_power_4 d x0 x1 x2 x3 M = some r := by
  show zEx0 (zEv d) zmR_power (4, [(0, .int x0), (1, .int x1), (2, .int x2), (3, .int x3)], [], M) = some r
  refine y_pure (pc' := 5) (st' := [.int x3]) rfl rfl ?_
  refine y_pure (pc' := 6) (st' := [.int x1, .int x3]) rfl rfl ?_
  rcases zif_inv h with ⟨hc1, h⟩ | ⟨hc1, h⟩
  · refine y_cmp (pc' := 9) rfl rfl (zc_geF hc1) rfl ?_
    refine y_pure (pc' := 10) (st' := [.int x2]) rfl rfl ?_
    refine y_pure (pc' := 11) (st' := [.int x0, .int x2]) rfl rfl ?_
    refine y_pure (pc' := 12) (st' := [.int (x2 * x0)]) rfl rfl ?_
    refine y_pure (pc' := 13) (ls' := [(0, .int x0), (1, .int x1), (2, .int (x2 * x0)), (3, .int x3)]) (st' := []) rfl rfl ?_
    refine y_pure (pc' := 16) (ls' := [(0, .int x0), (1, .int x1), (2, .int (x2 * x0)), (3, .int (x3 + (nI 1)))]) (st' := []) rfl rfl ?_
    refine y_pure (pc' := 4) rfl rfl ?_
    refine zEx_sub ?_ h
    exact ⟨rfl, rfl, rfl, rfl, trivial⟩
  · refine y_cmp (pc' := 19) rfl rfl (zc_geT hc1) rfl ?_
    refine y_pure (pc' := 20) (st' := [.int x2]) rfl rfl ?_
    exact y_ret rfl rfl rfl rfl h
theorem e_R_power {d : Nat} {x0 : Int32} {x1 : Int32} {M : ZM} {r : ZR}  (h : h_R_power_4 d x0 x1 (nI 1) (nI 0) M = some r) : zEv (d + 1) zmR_power [.int x0, .int x1] M = some r := by
  rw [zEv_succ]
  show zEx0 (zEv d) zmR_power (0, [(0, .int x0), (1, .int x1)], [], M) = some r
  refine y_pure (pc' := 1) (st' := [.int (nI 1)]) rfl rfl ?_
  refine y_pure (pc' := 2) (ls' := [(0, .int x0), (1, .int x1), (2, .int (nI 1))]) (st' := []) rfl rfl ?_
  refine y_pure (pc' := 3) (st' := [.int (nI 0)]) rfl rfl ?_
  refine y_pure (pc' := 4) (ls' := [(0, .int x0), (1, .int x1), (2, .int (nI 1)), (3, .int (nI 0))]) (st' := []) rfl rfl ?_
  refine zEx_sub ?_ h
  exact ⟨rfl, rfl, rfl, rfl, trivial⟩
theorem e_R_allow {d : Nat} {x0 : Nat} {x1 : Int32} {x2 : Int32} {M : ZM} {r : ZR} (hk0 : zkd x0 = (13, 0)) (h : (if x2 < (nI 64) then (if zin x1 8 = true then some (none, (zpl M (x0 + 3) (Int32.toNatClampNeg x1) ((M.2 (x0 + 3) (Int32.toNatClampNeg x1)) ||| ((nJ 1) <<< (Int32.toInt64 x2 &&& 63))))) else none) else (if zin x1 8 = true then some (none, (zpl M (x0 + 4) (Int32.toNatClampNeg x1) ((M.2 (x0 + 4) (Int32.toNatClampNeg x1)) ||| ((nJ 1) <<< (Int32.toInt64 (x2 - (nI 64)) &&& 63))))) else none)) = some r) : zEv (d + 1) zmR_allow [.ref x0, .int x1, .int x2] M = some r := by
  rw [zEv_succ]
  show zEx0 (zEv d) zmR_allow (0, [(0, .ref x0), (1, .int x1), (2, .int x2)], [], M) = some r
  refine y_pure (pc' := 1) (st' := [.int x2]) rfl rfl ?_
  refine y_pure (pc' := 3) (st' := [.int (nI 64), .int x2]) rfl rfl ?_
  rcases zif_inv h with ⟨hc1, h⟩ | ⟨hc1, h⟩
  · refine y_cmp (pc' := 6) rfl rfl (zc_geF hc1) rfl ?_
    refine y_pure (pc' := 7) (st' := [.ref x0]) rfl rfl ?_
    refine y_getf (pc' := 10) (v := .ref (x0 + 3)) rfl rfl rfl hk0 rfl rfl ?_
    refine y_pure (pc' := 11) (st' := [.int x1, .ref (x0 + 3)]) rfl rfl ?_
    refine y_pure (pc' := 12) (st' := [.int x1, .ref (x0 + 3), .int x1, .ref (x0 + 3)]) rfl rfl ?_
    obtain ⟨hi2, h⟩ := zg_inv h
    refine y_lald (pc' := 13) rfl (zf_3_6 hk0) hi2 rfl ?_
    refine y_pure (pc' := 14) (st' := [.long (nJ 1), .long (M.2 (x0 + 3) (Int32.toNatClampNeg x1)), .int x1, .ref (x0 + 3)]) rfl rfl ?_
    refine y_pure (pc' := 15) (st' := [.int x2, .long (nJ 1), .long (M.2 (x0 + 3) (Int32.toNatClampNeg x1)), .int x1, .ref (x0 + 3)]) rfl rfl ?_
    refine y_pure (pc' := 16) (st' := [.long ((nJ 1) <<< (Int32.toInt64 x2 &&& 63)), .long (M.2 (x0 + 3) (Int32.toNatClampNeg x1)), .int x1, .ref (x0 + 3)]) rfl rfl ?_
    refine y_pure (pc' := 17) (st' := [.long ((M.2 (x0 + 3) (Int32.toNatClampNeg x1)) ||| ((nJ 1) <<< (Int32.toInt64 x2 &&& 63))), .int x1, .ref (x0 + 3)]) rfl rfl ?_
    refine y_last (pc' := 18) rfl (zf_3_6 hk0) hi2 rfl ?_
    refine y_pure (pc' := 36) rfl rfl ?_
    exact y_ret rfl rfl rfl rfl h
  · refine y_cmp (pc' := 21) rfl rfl (zc_geT hc1) rfl ?_
    refine y_pure (pc' := 22) (st' := [.ref x0]) rfl rfl ?_
    refine y_getf (pc' := 25) (v := .ref (x0 + 4)) rfl rfl rfl hk0 rfl rfl ?_
    refine y_pure (pc' := 26) (st' := [.int x1, .ref (x0 + 4)]) rfl rfl ?_
    refine y_pure (pc' := 27) (st' := [.int x1, .ref (x0 + 4), .int x1, .ref (x0 + 4)]) rfl rfl ?_
    obtain ⟨hi3, h⟩ := zg_inv h
    refine y_lald (pc' := 28) rfl (zf_3_7 hk0) hi3 rfl ?_
    refine y_pure (pc' := 29) (st' := [.long (nJ 1), .long (M.2 (x0 + 4) (Int32.toNatClampNeg x1)), .int x1, .ref (x0 + 4)]) rfl rfl ?_
    refine y_pure (pc' := 30) (st' := [.int x2, .long (nJ 1), .long (M.2 (x0 + 4) (Int32.toNatClampNeg x1)), .int x1, .ref (x0 + 4)]) rfl rfl ?_
    refine y_pure (pc' := 32) (st' := [.int (nI 64), .int x2, .long (nJ 1), .long (M.2 (x0 + 4) (Int32.toNatClampNeg x1)), .int x1, .ref (x0 + 4)]) rfl rfl ?_
    refine y_pure (pc' := 33) (st' := [.int (x2 - (nI 64)), .long (nJ 1), .long (M.2 (x0 + 4) (Int32.toNatClampNeg x1)), .int x1, .ref (x0 + 4)]) rfl rfl ?_
    refine y_pure (pc' := 34) (st' := [.long ((nJ 1) <<< (Int32.toInt64 (x2 - (nI 64)) &&& 63)), .long (M.2 (x0 + 4) (Int32.toNatClampNeg x1)), .int x1, .ref (x0 + 4)]) rfl rfl ?_
    refine y_pure (pc' := 35) (st' := [.long ((M.2 (x0 + 4) (Int32.toNatClampNeg x1)) ||| ((nJ 1) <<< (Int32.toInt64 (x2 - (nI 64)) &&& 63))), .int x1, .ref (x0 + 4)]) rfl rfl ?_
    refine y_last (pc' := 36) rfl (zf_3_7 hk0) hi3 rfl ?_
    exact y_ret rfl rfl rfl rfl h
theorem e_R_aim {d : Nat} {x0 : Nat} {x1 : Int32} {M : ZM} {r : ZR} (hk0 : zkd x0 = (13, 0)) (h : (if x1 < (nI 64) then some (none, (zpl M x0 9 ((M.2 x0 9) ||| ((nJ 1) <<< (Int32.toInt64 x1 &&& 63))))) else some (none, (zpl M x0 10 ((M.2 x0 10) ||| ((nJ 1) <<< (Int32.toInt64 (x1 - (nI 64)) &&& 63)))))) = some r) : zEv (d + 1) zmR_aim [.ref x0, .int x1] M = some r := by
  rw [zEv_succ]
  show zEx0 (zEv d) zmR_aim (0, [(0, .ref x0), (1, .int x1)], [], M) = some r
  refine y_pure (pc' := 1) (st' := [.int x1]) rfl rfl ?_
  refine y_pure (pc' := 3) (st' := [.int (nI 64), .int x1]) rfl rfl ?_
  rcases zif_inv h with ⟨hc1, h⟩ | ⟨hc1, h⟩
  · refine y_cmp (pc' := 6) rfl rfl (zc_geF hc1) rfl ?_
    refine y_pure (pc' := 7) (st' := [.ref x0]) rfl rfl ?_
    refine y_pure (pc' := 8) (st' := [.ref x0, .ref x0]) rfl rfl ?_
    refine y_getf (pc' := 11) (v := .long (M.2 x0 9)) rfl rfl rfl hk0 rfl rfl ?_
    refine y_pure (pc' := 12) (st' := [.long (nJ 1), .long (M.2 x0 9), .ref x0]) rfl rfl ?_
    refine y_pure (pc' := 13) (st' := [.int x1, .long (nJ 1), .long (M.2 x0 9), .ref x0]) rfl rfl ?_
    refine y_pure (pc' := 14) (st' := [.long ((nJ 1) <<< (Int32.toInt64 x1 &&& 63)), .long (M.2 x0 9), .ref x0]) rfl rfl ?_
    refine y_pure (pc' := 15) (st' := [.long ((M.2 x0 9) ||| ((nJ 1) <<< (Int32.toInt64 x1 &&& 63))), .ref x0]) rfl rfl ?_
    refine y_putL (pc' := 18) rfl rfl hk0 rfl ?_
    refine y_pure (pc' := 36) rfl rfl ?_
    exact y_ret rfl rfl rfl rfl h
  · refine y_cmp (pc' := 21) rfl rfl (zc_geT hc1) rfl ?_
    refine y_pure (pc' := 22) (st' := [.ref x0]) rfl rfl ?_
    refine y_pure (pc' := 23) (st' := [.ref x0, .ref x0]) rfl rfl ?_
    refine y_getf (pc' := 26) (v := .long (M.2 x0 10)) rfl rfl rfl hk0 rfl rfl ?_
    refine y_pure (pc' := 27) (st' := [.long (nJ 1), .long (M.2 x0 10), .ref x0]) rfl rfl ?_
    refine y_pure (pc' := 28) (st' := [.int x1, .long (nJ 1), .long (M.2 x0 10), .ref x0]) rfl rfl ?_
    refine y_pure (pc' := 30) (st' := [.int (nI 64), .int x1, .long (nJ 1), .long (M.2 x0 10), .ref x0]) rfl rfl ?_
    refine y_pure (pc' := 31) (st' := [.int (x1 - (nI 64)), .long (nJ 1), .long (M.2 x0 10), .ref x0]) rfl rfl ?_
    refine y_pure (pc' := 32) (st' := [.long ((nJ 1) <<< (Int32.toInt64 (x1 - (nI 64)) &&& 63)), .long (M.2 x0 10), .ref x0]) rfl rfl ?_
    refine y_pure (pc' := 33) (st' := [.long ((M.2 x0 10) ||| ((nJ 1) <<< (Int32.toInt64 (x1 - (nI 64)) &&& 63))), .ref x0]) rfl rfl ?_
    refine y_putL (pc' := 36) rfl rfl hk0 rfl ?_
    exact y_ret rfl rfl rfl rfl h
theorem e_R_isIn {d : Nat} {x0 : Int64} {x2 : Int64} {x4 : Int32} {M : ZM} {r : ZR}  (h : (if x4 < (nI 64) then (if (lg_cmp (((Int64.toUInt64 x0 >>> ((Int32.toInt64 x4).toUInt64 &&& Int64.toUInt64 63)).toInt64) &&& (nJ 1)) (nJ 1)) = (nI 0) then some (some (.int (nI 1)), M) else some (some (.int (nI 0)), M)) else (if (lg_cmp (((Int64.toUInt64 x2 >>> ((Int32.toInt64 (x4 - (nI 64))).toUInt64 &&& Int64.toUInt64 63)).toInt64) &&& (nJ 1)) (nJ 1)) = (nI 0) then some (some (.int (nI 1)), M) else some (some (.int (nI 0)), M))) = some r) : zEv (d + 1) zmR_isIn [.long x0, .long x2, .int x4] M = some r := by
  rw [zEv_succ]
  show zEx0 (zEv d) zmR_isIn (0, [(0, .long x0), (2, .long x2), (4, .int x4)], [], M) = some r
  refine y_pure (pc' := 2) (st' := [.int x4]) rfl rfl ?_
  refine y_pure (pc' := 4) (st' := [.int (nI 64), .int x4]) rfl rfl ?_
  rcases zif_inv h with ⟨hc1, h⟩ | ⟨hc1, h⟩
  · refine y_cmp (pc' := 7) rfl rfl (zc_geF hc1) rfl ?_
    refine y_pure (pc' := 8) (st' := [.long x0]) rfl rfl ?_
    refine y_pure (pc' := 10) (st' := [.int x4, .long x0]) rfl rfl ?_
    refine y_pure (pc' := 11) (st' := [.long ((Int64.toUInt64 x0 >>> ((Int32.toInt64 x4).toUInt64 &&& Int64.toUInt64 63)).toInt64)]) rfl rfl ?_
    refine y_pure (pc' := 21) rfl rfl ?_
    refine y_pure (pc' := 22) (st' := [.long (nJ 1), .long ((Int64.toUInt64 x0 >>> ((Int32.toInt64 x4).toUInt64 &&& Int64.toUInt64 63)).toInt64)]) rfl rfl ?_
    refine y_pure (pc' := 23) (st' := [.long (((Int64.toUInt64 x0 >>> ((Int32.toInt64 x4).toUInt64 &&& Int64.toUInt64 63)).toInt64) &&& (nJ 1))]) rfl rfl ?_
    refine y_pure (pc' := 24) (st' := [.long (nJ 1), .long (((Int64.toUInt64 x0 >>> ((Int32.toInt64 x4).toUInt64 &&& Int64.toUInt64 63)).toInt64) &&& (nJ 1))]) rfl rfl ?_
    refine y_pure (pc' := 25) (st' := [.int (lg_cmp (((Int64.toUInt64 x0 >>> ((Int32.toInt64 x4).toUInt64 &&& Int64.toUInt64 63)).toInt64) &&& (nJ 1)) (nJ 1))]) rfl rfl ?_
    rcases zif_inv h with ⟨hc2, h⟩ | ⟨hc2, h⟩
    · refine y_cnd (pc' := 28) rfl rfl (zc_neF hc2) rfl ?_
      refine y_pure (pc' := 29) (st' := [.int (nI 1)]) rfl rfl ?_
      refine y_pure (pc' := 33) rfl rfl ?_
      exact y_retZ rfl rfl (by decide) h
    · refine y_cnd (pc' := 32) rfl rfl (zc_neT hc2) rfl ?_
      refine y_pure (pc' := 33) (st' := [.int (nI 0)]) rfl rfl ?_
      exact y_retZ rfl rfl (by decide) h
  · refine y_cmp (pc' := 14) rfl rfl (zc_geT hc1) rfl ?_
    refine y_pure (pc' := 15) (st' := [.long x2]) rfl rfl ?_
    refine y_pure (pc' := 17) (st' := [.int x4, .long x2]) rfl rfl ?_
    refine y_pure (pc' := 19) (st' := [.int (nI 64), .int x4, .long x2]) rfl rfl ?_
    refine y_pure (pc' := 20) (st' := [.int (x4 - (nI 64)), .long x2]) rfl rfl ?_
    refine y_pure (pc' := 21) (st' := [.long ((Int64.toUInt64 x2 >>> ((Int32.toInt64 (x4 - (nI 64))).toUInt64 &&& Int64.toUInt64 63)).toInt64)]) rfl rfl ?_
    refine y_pure (pc' := 22) (st' := [.long (nJ 1), .long ((Int64.toUInt64 x2 >>> ((Int32.toInt64 (x4 - (nI 64))).toUInt64 &&& Int64.toUInt64 63)).toInt64)]) rfl rfl ?_
    refine y_pure (pc' := 23) (st' := [.long (((Int64.toUInt64 x2 >>> ((Int32.toInt64 (x4 - (nI 64))).toUInt64 &&& Int64.toUInt64 63)).toInt64) &&& (nJ 1))]) rfl rfl ?_
    refine y_pure (pc' := 24) (st' := [.long (nJ 1), .long (((Int64.toUInt64 x2 >>> ((Int32.toInt64 (x4 - (nI 64))).toUInt64 &&& Int64.toUInt64 63)).toInt64) &&& (nJ 1))]) rfl rfl ?_
    refine y_pure (pc' := 25) (st' := [.int (lg_cmp (((Int64.toUInt64 x2 >>> ((Int32.toInt64 (x4 - (nI 64))).toUInt64 &&& Int64.toUInt64 63)).toInt64) &&& (nJ 1)) (nJ 1))]) rfl rfl ?_
    rcases zif_inv h with ⟨hc3, h⟩ | ⟨hc3, h⟩
    · refine y_cnd (pc' := 28) rfl rfl (zc_neF hc3) rfl ?_
      refine y_pure (pc' := 29) (st' := [.int (nI 1)]) rfl rfl ?_
      refine y_pure (pc' := 33) rfl rfl ?_
      exact y_retZ rfl rfl (by decide) h
    · refine y_cnd (pc' := 32) rfl rfl (zc_neT hc3) rfl ?_
      refine y_pure (pc' := 33) (st' := [.int (nI 0)]) rfl rfl ?_
      exact y_retZ rfl rfl (by decide) h
theorem e_R_after {d : Nat} {x0 : Nat} {x1 : Int32} {x2 : Int32} {M : ZM} {r : ZR} (hk0 : zkd x0 = (13, 0)) (h : (if x1 < (nI 0) then some (some (.int (-1 : Int32)), M) else (if x1 < (nI 128) then (if x2 < (nI 1) then some (some (.int (-1 : Int32)), M) else (if (nI 7) < x2 then some (some (.int (-1 : Int32)), M) else (if x1 < (nI 64) then (if zin x2 8 = true then (if (lg_cmp ((M.2 (x0 + 1) (Int32.toNatClampNeg x2)) &&& ((nJ 1) <<< (Int32.toInt64 (x1 &&& (nI 63)) &&& 63))) (nJ 0)) = (nI 0) then (if x1 < (nI 64) then (if (lg_cmp ((M.2 (x0 + 3) (Int32.toNatClampNeg x2)) &&& ((nJ 1) <<< (Int32.toInt64 (x1 &&& (nI 63)) &&& 63))) (nJ 0)) = (nI 0) then some (some (.int (-1 : Int32)), M) else some (some (.int (x1 + (M.1 (x0 + 5) (Int32.toNatClampNeg x2)))), M)) else (if (lg_cmp ((M.2 (x0 + 4) (Int32.toNatClampNeg x2)) &&& ((nJ 1) <<< (Int32.toInt64 (x1 &&& (nI 63)) &&& 63))) (nJ 0)) = (nI 0) then some (some (.int (-1 : Int32)), M) else some (some (.int (x1 + (M.1 (x0 + 5) (Int32.toNatClampNeg x2)))), M))) else some (some (.int x1), M)) else none) else (if zin x2 8 = true then (if (lg_cmp ((M.2 (x0 + 2) (Int32.toNatClampNeg x2)) &&& ((nJ 1) <<< (Int32.toInt64 (x1 &&& (nI 63)) &&& 63))) (nJ 0)) = (nI 0) then (if x1 < (nI 64) then (if (lg_cmp ((M.2 (x0 + 3) (Int32.toNatClampNeg x2)) &&& ((nJ 1) <<< (Int32.toInt64 (x1 &&& (nI 63)) &&& 63))) (nJ 0)) = (nI 0) then some (some (.int (-1 : Int32)), M) else some (some (.int (x1 + (M.1 (x0 + 5) (Int32.toNatClampNeg x2)))), M)) else (if (lg_cmp ((M.2 (x0 + 4) (Int32.toNatClampNeg x2)) &&& ((nJ 1) <<< (Int32.toInt64 (x1 &&& (nI 63)) &&& 63))) (nJ 0)) = (nI 0) then some (some (.int (-1 : Int32)), M) else some (some (.int (x1 + (M.1 (x0 + 5) (Int32.toNatClampNeg x2)))), M))) else some (some (.int x1), M)) else none)))) else some (some (.int (-1 : Int32)), M))) = some r) : zEv (d + 1) zmR_after [.ref x0, .int x1, .int x2] M = some r := by
  rw [zEv_succ]
  show zEx0 (zEv d) zmR_after (0, [(0, .ref x0), (1, .int x1), (2, .int x2)], [], M) = some r
  refine y_pure (pc' := 1) (st' := [.int x1]) rfl rfl ?_
  rcases zif_inv h with ⟨hc1, h⟩ | ⟨hc1, h⟩
  · refine y_cnd (pc' := 22) rfl rfl (zc_ltT hc1) rfl ?_
    refine y_pure (pc' := 23) (st' := [.int (-1 : Int32)]) rfl rfl ?_
    exact y_ret rfl rfl rfl rfl h
  · refine y_cnd (pc' := 4) rfl rfl (zc_ltF hc1) rfl ?_
    refine y_pure (pc' := 5) (st' := [.int x1]) rfl rfl ?_
    refine y_pure (pc' := 8) (st' := [.int (nI 128), .int x1]) rfl rfl ?_
    rcases zif_inv h with ⟨hc2, h⟩ | ⟨hc2, h⟩
    · refine y_cmp (pc' := 11) rfl rfl (zc_geF hc2) rfl ?_
      refine y_pure (pc' := 12) (st' := [.int x2]) rfl rfl ?_
      refine y_pure (pc' := 13) (st' := [.int (nI 1), .int x2]) rfl rfl ?_
      rcases zif_inv h with ⟨hc3, h⟩ | ⟨hc3, h⟩
      · refine y_cmp (pc' := 22) rfl rfl (zc_ltT hc3) rfl ?_
        refine y_pure (pc' := 23) (st' := [.int (-1 : Int32)]) rfl rfl ?_
        exact y_ret rfl rfl rfl rfl h
      · refine y_cmp (pc' := 16) rfl rfl (zc_ltF hc3) rfl ?_
        refine y_pure (pc' := 17) (st' := [.int x2]) rfl rfl ?_
        refine y_pure (pc' := 19) (st' := [.int (nI 7), .int x2]) rfl rfl ?_
        rcases zif_inv h with ⟨hc4, h⟩ | ⟨hc4, h⟩
        · refine y_cmp (pc' := 22) rfl rfl (zc_leF hc4) rfl ?_
          refine y_pure (pc' := 23) (st' := [.int (-1 : Int32)]) rfl rfl ?_
          exact y_ret rfl rfl rfl rfl h
        · refine y_cmp (pc' := 24) rfl rfl (zc_leT hc4) rfl ?_
          refine y_pure (pc' := 25) (st' := [.long (nJ 1)]) rfl rfl ?_
          refine y_pure (pc' := 26) (st' := [.int x1, .long (nJ 1)]) rfl rfl ?_
          refine y_pure (pc' := 28) (st' := [.int (nI 63), .int x1, .long (nJ 1)]) rfl rfl ?_
          refine y_pure (pc' := 29) (st' := [.int (x1 &&& (nI 63)), .long (nJ 1)]) rfl rfl ?_
          refine y_pure (pc' := 30) (st' := [.long ((nJ 1) <<< (Int32.toInt64 (x1 &&& (nI 63)) &&& 63))]) rfl rfl ?_
          refine y_pure (pc' := 31) (ls' := [(0, .ref x0), (1, .int x1), (2, .int x2), (3, .long ((nJ 1) <<< (Int32.toInt64 (x1 &&& (nI 63)) &&& 63)))]) (st' := []) rfl rfl ?_
          refine y_pure (pc' := 32) (st' := [.int x1]) rfl rfl ?_
          refine y_pure (pc' := 34) (st' := [.int (nI 64), .int x1]) rfl rfl ?_
          rcases zif_inv h with ⟨hc5, h⟩ | ⟨hc5, h⟩
          · refine y_cmp (pc' := 37) rfl rfl (zc_geF hc5) rfl ?_
            refine y_pure (pc' := 38) (st' := [.ref x0]) rfl rfl ?_
            refine y_getf (pc' := 41) (v := .ref (x0 + 1)) rfl rfl rfl hk0 rfl rfl ?_
            refine y_pure (pc' := 42) (st' := [.int x2, .ref (x0 + 1)]) rfl rfl ?_
            obtain ⟨hi6, h⟩ := zg_inv h
            refine y_lald (pc' := 43) rfl (zf_3_4 hk0) hi6 rfl ?_
            refine y_pure (pc' := 52) rfl rfl ?_
            refine y_pure (pc' := 53) (st' := [.long ((nJ 1) <<< (Int32.toInt64 (x1 &&& (nI 63)) &&& 63)), .long (M.2 (x0 + 1) (Int32.toNatClampNeg x2))]) rfl rfl ?_
            refine y_pure (pc' := 54) (st' := [.long ((M.2 (x0 + 1) (Int32.toNatClampNeg x2)) &&& ((nJ 1) <<< (Int32.toInt64 (x1 &&& (nI 63)) &&& 63)))]) rfl rfl ?_
            refine y_pure (pc' := 55) (st' := [.long (nJ 0), .long ((M.2 (x0 + 1) (Int32.toNatClampNeg x2)) &&& ((nJ 1) <<< (Int32.toInt64 (x1 &&& (nI 63)) &&& 63)))]) rfl rfl ?_
            refine y_pure (pc' := 56) (st' := [.int (lg_cmp ((M.2 (x0 + 1) (Int32.toNatClampNeg x2)) &&& ((nJ 1) <<< (Int32.toInt64 (x1 &&& (nI 63)) &&& 63))) (nJ 0))]) rfl rfl ?_
            rcases zif_inv h with ⟨hc7, h⟩ | ⟨hc7, h⟩
            · refine y_cnd (pc' := 61) rfl rfl (zc_eqT hc7) rfl ?_
              refine y_pure (pc' := 62) (st' := [.int x1]) rfl rfl ?_
              refine y_pure (pc' := 64) (st' := [.int (nI 64), .int x1]) rfl rfl ?_
              rcases zif_inv h with ⟨hc8, h⟩ | ⟨hc8, h⟩
              · refine y_cmp (pc' := 67) rfl rfl (zc_geF hc8) rfl ?_
                refine y_pure (pc' := 68) (st' := [.ref x0]) rfl rfl ?_
                refine y_getf (pc' := 71) (v := .ref (x0 + 3)) rfl rfl rfl hk0 rfl rfl ?_
                refine y_pure (pc' := 72) (st' := [.int x2, .ref (x0 + 3)]) rfl rfl ?_
                refine y_lald (pc' := 73) rfl (zf_3_6 hk0) hi6 rfl ?_
                refine y_pure (pc' := 82) rfl rfl ?_
                refine y_pure (pc' := 83) (st' := [.long ((nJ 1) <<< (Int32.toInt64 (x1 &&& (nI 63)) &&& 63)), .long (M.2 (x0 + 3) (Int32.toNatClampNeg x2))]) rfl rfl ?_
                refine y_pure (pc' := 84) (st' := [.long ((M.2 (x0 + 3) (Int32.toNatClampNeg x2)) &&& ((nJ 1) <<< (Int32.toInt64 (x1 &&& (nI 63)) &&& 63)))]) rfl rfl ?_
                refine y_pure (pc' := 85) (st' := [.long (nJ 0), .long ((M.2 (x0 + 3) (Int32.toNatClampNeg x2)) &&& ((nJ 1) <<< (Int32.toInt64 (x1 &&& (nI 63)) &&& 63)))]) rfl rfl ?_
                refine y_pure (pc' := 86) (st' := [.int (lg_cmp ((M.2 (x0 + 3) (Int32.toNatClampNeg x2)) &&& ((nJ 1) <<< (Int32.toInt64 (x1 &&& (nI 63)) &&& 63))) (nJ 0))]) rfl rfl ?_
                rcases zif_inv h with ⟨hc9, h⟩ | ⟨hc9, h⟩
                · refine y_cnd (pc' := 100) rfl rfl (zc_eqT hc9) rfl ?_
                  refine y_pure (pc' := 101) (st' := [.int (-1 : Int32)]) rfl rfl ?_
                  exact y_ret rfl rfl rfl rfl h
                · refine y_cnd (pc' := 89) rfl rfl (zc_eqF hc9) rfl ?_
                  refine y_pure (pc' := 90) (st' := [.int x1]) rfl rfl ?_
                  refine y_pure (pc' := 91) (st' := [.ref x0, .int x1]) rfl rfl ?_
                  refine y_getf (pc' := 94) (v := .ref (x0 + 5)) rfl rfl rfl hk0 rfl rfl ?_
                  refine y_pure (pc' := 95) (st' := [.int x2, .ref (x0 + 5), .int x1]) rfl rfl ?_
                  refine y_iald (pc' := 96) rfl (zf_3_8 hk0) hi6 rfl ?_
                  refine y_pure (pc' := 97) (st' := [.int (x1 + (M.1 (x0 + 5) (Int32.toNatClampNeg x2)))]) rfl rfl ?_
                  refine y_pure (pc' := 101) rfl rfl ?_
                  exact y_ret rfl rfl rfl rfl h
              · refine y_cmp (pc' := 76) rfl rfl (zc_geT hc8) rfl ?_
                refine y_pure (pc' := 77) (st' := [.ref x0]) rfl rfl ?_
                refine y_getf (pc' := 80) (v := .ref (x0 + 4)) rfl rfl rfl hk0 rfl rfl ?_
                refine y_pure (pc' := 81) (st' := [.int x2, .ref (x0 + 4)]) rfl rfl ?_
                refine y_lald (pc' := 82) rfl (zf_3_7 hk0) hi6 rfl ?_
                refine y_pure (pc' := 83) (st' := [.long ((nJ 1) <<< (Int32.toInt64 (x1 &&& (nI 63)) &&& 63)), .long (M.2 (x0 + 4) (Int32.toNatClampNeg x2))]) rfl rfl ?_
                refine y_pure (pc' := 84) (st' := [.long ((M.2 (x0 + 4) (Int32.toNatClampNeg x2)) &&& ((nJ 1) <<< (Int32.toInt64 (x1 &&& (nI 63)) &&& 63)))]) rfl rfl ?_
                refine y_pure (pc' := 85) (st' := [.long (nJ 0), .long ((M.2 (x0 + 4) (Int32.toNatClampNeg x2)) &&& ((nJ 1) <<< (Int32.toInt64 (x1 &&& (nI 63)) &&& 63)))]) rfl rfl ?_
                refine y_pure (pc' := 86) (st' := [.int (lg_cmp ((M.2 (x0 + 4) (Int32.toNatClampNeg x2)) &&& ((nJ 1) <<< (Int32.toInt64 (x1 &&& (nI 63)) &&& 63))) (nJ 0))]) rfl rfl ?_
                rcases zif_inv h with ⟨hc10, h⟩ | ⟨hc10, h⟩
                · refine y_cnd (pc' := 100) rfl rfl (zc_eqT hc10) rfl ?_
                  refine y_pure (pc' := 101) (st' := [.int (-1 : Int32)]) rfl rfl ?_
                  exact y_ret rfl rfl rfl rfl h
                · refine y_cnd (pc' := 89) rfl rfl (zc_eqF hc10) rfl ?_
                  refine y_pure (pc' := 90) (st' := [.int x1]) rfl rfl ?_
                  refine y_pure (pc' := 91) (st' := [.ref x0, .int x1]) rfl rfl ?_
                  refine y_getf (pc' := 94) (v := .ref (x0 + 5)) rfl rfl rfl hk0 rfl rfl ?_
                  refine y_pure (pc' := 95) (st' := [.int x2, .ref (x0 + 5), .int x1]) rfl rfl ?_
                  refine y_iald (pc' := 96) rfl (zf_3_8 hk0) hi6 rfl ?_
                  refine y_pure (pc' := 97) (st' := [.int (x1 + (M.1 (x0 + 5) (Int32.toNatClampNeg x2)))]) rfl rfl ?_
                  refine y_pure (pc' := 101) rfl rfl ?_
                  exact y_ret rfl rfl rfl rfl h
            · refine y_cnd (pc' := 59) rfl rfl (zc_eqF hc7) rfl ?_
              refine y_pure (pc' := 60) (st' := [.int x1]) rfl rfl ?_
              exact y_ret rfl rfl rfl rfl h
          · refine y_cmp (pc' := 46) rfl rfl (zc_geT hc5) rfl ?_
            refine y_pure (pc' := 47) (st' := [.ref x0]) rfl rfl ?_
            refine y_getf (pc' := 50) (v := .ref (x0 + 2)) rfl rfl rfl hk0 rfl rfl ?_
            refine y_pure (pc' := 51) (st' := [.int x2, .ref (x0 + 2)]) rfl rfl ?_
            obtain ⟨hi11, h⟩ := zg_inv h
            refine y_lald (pc' := 52) rfl (zf_3_5 hk0) hi11 rfl ?_
            refine y_pure (pc' := 53) (st' := [.long ((nJ 1) <<< (Int32.toInt64 (x1 &&& (nI 63)) &&& 63)), .long (M.2 (x0 + 2) (Int32.toNatClampNeg x2))]) rfl rfl ?_
            refine y_pure (pc' := 54) (st' := [.long ((M.2 (x0 + 2) (Int32.toNatClampNeg x2)) &&& ((nJ 1) <<< (Int32.toInt64 (x1 &&& (nI 63)) &&& 63)))]) rfl rfl ?_
            refine y_pure (pc' := 55) (st' := [.long (nJ 0), .long ((M.2 (x0 + 2) (Int32.toNatClampNeg x2)) &&& ((nJ 1) <<< (Int32.toInt64 (x1 &&& (nI 63)) &&& 63)))]) rfl rfl ?_
            refine y_pure (pc' := 56) (st' := [.int (lg_cmp ((M.2 (x0 + 2) (Int32.toNatClampNeg x2)) &&& ((nJ 1) <<< (Int32.toInt64 (x1 &&& (nI 63)) &&& 63))) (nJ 0))]) rfl rfl ?_
            rcases zif_inv h with ⟨hc12, h⟩ | ⟨hc12, h⟩
            · refine y_cnd (pc' := 61) rfl rfl (zc_eqT hc12) rfl ?_
              refine y_pure (pc' := 62) (st' := [.int x1]) rfl rfl ?_
              refine y_pure (pc' := 64) (st' := [.int (nI 64), .int x1]) rfl rfl ?_
              rcases zif_inv h with ⟨hc13, h⟩ | ⟨hc13, h⟩
              · refine y_cmp (pc' := 67) rfl rfl (zc_geF hc13) rfl ?_
                refine y_pure (pc' := 68) (st' := [.ref x0]) rfl rfl ?_
                refine y_getf (pc' := 71) (v := .ref (x0 + 3)) rfl rfl rfl hk0 rfl rfl ?_
                refine y_pure (pc' := 72) (st' := [.int x2, .ref (x0 + 3)]) rfl rfl ?_
                refine y_lald (pc' := 73) rfl (zf_3_6 hk0) hi11 rfl ?_
                refine y_pure (pc' := 82) rfl rfl ?_
                refine y_pure (pc' := 83) (st' := [.long ((nJ 1) <<< (Int32.toInt64 (x1 &&& (nI 63)) &&& 63)), .long (M.2 (x0 + 3) (Int32.toNatClampNeg x2))]) rfl rfl ?_
                refine y_pure (pc' := 84) (st' := [.long ((M.2 (x0 + 3) (Int32.toNatClampNeg x2)) &&& ((nJ 1) <<< (Int32.toInt64 (x1 &&& (nI 63)) &&& 63)))]) rfl rfl ?_
                refine y_pure (pc' := 85) (st' := [.long (nJ 0), .long ((M.2 (x0 + 3) (Int32.toNatClampNeg x2)) &&& ((nJ 1) <<< (Int32.toInt64 (x1 &&& (nI 63)) &&& 63)))]) rfl rfl ?_
                refine y_pure (pc' := 86) (st' := [.int (lg_cmp ((M.2 (x0 + 3) (Int32.toNatClampNeg x2)) &&& ((nJ 1) <<< (Int32.toInt64 (x1 &&& (nI 63)) &&& 63))) (nJ 0))]) rfl rfl ?_
                rcases zif_inv h with ⟨hc14, h⟩ | ⟨hc14, h⟩
                · refine y_cnd (pc' := 100) rfl rfl (zc_eqT hc14) rfl ?_
                  refine y_pure (pc' := 101) (st' := [.int (-1 : Int32)]) rfl rfl ?_
                  exact y_ret rfl rfl rfl rfl h
                · refine y_cnd (pc' := 89) rfl rfl (zc_eqF hc14) rfl ?_
                  refine y_pure (pc' := 90) (st' := [.int x1]) rfl rfl ?_
                  refine y_pure (pc' := 91) (st' := [.ref x0, .int x1]) rfl rfl ?_
                  refine y_getf (pc' := 94) (v := .ref (x0 + 5)) rfl rfl rfl hk0 rfl rfl ?_
                  refine y_pure (pc' := 95) (st' := [.int x2, .ref (x0 + 5), .int x1]) rfl rfl ?_
                  refine y_iald (pc' := 96) rfl (zf_3_8 hk0) hi11 rfl ?_
                  refine y_pure (pc' := 97) (st' := [.int (x1 + (M.1 (x0 + 5) (Int32.toNatClampNeg x2)))]) rfl rfl ?_
                  refine y_pure (pc' := 101) rfl rfl ?_
                  exact y_ret rfl rfl rfl rfl h
              · refine y_cmp (pc' := 76) rfl rfl (zc_geT hc13) rfl ?_
                refine y_pure (pc' := 77) (st' := [.ref x0]) rfl rfl ?_
                refine y_getf (pc' := 80) (v := .ref (x0 + 4)) rfl rfl rfl hk0 rfl rfl ?_
                refine y_pure (pc' := 81) (st' := [.int x2, .ref (x0 + 4)]) rfl rfl ?_
                refine y_lald (pc' := 82) rfl (zf_3_7 hk0) hi11 rfl ?_
                refine y_pure (pc' := 83) (st' := [.long ((nJ 1) <<< (Int32.toInt64 (x1 &&& (nI 63)) &&& 63)), .long (M.2 (x0 + 4) (Int32.toNatClampNeg x2))]) rfl rfl ?_
                refine y_pure (pc' := 84) (st' := [.long ((M.2 (x0 + 4) (Int32.toNatClampNeg x2)) &&& ((nJ 1) <<< (Int32.toInt64 (x1 &&& (nI 63)) &&& 63)))]) rfl rfl ?_
                refine y_pure (pc' := 85) (st' := [.long (nJ 0), .long ((M.2 (x0 + 4) (Int32.toNatClampNeg x2)) &&& ((nJ 1) <<< (Int32.toInt64 (x1 &&& (nI 63)) &&& 63)))]) rfl rfl ?_
                refine y_pure (pc' := 86) (st' := [.int (lg_cmp ((M.2 (x0 + 4) (Int32.toNatClampNeg x2)) &&& ((nJ 1) <<< (Int32.toInt64 (x1 &&& (nI 63)) &&& 63))) (nJ 0))]) rfl rfl ?_
                rcases zif_inv h with ⟨hc15, h⟩ | ⟨hc15, h⟩
                · refine y_cnd (pc' := 100) rfl rfl (zc_eqT hc15) rfl ?_
                  refine y_pure (pc' := 101) (st' := [.int (-1 : Int32)]) rfl rfl ?_
                  exact y_ret rfl rfl rfl rfl h
                · refine y_cnd (pc' := 89) rfl rfl (zc_eqF hc15) rfl ?_
                  refine y_pure (pc' := 90) (st' := [.int x1]) rfl rfl ?_
                  refine y_pure (pc' := 91) (st' := [.ref x0, .int x1]) rfl rfl ?_
                  refine y_getf (pc' := 94) (v := .ref (x0 + 5)) rfl rfl rfl hk0 rfl rfl ?_
                  refine y_pure (pc' := 95) (st' := [.int x2, .ref (x0 + 5), .int x1]) rfl rfl ?_
                  refine y_iald (pc' := 96) rfl (zf_3_8 hk0) hi11 rfl ?_
                  refine y_pure (pc' := 97) (st' := [.int (x1 + (M.1 (x0 + 5) (Int32.toNatClampNeg x2)))]) rfl rfl ?_
                  refine y_pure (pc' := 101) rfl rfl ?_
                  exact y_ret rfl rfl rfl rfl h
            · refine y_cnd (pc' := 59) rfl rfl (zc_eqF hc12) rfl ?_
              refine y_pure (pc' := 60) (st' := [.int x1]) rfl rfl ?_
              exact y_ret rfl rfl rfl rfl h
    · refine y_cmp (pc' := 22) rfl rfl (zc_geT hc2) rfl ?_
      refine y_pure (pc' := 23) (st' := [.int (-1 : Int32)]) rfl rfl ?_
      exact y_ret rfl rfl rfl rfl h
noncomputable def h_R_stateBy_25 (d : Nat) (x0 : Nat) (x1 : Nat) (x2 : Nat) (x3 : Int32) (x4 : Int32) (x5 : Int32) (M : ZM) : Option ZR := zEx0 (zEv d) zmR_stateBy (25, [(0, .ref x0), (1, .ref x1), (2, .ref x2), (3, .int x3), (4, .int x4), (5, .int x5)], [], M)
theorem e_R_stateBy_25 {d : Nat} {x0 : Nat} {x1 : Nat} {x2 : Nat} {x3 : Int32} {x4 : Int32} {x5 : Int32} {M : ZM} {r : ZR} (hk0 : zkd x0 = (13, 0)) (hk1 : zkd x1 = (1, 36)) (hk2 : zkd x2 = (1, 6)) (h : (if x5 < (M.1 x0 3) then (if x5 < (nI 6) then (if zin x5 6 = true then zC1 (zEv d zmR_marksAt [.ref x1, .int (M.1 x2 (Int32.toNatClampNeg x5))] M) (fun v6 M5 => zC1 (zEv d zmJI_bitCount [.int v6] M5) (fun v9 M8 => (if v9 = (nI 1) then zC1 (zEv d zmC_leastDigit [.int v6] M8) (fun v13 M12 => zC1 (zEv d zmR_after [.ref x0, .int x3, .int v13] M12) (fun v16 M15 => h_R_stateBy_25 d x0 x1 x2 v16 (x4 + (nI 1)) (x5 + (nI 1)) M15)) else h_R_stateBy_25 d x0 x1 x2 x3 x4 (x5 + (nI 1)) M8))) else none) else (if x4 < (M.1 x0 3) then (if (nI 0) < x3 then some (some (.int x3), M) else some (some (.int (nI 0)), M)) else some (some (.int (nI 0)), M))) else (if x4 < (M.1 x0 3) then (if (nI 0) < x3 then some (some (.int x3), M) else some (some (.int (nI 0)), M)) else some (some (.int (nI 0)), M))) = some r) : h_R_stateBy_25 d x0 x1 x2 x3 x4 x5 M = some r := by
  show zEx0 (zEv d) zmR_stateBy (25, [(0, .ref x0), (1, .ref x1), (2, .ref x2), (3, .int x3), (4, .int x4), (5, .int x5)], [], M) = some r
  refine y_pure (pc' := 27) (st' := [.int x5]) rfl rfl ?_
  refine y_pure (pc' := 28) (st' := [.ref x0, .int x5]) rfl rfl ?_
  refine y_getf (pc' := 31) (v := .int (M.1 x0 3)) rfl rfl rfl hk0 rfl rfl ?_
  rcases zif_inv h with ⟨hc1, h⟩ | ⟨hc1, h⟩
  · refine y_cmp (pc' := 34) rfl rfl (zc_geF hc1) rfl ?_
    refine y_pure (pc' := 36) (st' := [.int x5]) rfl rfl ?_
    refine y_pure (pc' := 37) (st' := [.ref x2, .int x5]) rfl rfl ?_
    refine y_alen (pc' := 38) rfl hk2 (by decide) rfl rfl ?_
    rcases zif_inv h with ⟨hc2, h⟩ | ⟨hc2, h⟩
    · refine y_cmp (pc' := 41) rfl rfl (zc_geF hc2) rfl ?_
      refine y_pure (pc' := 42) (st' := [.ref x1]) rfl rfl ?_
      refine y_pure (pc' := 43) (st' := [.ref x2, .ref x1]) rfl rfl ?_
      refine y_pure (pc' := 45) (st' := [.int x5, .ref x2, .ref x1]) rfl rfl ?_
      obtain ⟨hi3, h⟩ := zg_inv h
      refine y_iald (pc' := 46) rfl hk2 hi3 rfl ?_
      obtain ⟨v6, M5, he4, h⟩ := zC1_inv h
      refine y_callS (pc' := 49) (y := zmR_marksAt) (a := [.ref x1, .int (M.1 x2 (Int32.toNatClampNeg x5))]) (st' := []) rfl rfl rfl rfl rfl rfl he4 rfl rfl ?_
      refine y_pure (pc' := 51) (ls' := [(0, .ref x0), (1, .ref x1), (2, .ref x2), (3, .int x3), (4, .int x4), (5, .int x5), (6, .int v6)]) (st' := []) rfl rfl ?_
      refine y_pure (pc' := 53) (st' := [.int v6]) rfl rfl ?_
      obtain ⟨v9, M8, he7, h⟩ := zC1_inv h
      refine y_callS (pc' := 56) (y := zmJI_bitCount) (a := [.int v6]) (st' := []) rfl rfl rfl rfl rfl rfl he7 rfl rfl ?_
      refine y_pure (pc' := 57) (st' := [.int (nI 1), .int v9]) rfl rfl ?_
      rcases zif_inv h with ⟨hc10, h⟩ | ⟨hc10, h⟩
      · refine y_cmp (pc' := 60) rfl rfl (zc_neF hc10) rfl ?_
        refine y_pure (pc' := 61) (st' := [.ref x0]) rfl rfl ?_
        refine y_pure (pc' := 62) (st' := [.int x3, .ref x0]) rfl rfl ?_
        refine y_pure (pc' := 64) (st' := [.int v6, .int x3, .ref x0]) rfl rfl ?_
        obtain ⟨v13, M12, he11, h⟩ := zC1_inv h
        refine y_callS (pc' := 67) (y := zmC_leastDigit) (a := [.int v6]) (st' := [.int x3, .ref x0]) rfl rfl rfl rfl rfl rfl he11 rfl rfl ?_
        obtain ⟨v16, M15, he14, h⟩ := zC1_inv h
        refine y_callV (pc' := 70) (y := zmR_after) (a' := [.int x3, .int v13]) (st' := []) rfl rfl rfl rfl rfl (zrecv_o (o := 3) hk0 rfl) rfl he14 rfl rfl ?_
        refine y_pure (pc' := 71) (ls' := [(0, .ref x0), (1, .ref x1), (2, .ref x2), (3, .int v16), (4, .int x4), (5, .int x5), (6, .int v6)]) (st' := []) rfl rfl ?_
        refine y_pure (pc' := 74) (ls' := [(0, .ref x0), (1, .ref x1), (2, .ref x2), (3, .int v16), (4, .int (x4 + (nI 1))), (5, .int x5), (6, .int v6)]) (st' := []) rfl rfl ?_
        refine y_pure (pc' := 77) (ls' := [(0, .ref x0), (1, .ref x1), (2, .ref x2), (3, .int v16), (4, .int (x4 + (nI 1))), (5, .int (x5 + (nI 1))), (6, .int v6)]) (st' := []) rfl rfl ?_
        refine y_pure (pc' := 25) rfl rfl ?_
        refine zEx_sub ?_ h
        exact ⟨rfl, rfl, rfl, rfl, rfl, rfl, trivial⟩
      · refine y_cmp (pc' := 74) rfl rfl (zc_neT hc10) rfl ?_
        refine y_pure (pc' := 77) (ls' := [(0, .ref x0), (1, .ref x1), (2, .ref x2), (3, .int x3), (4, .int x4), (5, .int (x5 + (nI 1))), (6, .int v6)]) (st' := []) rfl rfl ?_
        refine y_pure (pc' := 25) rfl rfl ?_
        refine zEx_sub ?_ h
        exact ⟨rfl, rfl, rfl, rfl, rfl, rfl, trivial⟩
    · refine y_cmp (pc' := 80) rfl rfl (zc_geT hc2) rfl ?_
      refine y_pure (pc' := 82) (st' := [.int x4]) rfl rfl ?_
      refine y_pure (pc' := 83) (st' := [.ref x0, .int x4]) rfl rfl ?_
      refine y_getf (pc' := 86) (v := .int (M.1 x0 3)) rfl rfl rfl hk0 rfl rfl ?_
      rcases zif_inv h with ⟨hc17, h⟩ | ⟨hc17, h⟩
      · refine y_cmp (pc' := 89) rfl rfl (zc_geF hc17) rfl ?_
        refine y_pure (pc' := 90) (st' := [.int x3]) rfl rfl ?_
        rcases zif_inv h with ⟨hc18, h⟩ | ⟨hc18, h⟩
        · refine y_cnd (pc' := 93) rfl rfl (zc_leF hc18) rfl ?_
          refine y_pure (pc' := 94) (st' := [.int x3]) rfl rfl ?_
          refine y_pure (pc' := 98) rfl rfl ?_
          exact y_ret rfl rfl rfl rfl h
        · refine y_cnd (pc' := 97) rfl rfl (zc_leT hc18) rfl ?_
          refine y_pure (pc' := 98) (st' := [.int (nI 0)]) rfl rfl ?_
          exact y_ret rfl rfl rfl rfl h
      · refine y_cmp (pc' := 97) rfl rfl (zc_geT hc17) rfl ?_
        refine y_pure (pc' := 98) (st' := [.int (nI 0)]) rfl rfl ?_
        exact y_ret rfl rfl rfl rfl h
  · refine y_cmp (pc' := 80) rfl rfl (zc_geT hc1) rfl ?_
    refine y_pure (pc' := 82) (st' := [.int x4]) rfl rfl ?_
    refine y_pure (pc' := 83) (st' := [.ref x0, .int x4]) rfl rfl ?_
    refine y_getf (pc' := 86) (v := .int (M.1 x0 3)) rfl rfl rfl hk0 rfl rfl ?_
    rcases zif_inv h with ⟨hc19, h⟩ | ⟨hc19, h⟩
    · refine y_cmp (pc' := 89) rfl rfl (zc_geF hc19) rfl ?_
      refine y_pure (pc' := 90) (st' := [.int x3]) rfl rfl ?_
      rcases zif_inv h with ⟨hc20, h⟩ | ⟨hc20, h⟩
      · refine y_cnd (pc' := 93) rfl rfl (zc_leF hc20) rfl ?_
        refine y_pure (pc' := 94) (st' := [.int x3]) rfl rfl ?_
        refine y_pure (pc' := 98) rfl rfl ?_
        exact y_ret rfl rfl rfl rfl h
      · refine y_cnd (pc' := 97) rfl rfl (zc_leT hc20) rfl ?_
        refine y_pure (pc' := 98) (st' := [.int (nI 0)]) rfl rfl ?_
        exact y_ret rfl rfl rfl rfl h
    · refine y_cmp (pc' := 97) rfl rfl (zc_geT hc19) rfl ?_
      refine y_pure (pc' := 98) (st' := [.int (nI 0)]) rfl rfl ?_
      exact y_ret rfl rfl rfl rfl h
theorem e_R_stateBy {d : Nat} {x0 : Nat} {x1 : Nat} {x2 : Nat} {M : ZM} {r : ZR} (hk0 : zkd x0 = (13, 0)) (hk1 : zkd x1 = (1, 36)) (hk2 : zkd x2 = (1, 6)) (h : (if (M.1 x0 1) = (nI 0) then h_R_stateBy_25 d x0 x1 x2 (nI 0) (nI 0) (nI 0) M else (if (M.1 x0 0) = (nI 3) then some (some (.int (nI 0)), M) else h_R_stateBy_25 d x0 x1 x2 (nI 0) (nI 0) (nI 0) M)) = some r) : zEv (d + 1) zmR_stateBy [.ref x0, .ref x1, .ref x2] M = some r := by
  rw [zEv_succ]
  show zEx0 (zEv d) zmR_stateBy (0, [(0, .ref x0), (1, .ref x1), (2, .ref x2)], [], M) = some r
  refine y_pure (pc' := 1) (st' := [.int (nI 0)]) rfl rfl ?_
  refine y_pure (pc' := 2) (ls' := [(0, .ref x0), (1, .ref x1), (2, .ref x2), (3, .int (nI 0))]) (st' := []) rfl rfl ?_
  refine y_pure (pc' := 3) (st' := [.int (nI 0)]) rfl rfl ?_
  refine y_pure (pc' := 5) (ls' := [(0, .ref x0), (1, .ref x1), (2, .ref x2), (3, .int (nI 0)), (4, .int (nI 0))]) (st' := []) rfl rfl ?_
  refine y_pure (pc' := 6) (st' := [.ref x0]) rfl rfl ?_
  refine y_getf (pc' := 9) (v := .int (M.1 x0 1)) rfl rfl rfl hk0 rfl rfl ?_
  rcases zif_inv h with ⟨hc1, h⟩ | ⟨hc1, h⟩
  · refine y_cnd (pc' := 22) rfl rfl (zc_eqT hc1) rfl ?_
    refine y_pure (pc' := 23) (st' := [.int (nI 0)]) rfl rfl ?_
    refine y_pure (pc' := 25) (ls' := [(0, .ref x0), (1, .ref x1), (2, .ref x2), (3, .int (nI 0)), (4, .int (nI 0)), (5, .int (nI 0))]) (st' := []) rfl rfl ?_
    refine zEx_sub ?_ h
    exact ⟨rfl, rfl, rfl, rfl, rfl, rfl, trivial⟩
  · refine y_cnd (pc' := 12) rfl rfl (zc_eqF hc1) rfl ?_
    refine y_pure (pc' := 13) (st' := [.ref x0]) rfl rfl ?_
    refine y_getf (pc' := 16) (v := .int (M.1 x0 0)) rfl rfl rfl hk0 rfl rfl ?_
    refine y_pure (pc' := 17) (st' := [.int (nI 3), .int (M.1 x0 0)]) rfl rfl ?_
    rcases zif_inv h with ⟨hc2, h⟩ | ⟨hc2, h⟩
    · refine y_cmp (pc' := 20) rfl rfl (zc_neF hc2) rfl ?_
      refine y_pure (pc' := 21) (st' := [.int (nI 0)]) rfl rfl ?_
      exact y_ret rfl rfl rfl rfl h
    · refine y_cmp (pc' := 22) rfl rfl (zc_neT hc2) rfl ?_
      refine y_pure (pc' := 23) (st' := [.int (nI 0)]) rfl rfl ?_
      refine y_pure (pc' := 25) (ls' := [(0, .ref x0), (1, .ref x1), (2, .ref x2), (3, .int (nI 0)), (4, .int (nI 0)), (5, .int (nI 0))]) (st' := []) rfl rfl ?_
      refine zEx_sub ?_ h
      exact ⟨rfl, rfl, rfl, rfl, rfl, rfl, trivial⟩
noncomputable def h_R_leadOn_80 (d : Nat) (x0 : Nat) (x1 : Int32) (x2 : Int64) (x4 : Int64) (x6 : Int64) (x8 : Int64) (M : ZM) : Option ZR := zEx0 (zEv d) zmR_leadOn (80, [(0, .ref x0), (1, .int x1), (2, .long x2), (4, .long x4), (6, .long x6), (8, .long x8)], [], M)
theorem e_R_leadOn_80 {d : Nat} {x0 : Nat} {x1 : Int32} {x2 : Int64} {x4 : Int64} {x6 : Int64} {x8 : Int64} {M : ZM} {r : ZR} (hk0 : zkd x0 = (13, 0)) (h : (if zin x1 8 = true then zL (zpl (zpl M x0 15 (x6 ||| (x2 &&& (M.2 (x0 + 1) (Int32.toNatClampNeg x1))))) x0 16 (x8 ||| (x4 &&& ((zpl M x0 15 (x6 ||| (x2 &&& (M.2 (x0 + 1) (Int32.toNatClampNeg x1))))).2 (x0 + 2) (Int32.toNatClampNeg x1))))) (fun M2 => some (none, M2)) else none) = some r) : h_R_leadOn_80 d x0 x1 x2 x4 x6 x8 M = some r := by
  show zEx0 (zEv d) zmR_leadOn (80, [(0, .ref x0), (1, .int x1), (2, .long x2), (4, .long x4), (6, .long x6), (8, .long x8)], [], M) = some r
  refine y_pure (pc' := 81) (st' := [.ref x0]) rfl rfl ?_
  refine y_pure (pc' := 83) (st' := [.long x6, .ref x0]) rfl rfl ?_
  refine y_pure (pc' := 84) (st' := [.long x2, .long x6, .ref x0]) rfl rfl ?_
  refine y_pure (pc' := 85) (st' := [.ref x0, .long x2, .long x6, .ref x0]) rfl rfl ?_
  refine y_getf (pc' := 88) (v := .ref (x0 + 1)) rfl rfl rfl hk0 rfl rfl ?_
  refine y_pure (pc' := 89) (st' := [.int x1, .ref (x0 + 1), .long x2, .long x6, .ref x0]) rfl rfl ?_
  obtain ⟨hi1, h⟩ := zg_inv h
  refine y_lald (pc' := 90) rfl (zf_3_4 hk0) hi1 rfl ?_
  refine y_pure (pc' := 91) (st' := [.long (x2 &&& (M.2 (x0 + 1) (Int32.toNatClampNeg x1))), .long x6, .ref x0]) rfl rfl ?_
  refine y_pure (pc' := 92) (st' := [.long (x6 ||| (x2 &&& (M.2 (x0 + 1) (Int32.toNatClampNeg x1)))), .ref x0]) rfl rfl ?_
  refine y_putL (pc' := 95) rfl rfl hk0 rfl ?_
  refine y_pure (pc' := 96) (st' := [.ref x0]) rfl rfl ?_
  refine y_pure (pc' := 98) (st' := [.long x8, .ref x0]) rfl rfl ?_
  refine y_pure (pc' := 100) (st' := [.long x4, .long x8, .ref x0]) rfl rfl ?_
  refine y_pure (pc' := 101) (st' := [.ref x0, .long x4, .long x8, .ref x0]) rfl rfl ?_
  refine y_getf (pc' := 104) (v := .ref (x0 + 2)) rfl rfl rfl hk0 rfl rfl ?_
  refine y_pure (pc' := 105) (st' := [.int x1, .ref (x0 + 2), .long x4, .long x8, .ref x0]) rfl rfl ?_
  refine y_lald (pc' := 106) rfl (zf_3_5 hk0) hi1 rfl ?_
  refine y_pure (pc' := 107) (st' := [.long (x4 &&& ((zpl M x0 15 (x6 ||| (x2 &&& (M.2 (x0 + 1) (Int32.toNatClampNeg x1))))).2 (x0 + 2) (Int32.toNatClampNeg x1))), .long x8, .ref x0]) rfl rfl ?_
  refine y_pure (pc' := 108) (st' := [.long (x8 ||| (x4 &&& ((zpl M x0 15 (x6 ||| (x2 &&& (M.2 (x0 + 1) (Int32.toNatClampNeg x1))))).2 (x0 + 2) (Int32.toNatClampNeg x1)))), .ref x0]) rfl rfl ?_
  refine y_putL (pc' := 111) rfl rfl hk0 rfl ?_
  obtain ⟨M2, e3, h⟩ := zL_inv h
  refine zM_gen e3 ?_
  exact y_ret rfl rfl rfl rfl h
theorem e_R_leadOn {d : Nat} {x0 : Nat} {x1 : Int32} {x2 : Int64} {x4 : Int64} {M : ZM} {r : ZR} (hk0 : zkd x0 = (13, 0)) (h : (if zin x1 8 = true then (if (M.1 (x0 + 5) (Int32.toNatClampNeg x1)) < (nI 64) then (if (nI 0) < (M.1 (x0 + 5) (Int32.toNatClampNeg x1)) then zL (((x4 &&& (M.2 (x0 + 4) (Int32.toNatClampNeg x1))) <<< (Int32.toInt64 (M.1 (x0 + 5) (Int32.toNatClampNeg x1)) &&& 63)) ||| ((Int64.toUInt64 (x2 &&& (M.2 (x0 + 3) (Int32.toNatClampNeg x1))) >>> ((Int32.toInt64 ((nI 64) - (M.1 (x0 + 5) (Int32.toNatClampNeg x1)))).toUInt64 &&& Int64.toUInt64 63)).toInt64)) (fun y4 => zL ((x2 &&& (M.2 (x0 + 3) (Int32.toNatClampNeg x1))) <<< (Int32.toInt64 (M.1 (x0 + 5) (Int32.toNatClampNeg x1)) &&& 63)) (fun y6 => h_R_leadOn_80 d x0 x1 x2 x4 y6 y4 M)) else h_R_leadOn_80 d x0 x1 x2 x4 (x2 &&& (M.2 (x0 + 3) (Int32.toNatClampNeg x1))) (x4 &&& (M.2 (x0 + 4) (Int32.toNatClampNeg x1))) M) else zL ((x2 &&& (M.2 (x0 + 3) (Int32.toNatClampNeg x1))) <<< (Int32.toInt64 ((M.1 (x0 + 5) (Int32.toNatClampNeg x1)) - (nI 64)) &&& 63)) (fun y8 => h_R_leadOn_80 d x0 x1 x2 x4 (nJ 0) y8 M)) else none) = some r) : zEv (d + 1) zmR_leadOn [.ref x0, .int x1, .long x2, .long x4] M = some r := by
  rw [zEv_succ]
  show zEx0 (zEv d) zmR_leadOn (0, [(0, .ref x0), (1, .int x1), (2, .long x2), (4, .long x4)], [], M) = some r
  refine y_pure (pc' := 1) (st' := [.long x2]) rfl rfl ?_
  refine y_pure (pc' := 2) (st' := [.ref x0, .long x2]) rfl rfl ?_
  refine y_getf (pc' := 5) (v := .ref (x0 + 3)) rfl rfl rfl hk0 rfl rfl ?_
  refine y_pure (pc' := 6) (st' := [.int x1, .ref (x0 + 3), .long x2]) rfl rfl ?_
  obtain ⟨hi1, h⟩ := zg_inv h
  refine y_lald (pc' := 7) rfl (zf_3_6 hk0) hi1 rfl ?_
  refine y_pure (pc' := 8) (st' := [.long (x2 &&& (M.2 (x0 + 3) (Int32.toNatClampNeg x1)))]) rfl rfl ?_
  refine y_pure (pc' := 10) (ls' := [(0, .ref x0), (1, .int x1), (2, .long x2), (4, .long x4), (6, .long (x2 &&& (M.2 (x0 + 3) (Int32.toNatClampNeg x1))))]) (st' := []) rfl rfl ?_
  refine y_pure (pc' := 12) (st' := [.long x4]) rfl rfl ?_
  refine y_pure (pc' := 13) (st' := [.ref x0, .long x4]) rfl rfl ?_
  refine y_getf (pc' := 16) (v := .ref (x0 + 4)) rfl rfl rfl hk0 rfl rfl ?_
  refine y_pure (pc' := 17) (st' := [.int x1, .ref (x0 + 4), .long x4]) rfl rfl ?_
  refine y_lald (pc' := 18) rfl (zf_3_7 hk0) hi1 rfl ?_
  refine y_pure (pc' := 19) (st' := [.long (x4 &&& (M.2 (x0 + 4) (Int32.toNatClampNeg x1)))]) rfl rfl ?_
  refine y_pure (pc' := 21) (ls' := [(0, .ref x0), (1, .int x1), (2, .long x2), (4, .long x4), (6, .long (x2 &&& (M.2 (x0 + 3) (Int32.toNatClampNeg x1)))), (8, .long (x4 &&& (M.2 (x0 + 4) (Int32.toNatClampNeg x1))))]) (st' := []) rfl rfl ?_
  refine y_pure (pc' := 22) (st' := [.ref x0]) rfl rfl ?_
  refine y_getf (pc' := 25) (v := .ref (x0 + 5)) rfl rfl rfl hk0 rfl rfl ?_
  refine y_pure (pc' := 26) (st' := [.int x1, .ref (x0 + 5)]) rfl rfl ?_
  refine y_iald (pc' := 27) rfl (zf_3_8 hk0) hi1 rfl ?_
  refine y_pure (pc' := 29) (ls' := [(0, .ref x0), (1, .int x1), (2, .long x2), (4, .long x4), (6, .long (x2 &&& (M.2 (x0 + 3) (Int32.toNatClampNeg x1)))), (8, .long (x4 &&& (M.2 (x0 + 4) (Int32.toNatClampNeg x1)))), (10, .int (M.1 (x0 + 5) (Int32.toNatClampNeg x1)))]) (st' := []) rfl rfl ?_
  refine y_pure (pc' := 31) (st' := [.int (M.1 (x0 + 5) (Int32.toNatClampNeg x1))]) rfl rfl ?_
  refine y_pure (pc' := 33) (st' := [.int (nI 64), .int (M.1 (x0 + 5) (Int32.toNatClampNeg x1))]) rfl rfl ?_
  rcases zif_inv h with ⟨hc2, h⟩ | ⟨hc2, h⟩
  · refine y_cmp (pc' := 52) rfl rfl (zc_ltT hc2) rfl ?_
    refine y_pure (pc' := 54) (st' := [.int (M.1 (x0 + 5) (Int32.toNatClampNeg x1))]) rfl rfl ?_
    rcases zif_inv h with ⟨hc3, h⟩ | ⟨hc3, h⟩
    · refine y_cnd (pc' := 57) rfl rfl (zc_leF hc3) rfl ?_
      refine y_pure (pc' := 59) (st' := [.long (x4 &&& (M.2 (x0 + 4) (Int32.toNatClampNeg x1)))]) rfl rfl ?_
      refine y_pure (pc' := 61) (st' := [.int (M.1 (x0 + 5) (Int32.toNatClampNeg x1)), .long (x4 &&& (M.2 (x0 + 4) (Int32.toNatClampNeg x1)))]) rfl rfl ?_
      refine y_pure (pc' := 62) (st' := [.long ((x4 &&& (M.2 (x0 + 4) (Int32.toNatClampNeg x1))) <<< (Int32.toInt64 (M.1 (x0 + 5) (Int32.toNatClampNeg x1)) &&& 63))]) rfl rfl ?_
      refine y_pure (pc' := 64) (st' := [.long (x2 &&& (M.2 (x0 + 3) (Int32.toNatClampNeg x1))), .long ((x4 &&& (M.2 (x0 + 4) (Int32.toNatClampNeg x1))) <<< (Int32.toInt64 (M.1 (x0 + 5) (Int32.toNatClampNeg x1)) &&& 63))]) rfl rfl ?_
      refine y_pure (pc' := 66) (st' := [.int (nI 64), .long (x2 &&& (M.2 (x0 + 3) (Int32.toNatClampNeg x1))), .long ((x4 &&& (M.2 (x0 + 4) (Int32.toNatClampNeg x1))) <<< (Int32.toInt64 (M.1 (x0 + 5) (Int32.toNatClampNeg x1)) &&& 63))]) rfl rfl ?_
      refine y_pure (pc' := 68) (st' := [.int (M.1 (x0 + 5) (Int32.toNatClampNeg x1)), .int (nI 64), .long (x2 &&& (M.2 (x0 + 3) (Int32.toNatClampNeg x1))), .long ((x4 &&& (M.2 (x0 + 4) (Int32.toNatClampNeg x1))) <<< (Int32.toInt64 (M.1 (x0 + 5) (Int32.toNatClampNeg x1)) &&& 63))]) rfl rfl ?_
      refine y_pure (pc' := 69) (st' := [.int ((nI 64) - (M.1 (x0 + 5) (Int32.toNatClampNeg x1))), .long (x2 &&& (M.2 (x0 + 3) (Int32.toNatClampNeg x1))), .long ((x4 &&& (M.2 (x0 + 4) (Int32.toNatClampNeg x1))) <<< (Int32.toInt64 (M.1 (x0 + 5) (Int32.toNatClampNeg x1)) &&& 63))]) rfl rfl ?_
      refine y_pure (pc' := 70) (st' := [.long ((Int64.toUInt64 (x2 &&& (M.2 (x0 + 3) (Int32.toNatClampNeg x1))) >>> ((Int32.toInt64 ((nI 64) - (M.1 (x0 + 5) (Int32.toNatClampNeg x1)))).toUInt64 &&& Int64.toUInt64 63)).toInt64), .long ((x4 &&& (M.2 (x0 + 4) (Int32.toNatClampNeg x1))) <<< (Int32.toInt64 (M.1 (x0 + 5) (Int32.toNatClampNeg x1)) &&& 63))]) rfl rfl ?_
      refine y_pure (pc' := 71) (st' := [.long (((x4 &&& (M.2 (x0 + 4) (Int32.toNatClampNeg x1))) <<< (Int32.toInt64 (M.1 (x0 + 5) (Int32.toNatClampNeg x1)) &&& 63)) ||| ((Int64.toUInt64 (x2 &&& (M.2 (x0 + 3) (Int32.toNatClampNeg x1))) >>> ((Int32.toInt64 ((nI 64) - (M.1 (x0 + 5) (Int32.toNatClampNeg x1)))).toUInt64 &&& Int64.toUInt64 63)).toInt64))]) rfl rfl ?_
      obtain ⟨y4, e5, h⟩ := zL_inv h
      refine zT_genL e5 ?_
      refine y_pure (pc' := 73) (ls' := [(0, .ref x0), (1, .int x1), (2, .long x2), (4, .long x4), (6, .long (x2 &&& (M.2 (x0 + 3) (Int32.toNatClampNeg x1)))), (8, .long y4), (10, .int (M.1 (x0 + 5) (Int32.toNatClampNeg x1)))]) (st' := []) rfl rfl ?_
      refine y_pure (pc' := 75) (st' := [.long (x2 &&& (M.2 (x0 + 3) (Int32.toNatClampNeg x1)))]) rfl rfl ?_
      refine y_pure (pc' := 77) (st' := [.int (M.1 (x0 + 5) (Int32.toNatClampNeg x1)), .long (x2 &&& (M.2 (x0 + 3) (Int32.toNatClampNeg x1)))]) rfl rfl ?_
      refine y_pure (pc' := 78) (st' := [.long ((x2 &&& (M.2 (x0 + 3) (Int32.toNatClampNeg x1))) <<< (Int32.toInt64 (M.1 (x0 + 5) (Int32.toNatClampNeg x1)) &&& 63))]) rfl rfl ?_
      obtain ⟨y6, e7, h⟩ := zL_inv h
      refine zT_genL e7 ?_
      refine y_pure (pc' := 80) (ls' := [(0, .ref x0), (1, .int x1), (2, .long x2), (4, .long x4), (6, .long y6), (8, .long y4), (10, .int (M.1 (x0 + 5) (Int32.toNatClampNeg x1)))]) (st' := []) rfl rfl ?_
      refine zEx_sub ?_ h
      exact ⟨rfl, rfl, rfl, rfl, rfl, rfl, trivial⟩
    · refine y_cnd (pc' := 80) rfl rfl (zc_leT hc3) rfl ?_
      refine zEx_sub ?_ h
      exact ⟨rfl, rfl, rfl, rfl, rfl, rfl, trivial⟩
  · refine y_cmp (pc' := 36) rfl rfl (zc_ltF hc2) rfl ?_
    refine y_pure (pc' := 38) (st' := [.long (x2 &&& (M.2 (x0 + 3) (Int32.toNatClampNeg x1)))]) rfl rfl ?_
    refine y_pure (pc' := 40) (st' := [.int (M.1 (x0 + 5) (Int32.toNatClampNeg x1)), .long (x2 &&& (M.2 (x0 + 3) (Int32.toNatClampNeg x1)))]) rfl rfl ?_
    refine y_pure (pc' := 42) (st' := [.int (nI 64), .int (M.1 (x0 + 5) (Int32.toNatClampNeg x1)), .long (x2 &&& (M.2 (x0 + 3) (Int32.toNatClampNeg x1)))]) rfl rfl ?_
    refine y_pure (pc' := 43) (st' := [.int ((M.1 (x0 + 5) (Int32.toNatClampNeg x1)) - (nI 64)), .long (x2 &&& (M.2 (x0 + 3) (Int32.toNatClampNeg x1)))]) rfl rfl ?_
    refine y_pure (pc' := 44) (st' := [.long ((x2 &&& (M.2 (x0 + 3) (Int32.toNatClampNeg x1))) <<< (Int32.toInt64 ((M.1 (x0 + 5) (Int32.toNatClampNeg x1)) - (nI 64)) &&& 63))]) rfl rfl ?_
    obtain ⟨y8, e9, h⟩ := zL_inv h
    refine zT_genL e9 ?_
    refine y_pure (pc' := 46) (ls' := [(0, .ref x0), (1, .int x1), (2, .long x2), (4, .long x4), (6, .long (x2 &&& (M.2 (x0 + 3) (Int32.toNatClampNeg x1)))), (8, .long y8), (10, .int (M.1 (x0 + 5) (Int32.toNatClampNeg x1)))]) (st' := []) rfl rfl ?_
    refine y_pure (pc' := 47) (st' := [.long (nJ 0)]) rfl rfl ?_
    refine y_pure (pc' := 49) (ls' := [(0, .ref x0), (1, .int x1), (2, .long x2), (4, .long x4), (6, .long (nJ 0)), (8, .long y8), (10, .int (M.1 (x0 + 5) (Int32.toNatClampNeg x1)))]) (st' := []) rfl rfl ?_
    refine y_pure (pc' := 80) rfl rfl ?_
    refine zEx_sub ?_ h
    exact ⟨rfl, rfl, rfl, rfl, rfl, rfl, trivial⟩
noncomputable def h_R_leadBack_66 (d : Nat) (x0 : Nat) (x1 : Int32) (x2 : Int64) (x4 : Int64) (x6 : Int64) (x8 : Int64) (M : ZM) : Option ZR := zEx0 (zEv d) zmR_leadBack (66, [(0, .ref x0), (1, .int x1), (2, .long x2), (4, .long x4), (6, .long x6), (8, .long x8)], [], M)
theorem e_R_leadBack_66 {d : Nat} {x0 : Nat} {x1 : Int32} {x2 : Int64} {x4 : Int64} {x6 : Int64} {x8 : Int64} {M : ZM} {r : ZR} (hk0 : zkd x0 = (13, 0)) (h : (if zin x1 8 = true then zL (zpl (zpl M x0 15 ((x6 &&& (M.2 (x0 + 3) (Int32.toNatClampNeg x1))) ||| (x2 &&& (M.2 (x0 + 1) (Int32.toNatClampNeg x1))))) x0 16 ((x8 &&& ((zpl M x0 15 ((x6 &&& (M.2 (x0 + 3) (Int32.toNatClampNeg x1))) ||| (x2 &&& (M.2 (x0 + 1) (Int32.toNatClampNeg x1))))).2 (x0 + 4) (Int32.toNatClampNeg x1))) ||| (x4 &&& ((zpl M x0 15 ((x6 &&& (M.2 (x0 + 3) (Int32.toNatClampNeg x1))) ||| (x2 &&& (M.2 (x0 + 1) (Int32.toNatClampNeg x1))))).2 (x0 + 2) (Int32.toNatClampNeg x1))))) (fun M2 => some (none, M2)) else none) = some r) : h_R_leadBack_66 d x0 x1 x2 x4 x6 x8 M = some r := by
  show zEx0 (zEv d) zmR_leadBack (66, [(0, .ref x0), (1, .int x1), (2, .long x2), (4, .long x4), (6, .long x6), (8, .long x8)], [], M) = some r
  refine y_pure (pc' := 67) (st' := [.ref x0]) rfl rfl ?_
  refine y_pure (pc' := 69) (st' := [.long x6, .ref x0]) rfl rfl ?_
  refine y_pure (pc' := 70) (st' := [.ref x0, .long x6, .ref x0]) rfl rfl ?_
  refine y_getf (pc' := 73) (v := .ref (x0 + 3)) rfl rfl rfl hk0 rfl rfl ?_
  refine y_pure (pc' := 74) (st' := [.int x1, .ref (x0 + 3), .long x6, .ref x0]) rfl rfl ?_
  obtain ⟨hi1, h⟩ := zg_inv h
  refine y_lald (pc' := 75) rfl (zf_3_6 hk0) hi1 rfl ?_
  refine y_pure (pc' := 76) (st' := [.long (x6 &&& (M.2 (x0 + 3) (Int32.toNatClampNeg x1))), .ref x0]) rfl rfl ?_
  refine y_pure (pc' := 77) (st' := [.long x2, .long (x6 &&& (M.2 (x0 + 3) (Int32.toNatClampNeg x1))), .ref x0]) rfl rfl ?_
  refine y_pure (pc' := 78) (st' := [.ref x0, .long x2, .long (x6 &&& (M.2 (x0 + 3) (Int32.toNatClampNeg x1))), .ref x0]) rfl rfl ?_
  refine y_getf (pc' := 81) (v := .ref (x0 + 1)) rfl rfl rfl hk0 rfl rfl ?_
  refine y_pure (pc' := 82) (st' := [.int x1, .ref (x0 + 1), .long x2, .long (x6 &&& (M.2 (x0 + 3) (Int32.toNatClampNeg x1))), .ref x0]) rfl rfl ?_
  refine y_lald (pc' := 83) rfl (zf_3_4 hk0) hi1 rfl ?_
  refine y_pure (pc' := 84) (st' := [.long (x2 &&& (M.2 (x0 + 1) (Int32.toNatClampNeg x1))), .long (x6 &&& (M.2 (x0 + 3) (Int32.toNatClampNeg x1))), .ref x0]) rfl rfl ?_
  refine y_pure (pc' := 85) (st' := [.long ((x6 &&& (M.2 (x0 + 3) (Int32.toNatClampNeg x1))) ||| (x2 &&& (M.2 (x0 + 1) (Int32.toNatClampNeg x1)))), .ref x0]) rfl rfl ?_
  refine y_putL (pc' := 88) rfl rfl hk0 rfl ?_
  refine y_pure (pc' := 89) (st' := [.ref x0]) rfl rfl ?_
  refine y_pure (pc' := 91) (st' := [.long x8, .ref x0]) rfl rfl ?_
  refine y_pure (pc' := 92) (st' := [.ref x0, .long x8, .ref x0]) rfl rfl ?_
  refine y_getf (pc' := 95) (v := .ref (x0 + 4)) rfl rfl rfl hk0 rfl rfl ?_
  refine y_pure (pc' := 96) (st' := [.int x1, .ref (x0 + 4), .long x8, .ref x0]) rfl rfl ?_
  refine y_lald (pc' := 97) rfl (zf_3_7 hk0) hi1 rfl ?_
  refine y_pure (pc' := 98) (st' := [.long (x8 &&& ((zpl M x0 15 ((x6 &&& (M.2 (x0 + 3) (Int32.toNatClampNeg x1))) ||| (x2 &&& (M.2 (x0 + 1) (Int32.toNatClampNeg x1))))).2 (x0 + 4) (Int32.toNatClampNeg x1))), .ref x0]) rfl rfl ?_
  refine y_pure (pc' := 100) (st' := [.long x4, .long (x8 &&& ((zpl M x0 15 ((x6 &&& (M.2 (x0 + 3) (Int32.toNatClampNeg x1))) ||| (x2 &&& (M.2 (x0 + 1) (Int32.toNatClampNeg x1))))).2 (x0 + 4) (Int32.toNatClampNeg x1))), .ref x0]) rfl rfl ?_
  refine y_pure (pc' := 101) (st' := [.ref x0, .long x4, .long (x8 &&& ((zpl M x0 15 ((x6 &&& (M.2 (x0 + 3) (Int32.toNatClampNeg x1))) ||| (x2 &&& (M.2 (x0 + 1) (Int32.toNatClampNeg x1))))).2 (x0 + 4) (Int32.toNatClampNeg x1))), .ref x0]) rfl rfl ?_
  refine y_getf (pc' := 104) (v := .ref (x0 + 2)) rfl rfl rfl hk0 rfl rfl ?_
  refine y_pure (pc' := 105) (st' := [.int x1, .ref (x0 + 2), .long x4, .long (x8 &&& ((zpl M x0 15 ((x6 &&& (M.2 (x0 + 3) (Int32.toNatClampNeg x1))) ||| (x2 &&& (M.2 (x0 + 1) (Int32.toNatClampNeg x1))))).2 (x0 + 4) (Int32.toNatClampNeg x1))), .ref x0]) rfl rfl ?_
  refine y_lald (pc' := 106) rfl (zf_3_5 hk0) hi1 rfl ?_
  refine y_pure (pc' := 107) (st' := [.long (x4 &&& ((zpl M x0 15 ((x6 &&& (M.2 (x0 + 3) (Int32.toNatClampNeg x1))) ||| (x2 &&& (M.2 (x0 + 1) (Int32.toNatClampNeg x1))))).2 (x0 + 2) (Int32.toNatClampNeg x1))), .long (x8 &&& ((zpl M x0 15 ((x6 &&& (M.2 (x0 + 3) (Int32.toNatClampNeg x1))) ||| (x2 &&& (M.2 (x0 + 1) (Int32.toNatClampNeg x1))))).2 (x0 + 4) (Int32.toNatClampNeg x1))), .ref x0]) rfl rfl ?_
  refine y_pure (pc' := 108) (st' := [.long ((x8 &&& ((zpl M x0 15 ((x6 &&& (M.2 (x0 + 3) (Int32.toNatClampNeg x1))) ||| (x2 &&& (M.2 (x0 + 1) (Int32.toNatClampNeg x1))))).2 (x0 + 4) (Int32.toNatClampNeg x1))) ||| (x4 &&& ((zpl M x0 15 ((x6 &&& (M.2 (x0 + 3) (Int32.toNatClampNeg x1))) ||| (x2 &&& (M.2 (x0 + 1) (Int32.toNatClampNeg x1))))).2 (x0 + 2) (Int32.toNatClampNeg x1)))), .ref x0]) rfl rfl ?_
  refine y_putL (pc' := 111) rfl rfl hk0 rfl ?_
  obtain ⟨M2, e3, h⟩ := zL_inv h
  refine zM_gen e3 ?_
  exact y_ret rfl rfl rfl rfl h
theorem e_R_leadBack {d : Nat} {x0 : Nat} {x1 : Int32} {x2 : Int64} {x4 : Int64} {M : ZM} {r : ZR} (hk0 : zkd x0 = (13, 0)) (h : (if zin x1 8 = true then (if (M.1 (x0 + 5) (Int32.toNatClampNeg x1)) < (nI 64) then (if (nI 0) < (M.1 (x0 + 5) (Int32.toNatClampNeg x1)) then zL (((Int64.toUInt64 x2 >>> ((Int32.toInt64 (M.1 (x0 + 5) (Int32.toNatClampNeg x1))).toUInt64 &&& Int64.toUInt64 63)).toInt64) ||| (x4 <<< (Int32.toInt64 ((nI 64) - (M.1 (x0 + 5) (Int32.toNatClampNeg x1))) &&& 63))) (fun y4 => zL ((Int64.toUInt64 x4 >>> ((Int32.toInt64 (M.1 (x0 + 5) (Int32.toNatClampNeg x1))).toUInt64 &&& Int64.toUInt64 63)).toInt64) (fun y6 => h_R_leadBack_66 d x0 x1 x2 x4 y4 y6 M)) else h_R_leadBack_66 d x0 x1 x2 x4 x2 x4 M) else zL ((Int64.toUInt64 x4 >>> ((Int32.toInt64 ((M.1 (x0 + 5) (Int32.toNatClampNeg x1)) - (nI 64))).toUInt64 &&& Int64.toUInt64 63)).toInt64) (fun y8 => h_R_leadBack_66 d x0 x1 x2 x4 y8 (nJ 0) M)) else none) = some r) : zEv (d + 1) zmR_leadBack [.ref x0, .int x1, .long x2, .long x4] M = some r := by
  rw [zEv_succ]
  show zEx0 (zEv d) zmR_leadBack (0, [(0, .ref x0), (1, .int x1), (2, .long x2), (4, .long x4)], [], M) = some r
  refine y_pure (pc' := 1) (st' := [.long x2]) rfl rfl ?_
  refine y_pure (pc' := 3) (ls' := [(0, .ref x0), (1, .int x1), (2, .long x2), (4, .long x4), (6, .long x2)]) (st' := []) rfl rfl ?_
  refine y_pure (pc' := 5) (st' := [.long x4]) rfl rfl ?_
  refine y_pure (pc' := 7) (ls' := [(0, .ref x0), (1, .int x1), (2, .long x2), (4, .long x4), (6, .long x2), (8, .long x4)]) (st' := []) rfl rfl ?_
  refine y_pure (pc' := 8) (st' := [.ref x0]) rfl rfl ?_
  refine y_getf (pc' := 11) (v := .ref (x0 + 5)) rfl rfl rfl hk0 rfl rfl ?_
  refine y_pure (pc' := 12) (st' := [.int x1, .ref (x0 + 5)]) rfl rfl ?_
  obtain ⟨hi1, h⟩ := zg_inv h
  refine y_iald (pc' := 13) rfl (zf_3_8 hk0) hi1 rfl ?_
  refine y_pure (pc' := 15) (ls' := [(0, .ref x0), (1, .int x1), (2, .long x2), (4, .long x4), (6, .long x2), (8, .long x4), (10, .int (M.1 (x0 + 5) (Int32.toNatClampNeg x1)))]) (st' := []) rfl rfl ?_
  refine y_pure (pc' := 17) (st' := [.int (M.1 (x0 + 5) (Int32.toNatClampNeg x1))]) rfl rfl ?_
  refine y_pure (pc' := 19) (st' := [.int (nI 64), .int (M.1 (x0 + 5) (Int32.toNatClampNeg x1))]) rfl rfl ?_
  rcases zif_inv h with ⟨hc2, h⟩ | ⟨hc2, h⟩
  · refine y_cmp (pc' := 38) rfl rfl (zc_ltT hc2) rfl ?_
    refine y_pure (pc' := 40) (st' := [.int (M.1 (x0 + 5) (Int32.toNatClampNeg x1))]) rfl rfl ?_
    rcases zif_inv h with ⟨hc3, h⟩ | ⟨hc3, h⟩
    · refine y_cnd (pc' := 43) rfl rfl (zc_leF hc3) rfl ?_
      refine y_pure (pc' := 45) (st' := [.long x2]) rfl rfl ?_
      refine y_pure (pc' := 47) (st' := [.int (M.1 (x0 + 5) (Int32.toNatClampNeg x1)), .long x2]) rfl rfl ?_
      refine y_pure (pc' := 48) (st' := [.long ((Int64.toUInt64 x2 >>> ((Int32.toInt64 (M.1 (x0 + 5) (Int32.toNatClampNeg x1))).toUInt64 &&& Int64.toUInt64 63)).toInt64)]) rfl rfl ?_
      refine y_pure (pc' := 50) (st' := [.long x4, .long ((Int64.toUInt64 x2 >>> ((Int32.toInt64 (M.1 (x0 + 5) (Int32.toNatClampNeg x1))).toUInt64 &&& Int64.toUInt64 63)).toInt64)]) rfl rfl ?_
      refine y_pure (pc' := 52) (st' := [.int (nI 64), .long x4, .long ((Int64.toUInt64 x2 >>> ((Int32.toInt64 (M.1 (x0 + 5) (Int32.toNatClampNeg x1))).toUInt64 &&& Int64.toUInt64 63)).toInt64)]) rfl rfl ?_
      refine y_pure (pc' := 54) (st' := [.int (M.1 (x0 + 5) (Int32.toNatClampNeg x1)), .int (nI 64), .long x4, .long ((Int64.toUInt64 x2 >>> ((Int32.toInt64 (M.1 (x0 + 5) (Int32.toNatClampNeg x1))).toUInt64 &&& Int64.toUInt64 63)).toInt64)]) rfl rfl ?_
      refine y_pure (pc' := 55) (st' := [.int ((nI 64) - (M.1 (x0 + 5) (Int32.toNatClampNeg x1))), .long x4, .long ((Int64.toUInt64 x2 >>> ((Int32.toInt64 (M.1 (x0 + 5) (Int32.toNatClampNeg x1))).toUInt64 &&& Int64.toUInt64 63)).toInt64)]) rfl rfl ?_
      refine y_pure (pc' := 56) (st' := [.long (x4 <<< (Int32.toInt64 ((nI 64) - (M.1 (x0 + 5) (Int32.toNatClampNeg x1))) &&& 63)), .long ((Int64.toUInt64 x2 >>> ((Int32.toInt64 (M.1 (x0 + 5) (Int32.toNatClampNeg x1))).toUInt64 &&& Int64.toUInt64 63)).toInt64)]) rfl rfl ?_
      refine y_pure (pc' := 57) (st' := [.long (((Int64.toUInt64 x2 >>> ((Int32.toInt64 (M.1 (x0 + 5) (Int32.toNatClampNeg x1))).toUInt64 &&& Int64.toUInt64 63)).toInt64) ||| (x4 <<< (Int32.toInt64 ((nI 64) - (M.1 (x0 + 5) (Int32.toNatClampNeg x1))) &&& 63)))]) rfl rfl ?_
      obtain ⟨y4, e5, h⟩ := zL_inv h
      refine zT_genL e5 ?_
      refine y_pure (pc' := 59) (ls' := [(0, .ref x0), (1, .int x1), (2, .long x2), (4, .long x4), (6, .long y4), (8, .long x4), (10, .int (M.1 (x0 + 5) (Int32.toNatClampNeg x1)))]) (st' := []) rfl rfl ?_
      refine y_pure (pc' := 61) (st' := [.long x4]) rfl rfl ?_
      refine y_pure (pc' := 63) (st' := [.int (M.1 (x0 + 5) (Int32.toNatClampNeg x1)), .long x4]) rfl rfl ?_
      refine y_pure (pc' := 64) (st' := [.long ((Int64.toUInt64 x4 >>> ((Int32.toInt64 (M.1 (x0 + 5) (Int32.toNatClampNeg x1))).toUInt64 &&& Int64.toUInt64 63)).toInt64)]) rfl rfl ?_
      obtain ⟨y6, e7, h⟩ := zL_inv h
      refine zT_genL e7 ?_
      refine y_pure (pc' := 66) (ls' := [(0, .ref x0), (1, .int x1), (2, .long x2), (4, .long x4), (6, .long y4), (8, .long y6), (10, .int (M.1 (x0 + 5) (Int32.toNatClampNeg x1)))]) (st' := []) rfl rfl ?_
      refine zEx_sub ?_ h
      exact ⟨rfl, rfl, rfl, rfl, rfl, rfl, trivial⟩
    · refine y_cnd (pc' := 66) rfl rfl (zc_leT hc3) rfl ?_
      refine zEx_sub ?_ h
      exact ⟨rfl, rfl, rfl, rfl, rfl, rfl, trivial⟩
  · refine y_cmp (pc' := 22) rfl rfl (zc_ltF hc2) rfl ?_
    refine y_pure (pc' := 24) (st' := [.long x4]) rfl rfl ?_
    refine y_pure (pc' := 26) (st' := [.int (M.1 (x0 + 5) (Int32.toNatClampNeg x1)), .long x4]) rfl rfl ?_
    refine y_pure (pc' := 28) (st' := [.int (nI 64), .int (M.1 (x0 + 5) (Int32.toNatClampNeg x1)), .long x4]) rfl rfl ?_
    refine y_pure (pc' := 29) (st' := [.int ((M.1 (x0 + 5) (Int32.toNatClampNeg x1)) - (nI 64)), .long x4]) rfl rfl ?_
    refine y_pure (pc' := 30) (st' := [.long ((Int64.toUInt64 x4 >>> ((Int32.toInt64 ((M.1 (x0 + 5) (Int32.toNatClampNeg x1)) - (nI 64))).toUInt64 &&& Int64.toUInt64 63)).toInt64)]) rfl rfl ?_
    obtain ⟨y8, e9, h⟩ := zL_inv h
    refine zT_genL e9 ?_
    refine y_pure (pc' := 32) (ls' := [(0, .ref x0), (1, .int x1), (2, .long x2), (4, .long x4), (6, .long y8), (8, .long x4), (10, .int (M.1 (x0 + 5) (Int32.toNatClampNeg x1)))]) (st' := []) rfl rfl ?_
    refine y_pure (pc' := 33) (st' := [.long (nJ 0)]) rfl rfl ?_
    refine y_pure (pc' := 35) (ls' := [(0, .ref x0), (1, .int x1), (2, .long x2), (4, .long x4), (6, .long y8), (8, .long (nJ 0)), (10, .int (M.1 (x0 + 5) (Int32.toNatClampNeg x1)))]) (st' := []) rfl rfl ?_
    refine y_pure (pc' := 66) rfl rfl ?_
    refine zEx_sub ?_ h
    exact ⟨rfl, rfl, rfl, rfl, rfl, rfl, trivial⟩
noncomputable def h_R_weigh_16 (d : Nat) (x0 : Nat) (x1 : Nat) (x2 : Nat) (x3 : Int32) (M : ZM) : Option ZR := zEx0 (zEv d) zmR_weigh (16, [(0, .ref x0), (1, .ref x1), (2, .ref x2), (3, .int x3)], [], M)
noncomputable def h_R_weigh_60 (d : Nat) (x0 : Nat) (x1 : Nat) (x2 : Nat) (x3 : Int32) (x4 : Int32) (x5 : Int32) (M : ZM) : Option ZR := zEx0 (zEv d) zmR_weigh (60, [(0, .ref x0), (1, .ref x1), (2, .ref x2), (3, .int x3), (4, .int x4), (5, .int x5)], [], M)
noncomputable def h_R_weigh_176 (d : Nat) (x0 : Nat) (x1 : Nat) (x2 : Nat) (x3 : Int32) (M : ZM) : Option ZR := zEx0 (zEv d) zmR_weigh (176, [(0, .ref x0), (1, .ref x1), (2, .ref x2), (3, .int x3)], [], M)
noncomputable def h_R_weigh_206 (d : Nat) (x0 : Nat) (x1 : Nat) (x2 : Nat) (x3 : Int32) (x4 : Int32) (x5 : Int32) (M : ZM) : Option ZR := zEx0 (zEv d) zmR_weigh (206, [(0, .ref x0), (1, .ref x1), (2, .ref x2), (3, .int x3), (4, .int x4), (5, .int x5)], [], M)
theorem e_R_weigh_16 {d : Nat} {x0 : Nat} {x1 : Nat} {x2 : Nat} {x3 : Int32} {M : ZM} {r : ZR} (hk0 : zkd x0 = (13, 0)) (hk1 : zkd x1 = (1, 36)) (hk2 : zkd x2 = (1, 6)) (h : (if x3 < (M.1 x0 3) then (if x3 < (nI 6) then (if zin x3 6 = true then zC1 (zEv d zmR_marksAt [.ref x1, .int (M.1 x2 (Int32.toNatClampNeg x3))] M) (fun v6 M5 => (if zin (x3 + (nI 1)) 7 = true then h_R_weigh_60 d x0 x1 x2 x3 v6 (nI 1) (zpl (zpl M5 (x0 + 6) (Int32.toNatClampNeg (x3 + (nI 1))) (nJ 0)) (x0 + 7) (Int32.toNatClampNeg (x3 + (nI 1))) (nJ 0)) else none)) else none) else (if zin (M.1 x0 3) 7 = true then (if zin ((zpl M (x0 + 8) (Int32.toNatClampNeg (M.1 x0 3)) (M.2 x0 9)).1 x0 3) 7 = true then zL (zpl (zpl M (x0 + 8) (Int32.toNatClampNeg (M.1 x0 3)) (M.2 x0 9)) (x0 + 9) (Int32.toNatClampNeg ((zpl M (x0 + 8) (Int32.toNatClampNeg (M.1 x0 3)) (M.2 x0 9)).1 x0 3)) ((zpl M (x0 + 8) (Int32.toNatClampNeg (M.1 x0 3)) (M.2 x0 9)).2 x0 10)) (fun M10 => zC1 (zEv d zmJM_min [.int (M10.1 x0 3), .int (nI 6)] M10) (fun v14 M13 => h_R_weigh_176 d x0 x1 x2 (v14 - (nI 1)) M13)) else none) else none)) else (if zin (M.1 x0 3) 7 = true then (if zin ((zpl M (x0 + 8) (Int32.toNatClampNeg (M.1 x0 3)) (M.2 x0 9)).1 x0 3) 7 = true then zL (zpl (zpl M (x0 + 8) (Int32.toNatClampNeg (M.1 x0 3)) (M.2 x0 9)) (x0 + 9) (Int32.toNatClampNeg ((zpl M (x0 + 8) (Int32.toNatClampNeg (M.1 x0 3)) (M.2 x0 9)).1 x0 3)) ((zpl M (x0 + 8) (Int32.toNatClampNeg (M.1 x0 3)) (M.2 x0 9)).2 x0 10)) (fun M17 => zC1 (zEv d zmJM_min [.int (M17.1 x0 3), .int (nI 6)] M17) (fun v21 M20 => h_R_weigh_176 d x0 x1 x2 (v21 - (nI 1)) M20)) else none) else none)) = some r) : h_R_weigh_16 d x0 x1 x2 x3 M = some r := by
  show zEx0 (zEv d) zmR_weigh (16, [(0, .ref x0), (1, .ref x1), (2, .ref x2), (3, .int x3)], [], M) = some r
  refine y_pure (pc' := 17) (st' := [.int x3]) rfl rfl ?_
  refine y_pure (pc' := 18) (st' := [.ref x0, .int x3]) rfl rfl ?_
  refine y_getf (pc' := 21) (v := .int (M.1 x0 3)) rfl rfl rfl hk0 rfl rfl ?_
  rcases zif_inv h with ⟨hc1, h⟩ | ⟨hc1, h⟩
  · refine y_cmp (pc' := 24) rfl rfl (zc_geF hc1) rfl ?_
    refine y_pure (pc' := 25) (st' := [.int x3]) rfl rfl ?_
    refine y_pure (pc' := 26) (st' := [.ref x2, .int x3]) rfl rfl ?_
    refine y_alen (pc' := 27) rfl hk2 (by decide) rfl rfl ?_
    rcases zif_inv h with ⟨hc2, h⟩ | ⟨hc2, h⟩
    · refine y_cmp (pc' := 30) rfl rfl (zc_geF hc2) rfl ?_
      refine y_pure (pc' := 31) (st' := [.ref x1]) rfl rfl ?_
      refine y_pure (pc' := 32) (st' := [.ref x2, .ref x1]) rfl rfl ?_
      refine y_pure (pc' := 33) (st' := [.int x3, .ref x2, .ref x1]) rfl rfl ?_
      obtain ⟨hi3, h⟩ := zg_inv h
      refine y_iald (pc' := 34) rfl hk2 hi3 rfl ?_
      obtain ⟨v6, M5, he4, h⟩ := zC1_inv h
      refine y_callS (pc' := 37) (y := zmR_marksAt) (a := [.ref x1, .int (M.1 x2 (Int32.toNatClampNeg x3))]) (st' := []) rfl rfl rfl rfl rfl rfl he4 rfl rfl ?_
      refine y_pure (pc' := 39) (ls' := [(0, .ref x0), (1, .ref x1), (2, .ref x2), (3, .int x3), (4, .int v6)]) (st' := []) rfl rfl ?_
      refine y_pure (pc' := 40) (st' := [.ref x0]) rfl rfl ?_
      refine y_getf (pc' := 43) (v := .ref (x0 + 6)) rfl rfl rfl hk0 rfl rfl ?_
      refine y_pure (pc' := 44) (st' := [.int x3, .ref (x0 + 6)]) rfl rfl ?_
      refine y_pure (pc' := 45) (st' := [.int (nI 1), .int x3, .ref (x0 + 6)]) rfl rfl ?_
      refine y_pure (pc' := 46) (st' := [.int (x3 + (nI 1)), .ref (x0 + 6)]) rfl rfl ?_
      refine y_pure (pc' := 47) (st' := [.long (nJ 0), .int (x3 + (nI 1)), .ref (x0 + 6)]) rfl rfl ?_
      obtain ⟨hi7, h⟩ := zg_inv h
      refine y_last (pc' := 48) rfl (zf_3_11 hk0) hi7 rfl ?_
      refine y_pure (pc' := 49) (st' := [.ref x0]) rfl rfl ?_
      refine y_getf (pc' := 52) (v := .ref (x0 + 7)) rfl rfl rfl hk0 rfl rfl ?_
      refine y_pure (pc' := 53) (st' := [.int x3, .ref (x0 + 7)]) rfl rfl ?_
      refine y_pure (pc' := 54) (st' := [.int (nI 1), .int x3, .ref (x0 + 7)]) rfl rfl ?_
      refine y_pure (pc' := 55) (st' := [.int (x3 + (nI 1)), .ref (x0 + 7)]) rfl rfl ?_
      refine y_pure (pc' := 56) (st' := [.long (nJ 0), .int (x3 + (nI 1)), .ref (x0 + 7)]) rfl rfl ?_
      refine y_last (pc' := 57) rfl (zf_3_12 hk0) hi7 rfl ?_
      refine y_pure (pc' := 58) (st' := [.int (nI 1)]) rfl rfl ?_
      refine y_pure (pc' := 60) (ls' := [(0, .ref x0), (1, .ref x1), (2, .ref x2), (3, .int x3), (4, .int v6), (5, .int (nI 1))]) (st' := []) rfl rfl ?_
      refine zEx_sub ?_ h
      exact ⟨rfl, rfl, rfl, rfl, rfl, rfl, trivial⟩
    · refine y_cmp (pc' := 138) rfl rfl (zc_geT hc2) rfl ?_
      refine y_pure (pc' := 139) (st' := [.ref x0]) rfl rfl ?_
      refine y_getf (pc' := 142) (v := .ref (x0 + 8)) rfl rfl rfl hk0 rfl rfl ?_
      refine y_pure (pc' := 143) (st' := [.ref x0, .ref (x0 + 8)]) rfl rfl ?_
      refine y_getf (pc' := 146) (v := .int (M.1 x0 3)) rfl rfl rfl hk0 rfl rfl ?_
      refine y_pure (pc' := 147) (st' := [.ref x0, .int (M.1 x0 3), .ref (x0 + 8)]) rfl rfl ?_
      refine y_getf (pc' := 150) (v := .long (M.2 x0 9)) rfl rfl rfl hk0 rfl rfl ?_
      obtain ⟨hi8, h⟩ := zg_inv h
      refine y_last (pc' := 151) rfl (zf_3_13 hk0) hi8 rfl ?_
      refine y_pure (pc' := 152) (st' := [.ref x0]) rfl rfl ?_
      refine y_getf (pc' := 155) (v := .ref (x0 + 9)) rfl rfl rfl hk0 rfl rfl ?_
      refine y_pure (pc' := 156) (st' := [.ref x0, .ref (x0 + 9)]) rfl rfl ?_
      refine y_getf (pc' := 159) (v := .int ((zpl M (x0 + 8) (Int32.toNatClampNeg (M.1 x0 3)) (M.2 x0 9)).1 x0 3)) rfl rfl rfl hk0 rfl rfl ?_
      refine y_pure (pc' := 160) (st' := [.ref x0, .int ((zpl M (x0 + 8) (Int32.toNatClampNeg (M.1 x0 3)) (M.2 x0 9)).1 x0 3), .ref (x0 + 9)]) rfl rfl ?_
      refine y_getf (pc' := 163) (v := .long ((zpl M (x0 + 8) (Int32.toNatClampNeg (M.1 x0 3)) (M.2 x0 9)).2 x0 10)) rfl rfl rfl hk0 rfl rfl ?_
      obtain ⟨hi9, h⟩ := zg_inv h
      refine y_last (pc' := 164) rfl (zf_3_14 hk0) hi9 rfl ?_
      obtain ⟨M10, e11, h⟩ := zL_inv h
      refine zM_gen e11 ?_
      refine y_pure (pc' := 165) (st' := [.ref x0]) rfl rfl ?_
      refine y_getf (pc' := 168) (v := .int (M10.1 x0 3)) rfl rfl rfl hk0 rfl rfl ?_
      refine y_pure (pc' := 169) (st' := [.ref x2, .int (M10.1 x0 3)]) rfl rfl ?_
      refine y_alen (pc' := 170) rfl hk2 (by decide) rfl rfl ?_
      obtain ⟨v14, M13, he12, h⟩ := zC1_inv h
      refine y_callS (pc' := 173) (y := zmJM_min) (a := [.int (M10.1 x0 3), .int (nI 6)]) (st' := []) rfl rfl rfl rfl rfl rfl he12 rfl rfl ?_
      refine y_pure (pc' := 174) (st' := [.int (nI 1), .int v14]) rfl rfl ?_
      refine y_pure (pc' := 175) (st' := [.int (v14 - (nI 1))]) rfl rfl ?_
      refine y_pure (pc' := 176) (ls' := [(0, .ref x0), (1, .ref x1), (2, .ref x2), (3, .int (v14 - (nI 1)))]) (st' := []) rfl rfl ?_
      refine zEx_sub ?_ h
      exact ⟨rfl, rfl, rfl, rfl, trivial⟩
  · refine y_cmp (pc' := 138) rfl rfl (zc_geT hc1) rfl ?_
    refine y_pure (pc' := 139) (st' := [.ref x0]) rfl rfl ?_
    refine y_getf (pc' := 142) (v := .ref (x0 + 8)) rfl rfl rfl hk0 rfl rfl ?_
    refine y_pure (pc' := 143) (st' := [.ref x0, .ref (x0 + 8)]) rfl rfl ?_
    refine y_getf (pc' := 146) (v := .int (M.1 x0 3)) rfl rfl rfl hk0 rfl rfl ?_
    refine y_pure (pc' := 147) (st' := [.ref x0, .int (M.1 x0 3), .ref (x0 + 8)]) rfl rfl ?_
    refine y_getf (pc' := 150) (v := .long (M.2 x0 9)) rfl rfl rfl hk0 rfl rfl ?_
    obtain ⟨hi15, h⟩ := zg_inv h
    refine y_last (pc' := 151) rfl (zf_3_13 hk0) hi15 rfl ?_
    refine y_pure (pc' := 152) (st' := [.ref x0]) rfl rfl ?_
    refine y_getf (pc' := 155) (v := .ref (x0 + 9)) rfl rfl rfl hk0 rfl rfl ?_
    refine y_pure (pc' := 156) (st' := [.ref x0, .ref (x0 + 9)]) rfl rfl ?_
    refine y_getf (pc' := 159) (v := .int ((zpl M (x0 + 8) (Int32.toNatClampNeg (M.1 x0 3)) (M.2 x0 9)).1 x0 3)) rfl rfl rfl hk0 rfl rfl ?_
    refine y_pure (pc' := 160) (st' := [.ref x0, .int ((zpl M (x0 + 8) (Int32.toNatClampNeg (M.1 x0 3)) (M.2 x0 9)).1 x0 3), .ref (x0 + 9)]) rfl rfl ?_
    refine y_getf (pc' := 163) (v := .long ((zpl M (x0 + 8) (Int32.toNatClampNeg (M.1 x0 3)) (M.2 x0 9)).2 x0 10)) rfl rfl rfl hk0 rfl rfl ?_
    obtain ⟨hi16, h⟩ := zg_inv h
    refine y_last (pc' := 164) rfl (zf_3_14 hk0) hi16 rfl ?_
    obtain ⟨M17, e18, h⟩ := zL_inv h
    refine zM_gen e18 ?_
    refine y_pure (pc' := 165) (st' := [.ref x0]) rfl rfl ?_
    refine y_getf (pc' := 168) (v := .int (M17.1 x0 3)) rfl rfl rfl hk0 rfl rfl ?_
    refine y_pure (pc' := 169) (st' := [.ref x2, .int (M17.1 x0 3)]) rfl rfl ?_
    refine y_alen (pc' := 170) rfl hk2 (by decide) rfl rfl ?_
    obtain ⟨v21, M20, he19, h⟩ := zC1_inv h
    refine y_callS (pc' := 173) (y := zmJM_min) (a := [.int (M17.1 x0 3), .int (nI 6)]) (st' := []) rfl rfl rfl rfl rfl rfl he19 rfl rfl ?_
    refine y_pure (pc' := 174) (st' := [.int (nI 1), .int v21]) rfl rfl ?_
    refine y_pure (pc' := 175) (st' := [.int (v21 - (nI 1))]) rfl rfl ?_
    refine y_pure (pc' := 176) (ls' := [(0, .ref x0), (1, .ref x1), (2, .ref x2), (3, .int (v21 - (nI 1)))]) (st' := []) rfl rfl ?_
    refine zEx_sub ?_ h
    exact ⟨rfl, rfl, rfl, rfl, trivial⟩
theorem e_R_weigh_60 {d : Nat} {x0 : Nat} {x1 : Nat} {x2 : Nat} {x3 : Int32} {x4 : Int32} {x5 : Int32} {M : ZM} {r : ZR} (hk0 : zkd x0 = (13, 0)) (hk1 : zkd x1 = (1, 36)) (hk2 : zkd x2 = (1, 6)) (h : (if (nI 7) < x5 then h_R_weigh_16 d x0 x1 x2 (x3 + (nI 1)) M else (if ((x4 >>> (x5 &&& 31)) &&& (nI 1)) = (nI 1) then (if zin x3 7 = true then zC0 (zEv d zmR_leadOn [.ref x0, .int x5, .long (M.2 (x0 + 6) (Int32.toNatClampNeg x3)), .long (M.2 (x0 + 7) (Int32.toNatClampNeg x3))] M) (fun M5 => (if zin (x3 + (nI 1)) 7 = true then zL (zpl (zpl M5 (x0 + 6) (Int32.toNatClampNeg (x3 + (nI 1))) ((M5.2 (x0 + 6) (Int32.toNatClampNeg (x3 + (nI 1)))) ||| (M5.2 x0 15))) (x0 + 7) (Int32.toNatClampNeg (x3 + (nI 1))) (((zpl M5 (x0 + 6) (Int32.toNatClampNeg (x3 + (nI 1))) ((M5.2 (x0 + 6) (Int32.toNatClampNeg (x3 + (nI 1)))) ||| (M5.2 x0 15))).2 (x0 + 7) (Int32.toNatClampNeg (x3 + (nI 1)))) ||| ((zpl M5 (x0 + 6) (Int32.toNatClampNeg (x3 + (nI 1))) ((M5.2 (x0 + 6) (Int32.toNatClampNeg (x3 + (nI 1)))) ||| (M5.2 x0 15))).2 x0 16))) (fun M7 => h_R_weigh_60 d x0 x1 x2 x3 x4 (x5 + (nI 1)) M7) else none)) else none) else h_R_weigh_60 d x0 x1 x2 x3 x4 (x5 + (nI 1)) M)) = some r) : h_R_weigh_60 d x0 x1 x2 x3 x4 x5 M = some r := by
  show zEx0 (zEv d) zmR_weigh (60, [(0, .ref x0), (1, .ref x1), (2, .ref x2), (3, .int x3), (4, .int x4), (5, .int x5)], [], M) = some r
  refine y_pure (pc' := 62) (st' := [.int x5]) rfl rfl ?_
  refine y_pure (pc' := 64) (st' := [.int (nI 7), .int x5]) rfl rfl ?_
  rcases zif_inv h with ⟨hc1, h⟩ | ⟨hc1, h⟩
  · refine y_cmp (pc' := 132) rfl rfl (zc_gtT hc1) rfl ?_
    refine y_pure (pc' := 135) (ls' := [(0, .ref x0), (1, .ref x1), (2, .ref x2), (3, .int (x3 + (nI 1))), (4, .int x4), (5, .int x5)]) (st' := []) rfl rfl ?_
    refine y_pure (pc' := 16) rfl rfl ?_
    refine zEx_sub ?_ h
    exact ⟨rfl, rfl, rfl, rfl, trivial⟩
  · refine y_cmp (pc' := 67) rfl rfl (zc_gtF hc1) rfl ?_
    refine y_pure (pc' := 69) (st' := [.int x4]) rfl rfl ?_
    refine y_pure (pc' := 71) (st' := [.int x5, .int x4]) rfl rfl ?_
    refine y_pure (pc' := 72) (st' := [.int (x4 >>> (x5 &&& 31))]) rfl rfl ?_
    refine y_pure (pc' := 73) (st' := [.int (nI 1), .int (x4 >>> (x5 &&& 31))]) rfl rfl ?_
    refine y_pure (pc' := 74) (st' := [.int ((x4 >>> (x5 &&& 31)) &&& (nI 1))]) rfl rfl ?_
    refine y_pure (pc' := 75) (st' := [.int (nI 1), .int ((x4 >>> (x5 &&& 31)) &&& (nI 1))]) rfl rfl ?_
    rcases zif_inv h with ⟨hc2, h⟩ | ⟨hc2, h⟩
    · refine y_cmp (pc' := 78) rfl rfl (zc_neF hc2) rfl ?_
      refine y_pure (pc' := 79) (st' := [.ref x0]) rfl rfl ?_
      refine y_pure (pc' := 81) (st' := [.int x5, .ref x0]) rfl rfl ?_
      refine y_pure (pc' := 82) (st' := [.ref x0, .int x5, .ref x0]) rfl rfl ?_
      refine y_getf (pc' := 85) (v := .ref (x0 + 6)) rfl rfl rfl hk0 rfl rfl ?_
      refine y_pure (pc' := 86) (st' := [.int x3, .ref (x0 + 6), .int x5, .ref x0]) rfl rfl ?_
      obtain ⟨hi3, h⟩ := zg_inv h
      refine y_lald (pc' := 87) rfl (zf_3_11 hk0) hi3 rfl ?_
      refine y_pure (pc' := 88) (st' := [.ref x0, .long (M.2 (x0 + 6) (Int32.toNatClampNeg x3)), .int x5, .ref x0]) rfl rfl ?_
      refine y_getf (pc' := 91) (v := .ref (x0 + 7)) rfl rfl rfl hk0 rfl rfl ?_
      refine y_pure (pc' := 92) (st' := [.int x3, .ref (x0 + 7), .long (M.2 (x0 + 6) (Int32.toNatClampNeg x3)), .int x5, .ref x0]) rfl rfl ?_
      refine y_lald (pc' := 93) rfl (zf_3_12 hk0) hi3 rfl ?_
      obtain ⟨M5, he4, h⟩ := zC0_inv h
      refine y_callV (pc' := 96) (y := zmR_leadOn) (a' := [.int x5, .long (M.2 (x0 + 6) (Int32.toNatClampNeg x3)), .long (M.2 (x0 + 7) (Int32.toNatClampNeg x3))]) (st' := []) rfl rfl rfl rfl rfl (zrecv_o (o := 3) hk0 rfl) rfl he4 rfl rfl ?_
      refine y_pure (pc' := 97) (st' := [.ref x0]) rfl rfl ?_
      refine y_getf (pc' := 100) (v := .ref (x0 + 6)) rfl rfl rfl hk0 rfl rfl ?_
      refine y_pure (pc' := 101) (st' := [.int x3, .ref (x0 + 6)]) rfl rfl ?_
      refine y_pure (pc' := 102) (st' := [.int (nI 1), .int x3, .ref (x0 + 6)]) rfl rfl ?_
      refine y_pure (pc' := 103) (st' := [.int (x3 + (nI 1)), .ref (x0 + 6)]) rfl rfl ?_
      refine y_pure (pc' := 104) (st' := [.int (x3 + (nI 1)), .ref (x0 + 6), .int (x3 + (nI 1)), .ref (x0 + 6)]) rfl rfl ?_
      obtain ⟨hi6, h⟩ := zg_inv h
      refine y_lald (pc' := 105) rfl (zf_3_11 hk0) hi6 rfl ?_
      refine y_pure (pc' := 106) (st' := [.ref x0, .long (M5.2 (x0 + 6) (Int32.toNatClampNeg (x3 + (nI 1)))), .int (x3 + (nI 1)), .ref (x0 + 6)]) rfl rfl ?_
      refine y_getf (pc' := 109) (v := .long (M5.2 x0 15)) rfl rfl rfl hk0 rfl rfl ?_
      refine y_pure (pc' := 110) (st' := [.long ((M5.2 (x0 + 6) (Int32.toNatClampNeg (x3 + (nI 1)))) ||| (M5.2 x0 15)), .int (x3 + (nI 1)), .ref (x0 + 6)]) rfl rfl ?_
      refine y_last (pc' := 111) rfl (zf_3_11 hk0) hi6 rfl ?_
      refine y_pure (pc' := 112) (st' := [.ref x0]) rfl rfl ?_
      refine y_getf (pc' := 115) (v := .ref (x0 + 7)) rfl rfl rfl hk0 rfl rfl ?_
      refine y_pure (pc' := 116) (st' := [.int x3, .ref (x0 + 7)]) rfl rfl ?_
      refine y_pure (pc' := 117) (st' := [.int (nI 1), .int x3, .ref (x0 + 7)]) rfl rfl ?_
      refine y_pure (pc' := 118) (st' := [.int (x3 + (nI 1)), .ref (x0 + 7)]) rfl rfl ?_
      refine y_pure (pc' := 119) (st' := [.int (x3 + (nI 1)), .ref (x0 + 7), .int (x3 + (nI 1)), .ref (x0 + 7)]) rfl rfl ?_
      refine y_lald (pc' := 120) rfl (zf_3_12 hk0) hi6 rfl ?_
      refine y_pure (pc' := 121) (st' := [.ref x0, .long ((zpl M5 (x0 + 6) (Int32.toNatClampNeg (x3 + (nI 1))) ((M5.2 (x0 + 6) (Int32.toNatClampNeg (x3 + (nI 1)))) ||| (M5.2 x0 15))).2 (x0 + 7) (Int32.toNatClampNeg (x3 + (nI 1)))), .int (x3 + (nI 1)), .ref (x0 + 7)]) rfl rfl ?_
      refine y_getf (pc' := 124) (v := .long ((zpl M5 (x0 + 6) (Int32.toNatClampNeg (x3 + (nI 1))) ((M5.2 (x0 + 6) (Int32.toNatClampNeg (x3 + (nI 1)))) ||| (M5.2 x0 15))).2 x0 16)) rfl rfl rfl hk0 rfl rfl ?_
      refine y_pure (pc' := 125) (st' := [.long (((zpl M5 (x0 + 6) (Int32.toNatClampNeg (x3 + (nI 1))) ((M5.2 (x0 + 6) (Int32.toNatClampNeg (x3 + (nI 1)))) ||| (M5.2 x0 15))).2 (x0 + 7) (Int32.toNatClampNeg (x3 + (nI 1)))) ||| ((zpl M5 (x0 + 6) (Int32.toNatClampNeg (x3 + (nI 1))) ((M5.2 (x0 + 6) (Int32.toNatClampNeg (x3 + (nI 1)))) ||| (M5.2 x0 15))).2 x0 16)), .int (x3 + (nI 1)), .ref (x0 + 7)]) rfl rfl ?_
      refine y_last (pc' := 126) rfl (zf_3_12 hk0) hi6 rfl ?_
      obtain ⟨M7, e8, h⟩ := zL_inv h
      refine zM_gen e8 ?_
      refine y_pure (pc' := 129) (ls' := [(0, .ref x0), (1, .ref x1), (2, .ref x2), (3, .int x3), (4, .int x4), (5, .int (x5 + (nI 1)))]) (st' := []) rfl rfl ?_
      refine y_pure (pc' := 60) rfl rfl ?_
      refine zEx_sub ?_ h
      exact ⟨rfl, rfl, rfl, rfl, rfl, rfl, trivial⟩
    · refine y_cmp (pc' := 126) rfl rfl (zc_neT hc2) rfl ?_
      refine y_pure (pc' := 129) (ls' := [(0, .ref x0), (1, .ref x1), (2, .ref x2), (3, .int x3), (4, .int x4), (5, .int (x5 + (nI 1)))]) (st' := []) rfl rfl ?_
      refine y_pure (pc' := 60) rfl rfl ?_
      refine zEx_sub ?_ h
      exact ⟨rfl, rfl, rfl, rfl, rfl, rfl, trivial⟩
theorem e_R_weigh_176 {d : Nat} {x0 : Nat} {x1 : Nat} {x2 : Nat} {x3 : Int32} {M : ZM} {r : ZR} (hk0 : zkd x0 = (13, 0)) (hk1 : zkd x1 = (1, 36)) (hk2 : zkd x2 = (1, 6)) (h : (if x3 < (nI 0) then (if (lg_cmp ((M.2 (x0 + 8) 0) &&& (nJ 1)) (nJ 1)) = (nI 0) then some (some (.int (nI 1)), M) else some (some (.int (nI 0)), M)) else (if zin x3 6 = true then zC1 (zEv d zmR_marksAt [.ref x1, .int (M.1 x2 (Int32.toNatClampNeg x3))] M) (fun v6 M5 => (if zin x3 7 = true then h_R_weigh_206 d x0 x1 x2 x3 v6 (nI 1) (zpl (zpl M5 (x0 + 8) (Int32.toNatClampNeg x3) (nJ 0)) (x0 + 9) (Int32.toNatClampNeg x3) (nJ 0)) else none)) else none)) = some r) : h_R_weigh_176 d x0 x1 x2 x3 M = some r := by
  show zEx0 (zEv d) zmR_weigh (176, [(0, .ref x0), (1, .ref x1), (2, .ref x2), (3, .int x3)], [], M) = some r
  refine y_pure (pc' := 177) (st' := [.int x3]) rfl rfl ?_
  rcases zif_inv h with ⟨hc1, h⟩ | ⟨hc1, h⟩
  · refine y_cnd (pc' := 284) rfl rfl (zc_ltT hc1) rfl ?_
    refine y_pure (pc' := 285) (st' := [.ref x0]) rfl rfl ?_
    refine y_getf (pc' := 288) (v := .ref (x0 + 8)) rfl rfl rfl hk0 rfl rfl ?_
    refine y_pure (pc' := 289) (st' := [.int (nI 0), .ref (x0 + 8)]) rfl rfl ?_
    refine y_lald (pc' := 290) rfl (zf_3_13 hk0) (by decide) rfl ?_
    refine y_pure (pc' := 291) (st' := [.long (nJ 1), .long (M.2 (x0 + 8) 0)]) rfl rfl ?_
    refine y_pure (pc' := 292) (st' := [.long ((M.2 (x0 + 8) 0) &&& (nJ 1))]) rfl rfl ?_
    refine y_pure (pc' := 293) (st' := [.long (nJ 1), .long ((M.2 (x0 + 8) 0) &&& (nJ 1))]) rfl rfl ?_
    refine y_pure (pc' := 294) (st' := [.int (lg_cmp ((M.2 (x0 + 8) 0) &&& (nJ 1)) (nJ 1))]) rfl rfl ?_
    rcases zif_inv h with ⟨hc2, h⟩ | ⟨hc2, h⟩
    · refine y_cnd (pc' := 297) rfl rfl (zc_neF hc2) rfl ?_
      refine y_pure (pc' := 298) (st' := [.int (nI 1)]) rfl rfl ?_
      refine y_pure (pc' := 302) rfl rfl ?_
      exact y_retZ rfl rfl (by decide) h
    · refine y_cnd (pc' := 301) rfl rfl (zc_neT hc2) rfl ?_
      refine y_pure (pc' := 302) (st' := [.int (nI 0)]) rfl rfl ?_
      exact y_retZ rfl rfl (by decide) h
  · refine y_cnd (pc' := 180) rfl rfl (zc_ltF hc1) rfl ?_
    refine y_pure (pc' := 181) (st' := [.ref x1]) rfl rfl ?_
    refine y_pure (pc' := 182) (st' := [.ref x2, .ref x1]) rfl rfl ?_
    refine y_pure (pc' := 183) (st' := [.int x3, .ref x2, .ref x1]) rfl rfl ?_
    obtain ⟨hi3, h⟩ := zg_inv h
    refine y_iald (pc' := 184) rfl hk2 hi3 rfl ?_
    obtain ⟨v6, M5, he4, h⟩ := zC1_inv h
    refine y_callS (pc' := 187) (y := zmR_marksAt) (a := [.ref x1, .int (M.1 x2 (Int32.toNatClampNeg x3))]) (st' := []) rfl rfl rfl rfl rfl rfl he4 rfl rfl ?_
    refine y_pure (pc' := 189) (ls' := [(0, .ref x0), (1, .ref x1), (2, .ref x2), (3, .int x3), (4, .int v6)]) (st' := []) rfl rfl ?_
    refine y_pure (pc' := 190) (st' := [.ref x0]) rfl rfl ?_
    refine y_getf (pc' := 193) (v := .ref (x0 + 8)) rfl rfl rfl hk0 rfl rfl ?_
    refine y_pure (pc' := 194) (st' := [.int x3, .ref (x0 + 8)]) rfl rfl ?_
    refine y_pure (pc' := 195) (st' := [.long (nJ 0), .int x3, .ref (x0 + 8)]) rfl rfl ?_
    obtain ⟨hi7, h⟩ := zg_inv h
    refine y_last (pc' := 196) rfl (zf_3_13 hk0) hi7 rfl ?_
    refine y_pure (pc' := 197) (st' := [.ref x0]) rfl rfl ?_
    refine y_getf (pc' := 200) (v := .ref (x0 + 9)) rfl rfl rfl hk0 rfl rfl ?_
    refine y_pure (pc' := 201) (st' := [.int x3, .ref (x0 + 9)]) rfl rfl ?_
    refine y_pure (pc' := 202) (st' := [.long (nJ 0), .int x3, .ref (x0 + 9)]) rfl rfl ?_
    refine y_last (pc' := 203) rfl (zf_3_14 hk0) hi7 rfl ?_
    refine y_pure (pc' := 204) (st' := [.int (nI 1)]) rfl rfl ?_
    refine y_pure (pc' := 206) (ls' := [(0, .ref x0), (1, .ref x1), (2, .ref x2), (3, .int x3), (4, .int v6), (5, .int (nI 1))]) (st' := []) rfl rfl ?_
    refine zEx_sub ?_ h
    exact ⟨rfl, rfl, rfl, rfl, rfl, rfl, trivial⟩
theorem e_R_weigh_206 {d : Nat} {x0 : Nat} {x1 : Nat} {x2 : Nat} {x3 : Int32} {x4 : Int32} {x5 : Int32} {M : ZM} {r : ZR} (hk0 : zkd x0 = (13, 0)) (hk1 : zkd x1 = (1, 36)) (hk2 : zkd x2 = (1, 6)) (h : (if (nI 7) < x5 then h_R_weigh_176 d x0 x1 x2 (x3 + (-1 : Int32)) M else (if ((x4 >>> (x5 &&& 31)) &&& (nI 1)) = (nI 1) then (if zin (x3 + (nI 1)) 7 = true then zC0 (zEv d zmR_leadBack [.ref x0, .int x5, .long (M.2 (x0 + 8) (Int32.toNatClampNeg (x3 + (nI 1)))), .long (M.2 (x0 + 9) (Int32.toNatClampNeg (x3 + (nI 1))))] M) (fun M5 => (if zin x3 7 = true then zL (zpl (zpl M5 (x0 + 8) (Int32.toNatClampNeg x3) ((M5.2 (x0 + 8) (Int32.toNatClampNeg x3)) ||| (M5.2 x0 15))) (x0 + 9) (Int32.toNatClampNeg x3) (((zpl M5 (x0 + 8) (Int32.toNatClampNeg x3) ((M5.2 (x0 + 8) (Int32.toNatClampNeg x3)) ||| (M5.2 x0 15))).2 (x0 + 9) (Int32.toNatClampNeg x3)) ||| ((zpl M5 (x0 + 8) (Int32.toNatClampNeg x3) ((M5.2 (x0 + 8) (Int32.toNatClampNeg x3)) ||| (M5.2 x0 15))).2 x0 16))) (fun M7 => h_R_weigh_206 d x0 x1 x2 x3 x4 (x5 + (nI 1)) M7) else none)) else none) else h_R_weigh_206 d x0 x1 x2 x3 x4 (x5 + (nI 1)) M)) = some r) : h_R_weigh_206 d x0 x1 x2 x3 x4 x5 M = some r := by
  show zEx0 (zEv d) zmR_weigh (206, [(0, .ref x0), (1, .ref x1), (2, .ref x2), (3, .int x3), (4, .int x4), (5, .int x5)], [], M) = some r
  refine y_pure (pc' := 208) (st' := [.int x5]) rfl rfl ?_
  refine y_pure (pc' := 210) (st' := [.int (nI 7), .int x5]) rfl rfl ?_
  rcases zif_inv h with ⟨hc1, h⟩ | ⟨hc1, h⟩
  · refine y_cmp (pc' := 278) rfl rfl (zc_gtT hc1) rfl ?_
    refine y_pure (pc' := 281) (ls' := [(0, .ref x0), (1, .ref x1), (2, .ref x2), (3, .int (x3 + (-1 : Int32))), (4, .int x4), (5, .int x5)]) (st' := []) rfl rfl ?_
    refine y_pure (pc' := 176) rfl rfl ?_
    refine zEx_sub ?_ h
    exact ⟨rfl, rfl, rfl, rfl, trivial⟩
  · refine y_cmp (pc' := 213) rfl rfl (zc_gtF hc1) rfl ?_
    refine y_pure (pc' := 215) (st' := [.int x4]) rfl rfl ?_
    refine y_pure (pc' := 217) (st' := [.int x5, .int x4]) rfl rfl ?_
    refine y_pure (pc' := 218) (st' := [.int (x4 >>> (x5 &&& 31))]) rfl rfl ?_
    refine y_pure (pc' := 219) (st' := [.int (nI 1), .int (x4 >>> (x5 &&& 31))]) rfl rfl ?_
    refine y_pure (pc' := 220) (st' := [.int ((x4 >>> (x5 &&& 31)) &&& (nI 1))]) rfl rfl ?_
    refine y_pure (pc' := 221) (st' := [.int (nI 1), .int ((x4 >>> (x5 &&& 31)) &&& (nI 1))]) rfl rfl ?_
    rcases zif_inv h with ⟨hc2, h⟩ | ⟨hc2, h⟩
    · refine y_cmp (pc' := 224) rfl rfl (zc_neF hc2) rfl ?_
      refine y_pure (pc' := 225) (st' := [.ref x0]) rfl rfl ?_
      refine y_pure (pc' := 227) (st' := [.int x5, .ref x0]) rfl rfl ?_
      refine y_pure (pc' := 228) (st' := [.ref x0, .int x5, .ref x0]) rfl rfl ?_
      refine y_getf (pc' := 231) (v := .ref (x0 + 8)) rfl rfl rfl hk0 rfl rfl ?_
      refine y_pure (pc' := 232) (st' := [.int x3, .ref (x0 + 8), .int x5, .ref x0]) rfl rfl ?_
      refine y_pure (pc' := 233) (st' := [.int (nI 1), .int x3, .ref (x0 + 8), .int x5, .ref x0]) rfl rfl ?_
      refine y_pure (pc' := 234) (st' := [.int (x3 + (nI 1)), .ref (x0 + 8), .int x5, .ref x0]) rfl rfl ?_
      obtain ⟨hi3, h⟩ := zg_inv h
      refine y_lald (pc' := 235) rfl (zf_3_13 hk0) hi3 rfl ?_
      refine y_pure (pc' := 236) (st' := [.ref x0, .long (M.2 (x0 + 8) (Int32.toNatClampNeg (x3 + (nI 1)))), .int x5, .ref x0]) rfl rfl ?_
      refine y_getf (pc' := 239) (v := .ref (x0 + 9)) rfl rfl rfl hk0 rfl rfl ?_
      refine y_pure (pc' := 240) (st' := [.int x3, .ref (x0 + 9), .long (M.2 (x0 + 8) (Int32.toNatClampNeg (x3 + (nI 1)))), .int x5, .ref x0]) rfl rfl ?_
      refine y_pure (pc' := 241) (st' := [.int (nI 1), .int x3, .ref (x0 + 9), .long (M.2 (x0 + 8) (Int32.toNatClampNeg (x3 + (nI 1)))), .int x5, .ref x0]) rfl rfl ?_
      refine y_pure (pc' := 242) (st' := [.int (x3 + (nI 1)), .ref (x0 + 9), .long (M.2 (x0 + 8) (Int32.toNatClampNeg (x3 + (nI 1)))), .int x5, .ref x0]) rfl rfl ?_
      refine y_lald (pc' := 243) rfl (zf_3_14 hk0) hi3 rfl ?_
      obtain ⟨M5, he4, h⟩ := zC0_inv h
      refine y_callV (pc' := 246) (y := zmR_leadBack) (a' := [.int x5, .long (M.2 (x0 + 8) (Int32.toNatClampNeg (x3 + (nI 1)))), .long (M.2 (x0 + 9) (Int32.toNatClampNeg (x3 + (nI 1))))]) (st' := []) rfl rfl rfl rfl rfl (zrecv_o (o := 3) hk0 rfl) rfl he4 rfl rfl ?_
      refine y_pure (pc' := 247) (st' := [.ref x0]) rfl rfl ?_
      refine y_getf (pc' := 250) (v := .ref (x0 + 8)) rfl rfl rfl hk0 rfl rfl ?_
      refine y_pure (pc' := 251) (st' := [.int x3, .ref (x0 + 8)]) rfl rfl ?_
      refine y_pure (pc' := 252) (st' := [.int x3, .ref (x0 + 8), .int x3, .ref (x0 + 8)]) rfl rfl ?_
      obtain ⟨hi6, h⟩ := zg_inv h
      refine y_lald (pc' := 253) rfl (zf_3_13 hk0) hi6 rfl ?_
      refine y_pure (pc' := 254) (st' := [.ref x0, .long (M5.2 (x0 + 8) (Int32.toNatClampNeg x3)), .int x3, .ref (x0 + 8)]) rfl rfl ?_
      refine y_getf (pc' := 257) (v := .long (M5.2 x0 15)) rfl rfl rfl hk0 rfl rfl ?_
      refine y_pure (pc' := 258) (st' := [.long ((M5.2 (x0 + 8) (Int32.toNatClampNeg x3)) ||| (M5.2 x0 15)), .int x3, .ref (x0 + 8)]) rfl rfl ?_
      refine y_last (pc' := 259) rfl (zf_3_13 hk0) hi6 rfl ?_
      refine y_pure (pc' := 260) (st' := [.ref x0]) rfl rfl ?_
      refine y_getf (pc' := 263) (v := .ref (x0 + 9)) rfl rfl rfl hk0 rfl rfl ?_
      refine y_pure (pc' := 264) (st' := [.int x3, .ref (x0 + 9)]) rfl rfl ?_
      refine y_pure (pc' := 265) (st' := [.int x3, .ref (x0 + 9), .int x3, .ref (x0 + 9)]) rfl rfl ?_
      refine y_lald (pc' := 266) rfl (zf_3_14 hk0) hi6 rfl ?_
      refine y_pure (pc' := 267) (st' := [.ref x0, .long ((zpl M5 (x0 + 8) (Int32.toNatClampNeg x3) ((M5.2 (x0 + 8) (Int32.toNatClampNeg x3)) ||| (M5.2 x0 15))).2 (x0 + 9) (Int32.toNatClampNeg x3)), .int x3, .ref (x0 + 9)]) rfl rfl ?_
      refine y_getf (pc' := 270) (v := .long ((zpl M5 (x0 + 8) (Int32.toNatClampNeg x3) ((M5.2 (x0 + 8) (Int32.toNatClampNeg x3)) ||| (M5.2 x0 15))).2 x0 16)) rfl rfl rfl hk0 rfl rfl ?_
      refine y_pure (pc' := 271) (st' := [.long (((zpl M5 (x0 + 8) (Int32.toNatClampNeg x3) ((M5.2 (x0 + 8) (Int32.toNatClampNeg x3)) ||| (M5.2 x0 15))).2 (x0 + 9) (Int32.toNatClampNeg x3)) ||| ((zpl M5 (x0 + 8) (Int32.toNatClampNeg x3) ((M5.2 (x0 + 8) (Int32.toNatClampNeg x3)) ||| (M5.2 x0 15))).2 x0 16)), .int x3, .ref (x0 + 9)]) rfl rfl ?_
      refine y_last (pc' := 272) rfl (zf_3_14 hk0) hi6 rfl ?_
      obtain ⟨M7, e8, h⟩ := zL_inv h
      refine zM_gen e8 ?_
      refine y_pure (pc' := 275) (ls' := [(0, .ref x0), (1, .ref x1), (2, .ref x2), (3, .int x3), (4, .int x4), (5, .int (x5 + (nI 1)))]) (st' := []) rfl rfl ?_
      refine y_pure (pc' := 206) rfl rfl ?_
      refine zEx_sub ?_ h
      exact ⟨rfl, rfl, rfl, rfl, rfl, rfl, trivial⟩
    · refine y_cmp (pc' := 272) rfl rfl (zc_neT hc2) rfl ?_
      refine y_pure (pc' := 275) (ls' := [(0, .ref x0), (1, .ref x1), (2, .ref x2), (3, .int x3), (4, .int x4), (5, .int (x5 + (nI 1)))]) (st' := []) rfl rfl ?_
      refine y_pure (pc' := 206) rfl rfl ?_
      refine zEx_sub ?_ h
      exact ⟨rfl, rfl, rfl, rfl, rfl, rfl, trivial⟩
theorem e_R_weigh {d : Nat} {x0 : Nat} {x1 : Nat} {x2 : Nat} {M : ZM} {r : ZR} (hk0 : zkd x0 = (13, 0)) (hk1 : zkd x1 = (1, 36)) (hk2 : zkd x2 = (1, 6)) (h : h_R_weigh_16 d x0 x1 x2 (nI 0) (zpl (zpl M (x0 + 6) 0 (nJ 1)) (x0 + 7) 0 (nJ 0)) = some r) : zEv (d + 1) zmR_weigh [.ref x0, .ref x1, .ref x2] M = some r := by
  rw [zEv_succ]
  show zEx0 (zEv d) zmR_weigh (0, [(0, .ref x0), (1, .ref x1), (2, .ref x2)], [], M) = some r
  refine y_pure (pc' := 1) (st' := [.ref x0]) rfl rfl ?_
  refine y_getf (pc' := 4) (v := .ref (x0 + 6)) rfl rfl rfl hk0 rfl rfl ?_
  refine y_pure (pc' := 5) (st' := [.int (nI 0), .ref (x0 + 6)]) rfl rfl ?_
  refine y_pure (pc' := 6) (st' := [.long (nJ 1), .int (nI 0), .ref (x0 + 6)]) rfl rfl ?_
  refine y_last (pc' := 7) rfl (zf_3_11 hk0) (by decide) rfl ?_
  refine y_pure (pc' := 8) (st' := [.ref x0]) rfl rfl ?_
  refine y_getf (pc' := 11) (v := .ref (x0 + 7)) rfl rfl rfl hk0 rfl rfl ?_
  refine y_pure (pc' := 12) (st' := [.int (nI 0), .ref (x0 + 7)]) rfl rfl ?_
  refine y_pure (pc' := 13) (st' := [.long (nJ 0), .int (nI 0), .ref (x0 + 7)]) rfl rfl ?_
  refine y_last (pc' := 14) rfl (zf_3_12 hk0) (by decide) rfl ?_
  refine y_pure (pc' := 15) (st' := [.int (nI 0)]) rfl rfl ?_
  refine y_pure (pc' := 16) (ls' := [(0, .ref x0), (1, .ref x1), (2, .ref x2), (3, .int (nI 0))]) (st' := []) rfl rfl ?_
  refine zEx_sub ?_ h
  exact ⟨rfl, rfl, rfl, rfl, trivial⟩
theorem e_R_marksAt {d : Nat} {x0 : Nat} {x1 : Int32} {M : ZM} {r : ZR} (hk0 : zkd x0 = (1, 36)) (h : (if x1 < (nI 0) then some (some (.int (nI 0)), M) else (if x1 < (nI 36) then (if zin x1 36 = true then some (some (.int (M.1 x0 (Int32.toNatClampNeg x1))), M) else none) else some (some (.int (nI 0)), M))) = some r) : zEv (d + 1) zmR_marksAt [.ref x0, .int x1] M = some r := by
  rw [zEv_succ]
  show zEx0 (zEv d) zmR_marksAt (0, [(0, .ref x0), (1, .int x1)], [], M) = some r
  refine y_pure (pc' := 1) (st' := [.int x1]) rfl rfl ?_
  rcases zif_inv h with ⟨hc1, h⟩ | ⟨hc1, h⟩
  · refine y_cnd (pc' := 16) rfl rfl (zc_ltT hc1) rfl ?_
    refine y_pure (pc' := 17) (st' := [.int (nI 0)]) rfl rfl ?_
    exact y_ret rfl rfl rfl rfl h
  · refine y_cnd (pc' := 4) rfl rfl (zc_ltF hc1) rfl ?_
    refine y_pure (pc' := 5) (st' := [.int x1]) rfl rfl ?_
    refine y_pure (pc' := 6) (st' := [.ref x0, .int x1]) rfl rfl ?_
    refine y_alen (pc' := 7) rfl hk0 (by decide) rfl rfl ?_
    rcases zif_inv h with ⟨hc2, h⟩ | ⟨hc2, h⟩
    · refine y_cmp (pc' := 10) rfl rfl (zc_geF hc2) rfl ?_
      refine y_pure (pc' := 11) (st' := [.ref x0]) rfl rfl ?_
      refine y_pure (pc' := 12) (st' := [.int x1, .ref x0]) rfl rfl ?_
      obtain ⟨hi3, h⟩ := zg_inv h
      refine y_iald (pc' := 13) rfl hk0 hi3 rfl ?_
      refine y_pure (pc' := 17) rfl rfl ?_
      exact y_ret rfl rfl rfl rfl h
    · refine y_cmp (pc' := 16) rfl rfl (zc_geT hc2) rfl ?_
      refine y_pure (pc' := 17) (st' := [.int (nI 0)]) rfl rfl ?_
      exact y_ret rfl rfl rfl rfl h
noncomputable def h_R_digitsAt_5 (d : Nat) (x0 : Nat) (x1 : Int32) (x2 : Int32) (x3 : Int32) (x4 : Int32) (M : ZM) : Option ZR := zEx0 (zEv d) zmR_digitsAt (5, [(0, .ref x0), (1, .int x1), (2, .int x2), (3, .int x3), (4, .int x4)], [], M)
theorem e_R_digitsAt_5 {d : Nat} {x0 : Nat} {x1 : Int32} {x2 : Int32} {x3 : Int32} {x4 : Int32} {M : ZM} {r : ZR} (hk0 : zkd x0 = (13, 0)) (h : (if (nI 7) < x4 then some (some (.int x3), M) else (if x1 < (nI 0) then some (some (.int x3), M) else (if x1 < (nI 6) then (if ((x2 >>> (x4 &&& 31)) &&& (nI 1)) = (nI 1) then (if zin x1 7 = true then zC0 (zEv d zmR_leadOn [.ref x0, .int x4, .long (M.2 (x0 + 6) (Int32.toNatClampNeg x1)), .long (M.2 (x0 + 7) (Int32.toNatClampNeg x1))] M) (fun M7 => (if zin (x1 + (nI 1)) 7 = true then (if (lg_cmp (((M7.2 x0 15) &&& (M7.2 (x0 + 8) (Int32.toNatClampNeg (x1 + (nI 1))))) ||| ((M7.2 x0 16) &&& (M7.2 (x0 + 9) (Int32.toNatClampNeg (x1 + (nI 1)))))) (nJ 0)) = (nI 0) then h_R_digitsAt_5 d x0 x1 x2 x3 (x4 + (nI 1)) M7 else h_R_digitsAt_5 d x0 x1 x2 (x3 ||| ((nI 1) <<< (x4 &&& 31))) (x4 + (nI 1)) M7) else none)) else none) else h_R_digitsAt_5 d x0 x1 x2 x3 (x4 + (nI 1)) M) else some (some (.int x3), M)))) = some r) : h_R_digitsAt_5 d x0 x1 x2 x3 x4 M = some r := by
  show zEx0 (zEv d) zmR_digitsAt (5, [(0, .ref x0), (1, .int x1), (2, .int x2), (3, .int x3), (4, .int x4)], [], M) = some r
  refine y_pure (pc' := 7) (st' := [.int x4]) rfl rfl ?_
  refine y_pure (pc' := 9) (st' := [.int (nI 7), .int x4]) rfl rfl ?_
  rcases zif_inv h with ⟨hc1, h⟩ | ⟨hc1, h⟩
  · refine y_cmp (pc' := 95) rfl rfl (zc_gtT hc1) rfl ?_
    refine y_pure (pc' := 96) (st' := [.int x3]) rfl rfl ?_
    exact y_ret rfl rfl rfl rfl h
  · refine y_cmp (pc' := 12) rfl rfl (zc_gtF hc1) rfl ?_
    refine y_pure (pc' := 13) (st' := [.int x1]) rfl rfl ?_
    rcases zif_inv h with ⟨hc2, h⟩ | ⟨hc2, h⟩
    · refine y_cnd (pc' := 95) rfl rfl (zc_ltT hc2) rfl ?_
      refine y_pure (pc' := 96) (st' := [.int x3]) rfl rfl ?_
      exact y_ret rfl rfl rfl rfl h
    · refine y_cnd (pc' := 16) rfl rfl (zc_ltF hc2) rfl ?_
      refine y_pure (pc' := 17) (st' := [.int x1]) rfl rfl ?_
      refine y_pure (pc' := 19) (st' := [.int (nI 6), .int x1]) rfl rfl ?_
      rcases zif_inv h with ⟨hc3, h⟩ | ⟨hc3, h⟩
      · refine y_cmp (pc' := 22) rfl rfl (zc_geF hc3) rfl ?_
        refine y_pure (pc' := 23) (st' := [.int x2]) rfl rfl ?_
        refine y_pure (pc' := 25) (st' := [.int x4, .int x2]) rfl rfl ?_
        refine y_pure (pc' := 26) (st' := [.int (x2 >>> (x4 &&& 31))]) rfl rfl ?_
        refine y_pure (pc' := 27) (st' := [.int (nI 1), .int (x2 >>> (x4 &&& 31))]) rfl rfl ?_
        refine y_pure (pc' := 28) (st' := [.int ((x2 >>> (x4 &&& 31)) &&& (nI 1))]) rfl rfl ?_
        refine y_pure (pc' := 29) (st' := [.int (nI 1), .int ((x2 >>> (x4 &&& 31)) &&& (nI 1))]) rfl rfl ?_
        rcases zif_inv h with ⟨hc4, h⟩ | ⟨hc4, h⟩
        · refine y_cmp (pc' := 32) rfl rfl (zc_neF hc4) rfl ?_
          refine y_pure (pc' := 33) (st' := [.ref x0]) rfl rfl ?_
          refine y_pure (pc' := 35) (st' := [.int x4, .ref x0]) rfl rfl ?_
          refine y_pure (pc' := 36) (st' := [.ref x0, .int x4, .ref x0]) rfl rfl ?_
          refine y_getf (pc' := 39) (v := .ref (x0 + 6)) rfl rfl rfl hk0 rfl rfl ?_
          refine y_pure (pc' := 40) (st' := [.int x1, .ref (x0 + 6), .int x4, .ref x0]) rfl rfl ?_
          obtain ⟨hi5, h⟩ := zg_inv h
          refine y_lald (pc' := 41) rfl (zf_3_11 hk0) hi5 rfl ?_
          refine y_pure (pc' := 42) (st' := [.ref x0, .long (M.2 (x0 + 6) (Int32.toNatClampNeg x1)), .int x4, .ref x0]) rfl rfl ?_
          refine y_getf (pc' := 45) (v := .ref (x0 + 7)) rfl rfl rfl hk0 rfl rfl ?_
          refine y_pure (pc' := 46) (st' := [.int x1, .ref (x0 + 7), .long (M.2 (x0 + 6) (Int32.toNatClampNeg x1)), .int x4, .ref x0]) rfl rfl ?_
          refine y_lald (pc' := 47) rfl (zf_3_12 hk0) hi5 rfl ?_
          obtain ⟨M7, he6, h⟩ := zC0_inv h
          refine y_callV (pc' := 50) (y := zmR_leadOn) (a' := [.int x4, .long (M.2 (x0 + 6) (Int32.toNatClampNeg x1)), .long (M.2 (x0 + 7) (Int32.toNatClampNeg x1))]) (st' := []) rfl rfl rfl rfl rfl (zrecv_o (o := 3) hk0 rfl) rfl he6 rfl rfl ?_
          refine y_pure (pc' := 51) (st' := [.ref x0]) rfl rfl ?_
          refine y_getf (pc' := 54) (v := .long (M7.2 x0 15)) rfl rfl rfl hk0 rfl rfl ?_
          refine y_pure (pc' := 55) (st' := [.ref x0, .long (M7.2 x0 15)]) rfl rfl ?_
          refine y_getf (pc' := 58) (v := .ref (x0 + 8)) rfl rfl rfl hk0 rfl rfl ?_
          refine y_pure (pc' := 59) (st' := [.int x1, .ref (x0 + 8), .long (M7.2 x0 15)]) rfl rfl ?_
          refine y_pure (pc' := 60) (st' := [.int (nI 1), .int x1, .ref (x0 + 8), .long (M7.2 x0 15)]) rfl rfl ?_
          refine y_pure (pc' := 61) (st' := [.int (x1 + (nI 1)), .ref (x0 + 8), .long (M7.2 x0 15)]) rfl rfl ?_
          obtain ⟨hi8, h⟩ := zg_inv h
          refine y_lald (pc' := 62) rfl (zf_3_13 hk0) hi8 rfl ?_
          refine y_pure (pc' := 63) (st' := [.long ((M7.2 x0 15) &&& (M7.2 (x0 + 8) (Int32.toNatClampNeg (x1 + (nI 1)))))]) rfl rfl ?_
          refine y_pure (pc' := 64) (st' := [.ref x0, .long ((M7.2 x0 15) &&& (M7.2 (x0 + 8) (Int32.toNatClampNeg (x1 + (nI 1)))))]) rfl rfl ?_
          refine y_getf (pc' := 67) (v := .long (M7.2 x0 16)) rfl rfl rfl hk0 rfl rfl ?_
          refine y_pure (pc' := 68) (st' := [.ref x0, .long (M7.2 x0 16), .long ((M7.2 x0 15) &&& (M7.2 (x0 + 8) (Int32.toNatClampNeg (x1 + (nI 1)))))]) rfl rfl ?_
          refine y_getf (pc' := 71) (v := .ref (x0 + 9)) rfl rfl rfl hk0 rfl rfl ?_
          refine y_pure (pc' := 72) (st' := [.int x1, .ref (x0 + 9), .long (M7.2 x0 16), .long ((M7.2 x0 15) &&& (M7.2 (x0 + 8) (Int32.toNatClampNeg (x1 + (nI 1)))))]) rfl rfl ?_
          refine y_pure (pc' := 73) (st' := [.int (nI 1), .int x1, .ref (x0 + 9), .long (M7.2 x0 16), .long ((M7.2 x0 15) &&& (M7.2 (x0 + 8) (Int32.toNatClampNeg (x1 + (nI 1)))))]) rfl rfl ?_
          refine y_pure (pc' := 74) (st' := [.int (x1 + (nI 1)), .ref (x0 + 9), .long (M7.2 x0 16), .long ((M7.2 x0 15) &&& (M7.2 (x0 + 8) (Int32.toNatClampNeg (x1 + (nI 1)))))]) rfl rfl ?_
          refine y_lald (pc' := 75) rfl (zf_3_14 hk0) hi8 rfl ?_
          refine y_pure (pc' := 76) (st' := [.long ((M7.2 x0 16) &&& (M7.2 (x0 + 9) (Int32.toNatClampNeg (x1 + (nI 1))))), .long ((M7.2 x0 15) &&& (M7.2 (x0 + 8) (Int32.toNatClampNeg (x1 + (nI 1)))))]) rfl rfl ?_
          refine y_pure (pc' := 77) (st' := [.long (((M7.2 x0 15) &&& (M7.2 (x0 + 8) (Int32.toNatClampNeg (x1 + (nI 1))))) ||| ((M7.2 x0 16) &&& (M7.2 (x0 + 9) (Int32.toNatClampNeg (x1 + (nI 1))))))]) rfl rfl ?_
          refine y_pure (pc' := 78) (st' := [.long (nJ 0), .long (((M7.2 x0 15) &&& (M7.2 (x0 + 8) (Int32.toNatClampNeg (x1 + (nI 1))))) ||| ((M7.2 x0 16) &&& (M7.2 (x0 + 9) (Int32.toNatClampNeg (x1 + (nI 1))))))]) rfl rfl ?_
          refine y_pure (pc' := 79) (st' := [.int (lg_cmp (((M7.2 x0 15) &&& (M7.2 (x0 + 8) (Int32.toNatClampNeg (x1 + (nI 1))))) ||| ((M7.2 x0 16) &&& (M7.2 (x0 + 9) (Int32.toNatClampNeg (x1 + (nI 1)))))) (nJ 0))]) rfl rfl ?_
          rcases zif_inv h with ⟨hc9, h⟩ | ⟨hc9, h⟩
          · refine y_cnd (pc' := 89) rfl rfl (zc_eqT hc9) rfl ?_
            refine y_pure (pc' := 92) (ls' := [(0, .ref x0), (1, .int x1), (2, .int x2), (3, .int x3), (4, .int (x4 + (nI 1)))]) (st' := []) rfl rfl ?_
            refine y_pure (pc' := 5) rfl rfl ?_
            refine zEx_sub ?_ h
            exact ⟨rfl, rfl, rfl, rfl, rfl, trivial⟩
          · refine y_cnd (pc' := 82) rfl rfl (zc_eqF hc9) rfl ?_
            refine y_pure (pc' := 83) (st' := [.int x3]) rfl rfl ?_
            refine y_pure (pc' := 84) (st' := [.int (nI 1), .int x3]) rfl rfl ?_
            refine y_pure (pc' := 86) (st' := [.int x4, .int (nI 1), .int x3]) rfl rfl ?_
            refine y_pure (pc' := 87) (st' := [.int ((nI 1) <<< (x4 &&& 31)), .int x3]) rfl rfl ?_
            refine y_pure (pc' := 88) (st' := [.int (x3 ||| ((nI 1) <<< (x4 &&& 31)))]) rfl rfl ?_
            refine y_pure (pc' := 89) (ls' := [(0, .ref x0), (1, .int x1), (2, .int x2), (3, .int (x3 ||| ((nI 1) <<< (x4 &&& 31)))), (4, .int x4)]) (st' := []) rfl rfl ?_
            refine y_pure (pc' := 92) (ls' := [(0, .ref x0), (1, .int x1), (2, .int x2), (3, .int (x3 ||| ((nI 1) <<< (x4 &&& 31)))), (4, .int (x4 + (nI 1)))]) (st' := []) rfl rfl ?_
            refine y_pure (pc' := 5) rfl rfl ?_
            refine zEx_sub ?_ h
            exact ⟨rfl, rfl, rfl, rfl, rfl, trivial⟩
        · refine y_cmp (pc' := 89) rfl rfl (zc_neT hc4) rfl ?_
          refine y_pure (pc' := 92) (ls' := [(0, .ref x0), (1, .int x1), (2, .int x2), (3, .int x3), (4, .int (x4 + (nI 1)))]) (st' := []) rfl rfl ?_
          refine y_pure (pc' := 5) rfl rfl ?_
          refine zEx_sub ?_ h
          exact ⟨rfl, rfl, rfl, rfl, rfl, trivial⟩
      · refine y_cmp (pc' := 95) rfl rfl (zc_geT hc3) rfl ?_
        refine y_pure (pc' := 96) (st' := [.int x3]) rfl rfl ?_
        exact y_ret rfl rfl rfl rfl h
theorem e_R_digitsAt {d : Nat} {x0 : Nat} {x1 : Int32} {x2 : Int32} {M : ZM} {r : ZR} (hk0 : zkd x0 = (13, 0)) (h : h_R_digitsAt_5 d x0 x1 x2 (nI 0) (nI 1) M = some r) : zEv (d + 1) zmR_digitsAt [.ref x0, .int x1, .int x2] M = some r := by
  rw [zEv_succ]
  show zEx0 (zEv d) zmR_digitsAt (0, [(0, .ref x0), (1, .int x1), (2, .int x2)], [], M) = some r
  refine y_pure (pc' := 1) (st' := [.int (nI 0)]) rfl rfl ?_
  refine y_pure (pc' := 2) (ls' := [(0, .ref x0), (1, .int x1), (2, .int x2), (3, .int (nI 0))]) (st' := []) rfl rfl ?_
  refine y_pure (pc' := 3) (st' := [.int (nI 1)]) rfl rfl ?_
  refine y_pure (pc' := 5) (ls' := [(0, .ref x0), (1, .int x1), (2, .int x2), (3, .int (nI 0)), (4, .int (nI 1))]) (st' := []) rfl rfl ?_
  refine zEx_sub ?_ h
  exact ⟨rfl, rfl, rfl, rfl, rfl, trivial⟩
theorem e_R_canEnd {d : Nat} {x0 : Nat} {x1 : Int32} {x2 : Int32} {M : ZM} {r : ZR} (hk0 : zkd x0 = (13, 0)) (h : (if x1 < (nI 0) then some (some (.int (nI 0)), M) else (if (nI 6) < x1 then some (some (.int (nI 0)), M) else (if x2 < (nI 0) then some (some (.int (nI 0)), M) else (if x2 < (nI 128) then (if zin x1 7 = true then zC1 (zEv d zmR_isIn [.long (M.2 (x0 + 8) (Int32.toNatClampNeg x1)), .long (M.2 (x0 + 9) (Int32.toNatClampNeg x1)), .int x2] M) (fun v8 M7 => (if v8 = (nI 0) then some (some (.int (nI 0)), M7) else some (some (.int (nI 1)), M7))) else none) else some (some (.int (nI 0)), M))))) = some r) : zEv (d + 1) zmR_canEnd [.ref x0, .int x1, .int x2] M = some r := by
  rw [zEv_succ]
  show zEx0 (zEv d) zmR_canEnd (0, [(0, .ref x0), (1, .int x1), (2, .int x2)], [], M) = some r
  refine y_pure (pc' := 1) (st' := [.int x1]) rfl rfl ?_
  rcases zif_inv h with ⟨hc1, h⟩ | ⟨hc1, h⟩
  · refine y_cnd (pc' := 44) rfl rfl (zc_ltT hc1) rfl ?_
    refine y_pure (pc' := 45) (st' := [.int (nI 0)]) rfl rfl ?_
    exact y_retZ rfl rfl (by decide) h
  · refine y_cnd (pc' := 4) rfl rfl (zc_ltF hc1) rfl ?_
    refine y_pure (pc' := 5) (st' := [.int x1]) rfl rfl ?_
    refine y_pure (pc' := 7) (st' := [.int (nI 6), .int x1]) rfl rfl ?_
    rcases zif_inv h with ⟨hc2, h⟩ | ⟨hc2, h⟩
    · refine y_cmp (pc' := 44) rfl rfl (zc_gtT hc2) rfl ?_
      refine y_pure (pc' := 45) (st' := [.int (nI 0)]) rfl rfl ?_
      exact y_retZ rfl rfl (by decide) h
    · refine y_cmp (pc' := 10) rfl rfl (zc_gtF hc2) rfl ?_
      refine y_pure (pc' := 11) (st' := [.int x2]) rfl rfl ?_
      rcases zif_inv h with ⟨hc3, h⟩ | ⟨hc3, h⟩
      · refine y_cnd (pc' := 44) rfl rfl (zc_ltT hc3) rfl ?_
        refine y_pure (pc' := 45) (st' := [.int (nI 0)]) rfl rfl ?_
        exact y_retZ rfl rfl (by decide) h
      · refine y_cnd (pc' := 14) rfl rfl (zc_ltF hc3) rfl ?_
        refine y_pure (pc' := 15) (st' := [.int x2]) rfl rfl ?_
        refine y_pure (pc' := 18) (st' := [.int (nI 128), .int x2]) rfl rfl ?_
        rcases zif_inv h with ⟨hc4, h⟩ | ⟨hc4, h⟩
        · refine y_cmp (pc' := 21) rfl rfl (zc_geF hc4) rfl ?_
          refine y_pure (pc' := 22) (st' := [.ref x0]) rfl rfl ?_
          refine y_getf (pc' := 25) (v := .ref (x0 + 8)) rfl rfl rfl hk0 rfl rfl ?_
          refine y_pure (pc' := 26) (st' := [.int x1, .ref (x0 + 8)]) rfl rfl ?_
          obtain ⟨hi5, h⟩ := zg_inv h
          refine y_lald (pc' := 27) rfl (zf_3_13 hk0) hi5 rfl ?_
          refine y_pure (pc' := 28) (st' := [.ref x0, .long (M.2 (x0 + 8) (Int32.toNatClampNeg x1))]) rfl rfl ?_
          refine y_getf (pc' := 31) (v := .ref (x0 + 9)) rfl rfl rfl hk0 rfl rfl ?_
          refine y_pure (pc' := 32) (st' := [.int x1, .ref (x0 + 9), .long (M.2 (x0 + 8) (Int32.toNatClampNeg x1))]) rfl rfl ?_
          refine y_lald (pc' := 33) rfl (zf_3_14 hk0) hi5 rfl ?_
          refine y_pure (pc' := 34) (st' := [.int x2, .long (M.2 (x0 + 9) (Int32.toNatClampNeg x1)), .long (M.2 (x0 + 8) (Int32.toNatClampNeg x1))]) rfl rfl ?_
          obtain ⟨v8, M7, he6, h⟩ := zC1_inv h
          refine y_callS (pc' := 37) (y := zmR_isIn) (a := [.long (M.2 (x0 + 8) (Int32.toNatClampNeg x1)), .long (M.2 (x0 + 9) (Int32.toNatClampNeg x1)), .int x2]) (st' := []) rfl rfl rfl rfl rfl rfl he6 rfl rfl ?_
          rcases zif_inv h with ⟨hc9, h⟩ | ⟨hc9, h⟩
          · refine y_cnd (pc' := 44) rfl rfl (zc_eqT hc9) rfl ?_
            refine y_pure (pc' := 45) (st' := [.int (nI 0)]) rfl rfl ?_
            exact y_retZ rfl rfl (by decide) h
          · refine y_cnd (pc' := 40) rfl rfl (zc_eqF hc9) rfl ?_
            refine y_pure (pc' := 41) (st' := [.int (nI 1)]) rfl rfl ?_
            refine y_pure (pc' := 45) rfl rfl ?_
            exact y_retZ rfl rfl (by decide) h
        · refine y_cmp (pc' := 44) rfl rfl (zc_geT hc4) rfl ?_
          refine y_pure (pc' := 45) (st' := [.int (nI 0)]) rfl rfl ?_
          exact y_retZ rfl rfl (by decide) h
theorem e_R_isReached {d : Nat} {x0 : Nat} {x1 : Int32} {M : ZM} {r : ZR} (hk0 : zkd x0 = (13, 0)) (h : (if x1 < (nI 0) then some (some (.int (nI 0)), M) else (if x1 < (nI 128) then (if zin (M.1 x0 3) 7 = true then zC1 (zEv d zmR_isIn [.long ((M.2 (x0 + 6) (Int32.toNatClampNeg (M.1 x0 3))) &&& (M.2 x0 9)), .long ((M.2 (x0 + 7) (Int32.toNatClampNeg (M.1 x0 3))) &&& (M.2 x0 10)), .int x1] M) (fun v6 M5 => (if v6 = (nI 0) then some (some (.int (nI 0)), M5) else some (some (.int (nI 1)), M5))) else none) else some (some (.int (nI 0)), M))) = some r) : zEv (d + 1) zmR_isReached [.ref x0, .int x1] M = some r := by
  rw [zEv_succ]
  show zEx0 (zEv d) zmR_isReached (0, [(0, .ref x0), (1, .int x1)], [], M) = some r
  refine y_pure (pc' := 1) (st' := [.int x1]) rfl rfl ?_
  rcases zif_inv h with ⟨hc1, h⟩ | ⟨hc1, h⟩
  · refine y_cnd (pc' := 50) rfl rfl (zc_ltT hc1) rfl ?_
    refine y_pure (pc' := 51) (st' := [.int (nI 0)]) rfl rfl ?_
    exact y_retZ rfl rfl (by decide) h
  · refine y_cnd (pc' := 4) rfl rfl (zc_ltF hc1) rfl ?_
    refine y_pure (pc' := 5) (st' := [.int x1]) rfl rfl ?_
    refine y_pure (pc' := 8) (st' := [.int (nI 128), .int x1]) rfl rfl ?_
    rcases zif_inv h with ⟨hc2, h⟩ | ⟨hc2, h⟩
    · refine y_cmp (pc' := 11) rfl rfl (zc_geF hc2) rfl ?_
      refine y_pure (pc' := 12) (st' := [.ref x0]) rfl rfl ?_
      refine y_getf (pc' := 15) (v := .ref (x0 + 6)) rfl rfl rfl hk0 rfl rfl ?_
      refine y_pure (pc' := 16) (st' := [.ref x0, .ref (x0 + 6)]) rfl rfl ?_
      refine y_getf (pc' := 19) (v := .int (M.1 x0 3)) rfl rfl rfl hk0 rfl rfl ?_
      obtain ⟨hi3, h⟩ := zg_inv h
      refine y_lald (pc' := 20) rfl (zf_3_11 hk0) hi3 rfl ?_
      refine y_pure (pc' := 21) (st' := [.ref x0, .long (M.2 (x0 + 6) (Int32.toNatClampNeg (M.1 x0 3)))]) rfl rfl ?_
      refine y_getf (pc' := 24) (v := .long (M.2 x0 9)) rfl rfl rfl hk0 rfl rfl ?_
      refine y_pure (pc' := 25) (st' := [.long ((M.2 (x0 + 6) (Int32.toNatClampNeg (M.1 x0 3))) &&& (M.2 x0 9))]) rfl rfl ?_
      refine y_pure (pc' := 26) (st' := [.ref x0, .long ((M.2 (x0 + 6) (Int32.toNatClampNeg (M.1 x0 3))) &&& (M.2 x0 9))]) rfl rfl ?_
      refine y_getf (pc' := 29) (v := .ref (x0 + 7)) rfl rfl rfl hk0 rfl rfl ?_
      refine y_pure (pc' := 30) (st' := [.ref x0, .ref (x0 + 7), .long ((M.2 (x0 + 6) (Int32.toNatClampNeg (M.1 x0 3))) &&& (M.2 x0 9))]) rfl rfl ?_
      refine y_getf (pc' := 33) (v := .int (M.1 x0 3)) rfl rfl rfl hk0 rfl rfl ?_
      refine y_lald (pc' := 34) rfl (zf_3_12 hk0) hi3 rfl ?_
      refine y_pure (pc' := 35) (st' := [.ref x0, .long (M.2 (x0 + 7) (Int32.toNatClampNeg (M.1 x0 3))), .long ((M.2 (x0 + 6) (Int32.toNatClampNeg (M.1 x0 3))) &&& (M.2 x0 9))]) rfl rfl ?_
      refine y_getf (pc' := 38) (v := .long (M.2 x0 10)) rfl rfl rfl hk0 rfl rfl ?_
      refine y_pure (pc' := 39) (st' := [.long ((M.2 (x0 + 7) (Int32.toNatClampNeg (M.1 x0 3))) &&& (M.2 x0 10)), .long ((M.2 (x0 + 6) (Int32.toNatClampNeg (M.1 x0 3))) &&& (M.2 x0 9))]) rfl rfl ?_
      refine y_pure (pc' := 40) (st' := [.int x1, .long ((M.2 (x0 + 7) (Int32.toNatClampNeg (M.1 x0 3))) &&& (M.2 x0 10)), .long ((M.2 (x0 + 6) (Int32.toNatClampNeg (M.1 x0 3))) &&& (M.2 x0 9))]) rfl rfl ?_
      obtain ⟨v6, M5, he4, h⟩ := zC1_inv h
      refine y_callS (pc' := 43) (y := zmR_isIn) (a := [.long ((M.2 (x0 + 6) (Int32.toNatClampNeg (M.1 x0 3))) &&& (M.2 x0 9)), .long ((M.2 (x0 + 7) (Int32.toNatClampNeg (M.1 x0 3))) &&& (M.2 x0 10)), .int x1]) (st' := []) rfl rfl rfl rfl rfl rfl he4 rfl rfl ?_
      rcases zif_inv h with ⟨hc7, h⟩ | ⟨hc7, h⟩
      · refine y_cnd (pc' := 50) rfl rfl (zc_eqT hc7) rfl ?_
        refine y_pure (pc' := 51) (st' := [.int (nI 0)]) rfl rfl ?_
        exact y_retZ rfl rfl (by decide) h
      · refine y_cnd (pc' := 46) rfl rfl (zc_eqF hc7) rfl ?_
        refine y_pure (pc' := 47) (st' := [.int (nI 1)]) rfl rfl ?_
        refine y_pure (pc' := 51) rfl rfl ?_
        exact y_retZ rfl rfl (by decide) h
    · refine y_cmp (pc' := 50) rfl rfl (zc_geT hc2) rfl ?_
      refine y_pure (pc' := 51) (st' := [.int (nI 0)]) rfl rfl ?_
      exact y_retZ rfl rfl (by decide) h
