/-! what the methods' runs come to (printed by wip/whole/gen_eq.py) -/
set_option linter.unusedVariables false
set_option maxRecDepth 50000
theorem e_S_look {d : Nat} {x1 : Nat} {x2 : Nat} {x3 : Int32} {M : ZM} {r : ZR} (hk1 : zkd x1 = (10, 0)) (hk2 : zkd x2 = (1, 36)) (h : zC1 (zEv d zmJM_min [.int (nI 50), .int x3] (zpi M 411 10 (nI 0))) (fun v3 M2 => zC1 (zEv d zmJM_max [.int (nI 1), .int v3] M2) (fun v6 M5 => zC1 (zEv d zmS_begin [.ref 411, .ref x1, .ref x2] (zpi M5 411 9 v6)) (fun v9 M8 => (if v9 = (nI 0) then some (some (.int (M8.1 411 10)), M8) else zC0 (zEv d zmS_gather [.ref 411, .ref x1, .int (nI 0)] M8) (fun M12 => some (some (.int (M12.1 411 10)), M12)))))) = some r) : zEv (d + 1) zmS_look [.ref 411, .ref x1, .ref x2, .int x3] M = some r := by
  rw [zEv_succ]
  show zEx0 (zEv d) zmS_look (0, [(0, .ref 411), (1, .ref x1), (2, .ref x2), (3, .int x3)], [], M) = some r
  refine y_pure (pc' := 1) (st' := [.ref 411]) rfl rfl ?_
  refine y_pure (pc' := 2) (st' := [.int (nI 0), .ref 411]) rfl rfl ?_
  refine y_putI (pc' := 5) rfl rfl zc_411 rfl ?_
  refine y_pure (pc' := 6) (st' := [.ref 411]) rfl rfl ?_
  refine y_pure (pc' := 7) (st' := [.int (nI 1), .ref 411]) rfl rfl ?_
  refine y_pure (pc' := 9) (st' := [.int (nI 50), .int (nI 1), .ref 411]) rfl rfl ?_
  refine y_pure (pc' := 10) (st' := [.int x3, .int (nI 50), .int (nI 1), .ref 411]) rfl rfl ?_
  obtain ⟨v3, M2, he1, h⟩ := zC1_inv h
  refine y_callS (pc' := 13) (y := zmJM_min) (a := [.int (nI 50), .int x3]) (st' := [.int (nI 1), .ref 411]) rfl rfl rfl rfl rfl rfl he1 rfl rfl ?_
  obtain ⟨v6, M5, he4, h⟩ := zC1_inv h
  refine y_callS (pc' := 16) (y := zmJM_max) (a := [.int (nI 1), .int v3]) (st' := [.ref 411]) rfl rfl rfl rfl rfl rfl he4 rfl rfl ?_
  refine y_putI (pc' := 19) rfl rfl zc_411 rfl ?_
  refine y_pure (pc' := 20) (st' := [.ref 411]) rfl rfl ?_
  refine y_pure (pc' := 21) (st' := [.ref x1, .ref 411]) rfl rfl ?_
  refine y_pure (pc' := 22) (st' := [.ref x2, .ref x1, .ref 411]) rfl rfl ?_
  obtain ⟨v9, M8, he7, h⟩ := zC1_inv h
  refine y_callV (pc' := 25) (y := zmS_begin) (a' := [.ref x1, .ref x2]) (st' := []) rfl rfl rfl rfl rfl (zrecv_o (o := 5) zc_411 rfl) rfl he7 rfl rfl ?_
  rcases zif_inv h with ⟨hc10, h⟩ | ⟨hc10, h⟩
  · refine y_cnd (pc' := 34) rfl rfl (zc_eqT hc10) rfl ?_
    refine y_pure (pc' := 35) (st' := [.ref 411]) rfl rfl ?_
    refine y_getf (pc' := 38) (v := .int (M8.1 411 10)) rfl rfl rfl zc_411 rfl rfl ?_
    exact y_ret rfl rfl rfl rfl h
  · refine y_cnd (pc' := 28) rfl rfl (zc_eqF hc10) rfl ?_
    refine y_pure (pc' := 29) (st' := [.ref 411]) rfl rfl ?_
    refine y_pure (pc' := 30) (st' := [.ref x1, .ref 411]) rfl rfl ?_
    refine y_pure (pc' := 31) (st' := [.int (nI 0), .ref x1, .ref 411]) rfl rfl ?_
    obtain ⟨M12, he11, h⟩ := zC0_inv h
    refine y_callS (pc' := 34) (y := zmS_gather) (a := [.ref 411, .ref x1, .int (nI 0)]) (st' := []) rfl rfl rfl rfl rfl rfl he11 rfl rfl ?_
    refine y_pure (pc' := 35) (st' := [.ref 411]) rfl rfl ?_
    refine y_getf (pc' := 38) (v := .int (M12.1 411 10)) rfl rfl rfl zc_411 rfl rfl ?_
    exact y_ret rfl rfl rfl rfl h
theorem e_S_canSolve {d : Nat} {x1 : Nat} {x2 : Nat} {M : ZM} {r : ZR} (hk1 : zkd x1 = (10, 0)) (hk2 : zkd x2 = (1, 36)) (h : zC1 (zEv d zmS_begin [.ref 411, .ref x1, .ref x2] (zpi M 411 10 (nI 0))) (fun v3 M2 => (if v3 = (nI 0) then some (some (.int (nI 0)), M2) else zC1 (zEv d zmS_isSolvable [.ref 411, .ref x1, .int (nI 0)] M2) (fun v7 M6 => (if v7 = (nI 0) then some (some (.int (nI 0)), M6) else some (some (.int (nI 1)), M6))))) = some r) : zEv (d + 1) zmS_canSolve [.ref 411, .ref x1, .ref x2] M = some r := by
  rw [zEv_succ]
  show zEx0 (zEv d) zmS_canSolve (0, [(0, .ref 411), (1, .ref x1), (2, .ref x2)], [], M) = some r
  refine y_pure (pc' := 1) (st' := [.ref 411]) rfl rfl ?_
  refine y_pure (pc' := 2) (st' := [.int (nI 0), .ref 411]) rfl rfl ?_
  refine y_putI (pc' := 5) rfl rfl zc_411 rfl ?_
  refine y_pure (pc' := 6) (st' := [.ref 411]) rfl rfl ?_
  refine y_pure (pc' := 7) (st' := [.ref x1, .ref 411]) rfl rfl ?_
  refine y_pure (pc' := 8) (st' := [.ref x2, .ref x1, .ref 411]) rfl rfl ?_
  obtain ⟨v3, M2, he1, h⟩ := zC1_inv h
  refine y_callV (pc' := 11) (y := zmS_begin) (a' := [.ref x1, .ref x2]) (st' := []) rfl rfl rfl rfl rfl (zrecv_o (o := 5) zc_411 rfl) rfl he1 rfl rfl ?_
  rcases zif_inv h with ⟨hc4, h⟩ | ⟨hc4, h⟩
  · refine y_cnd (pc' := 27) rfl rfl (zc_eqT hc4) rfl ?_
    refine y_pure (pc' := 28) (st' := [.int (nI 0)]) rfl rfl ?_
    exact y_retZ rfl rfl (by decide) h
  · refine y_cnd (pc' := 14) rfl rfl (zc_eqF hc4) rfl ?_
    refine y_pure (pc' := 15) (st' := [.ref 411]) rfl rfl ?_
    refine y_pure (pc' := 16) (st' := [.ref x1, .ref 411]) rfl rfl ?_
    refine y_pure (pc' := 17) (st' := [.int (nI 0), .ref x1, .ref 411]) rfl rfl ?_
    obtain ⟨v7, M6, he5, h⟩ := zC1_inv h
    refine y_callS (pc' := 20) (y := zmS_isSolvable) (a := [.ref 411, .ref x1, .int (nI 0)]) (st' := []) rfl rfl rfl rfl rfl rfl he5 rfl rfl ?_
    rcases zif_inv h with ⟨hc8, h⟩ | ⟨hc8, h⟩
    · refine y_cnd (pc' := 27) rfl rfl (zc_eqT hc8) rfl ?_
      refine y_pure (pc' := 28) (st' := [.int (nI 0)]) rfl rfl ?_
      exact y_retZ rfl rfl (by decide) h
    · refine y_cnd (pc' := 23) rfl rfl (zc_eqF hc8) rfl ?_
      refine y_pure (pc' := 24) (st' := [.int (nI 1)]) rfl rfl ?_
      refine y_pure (pc' := 28) rfl rfl ?_
      exact y_retZ rfl rfl (by decide) h
noncomputable def h_S_begin_12 (d : Nat) (x1 : Nat) (x2 : Nat) (x3 : Int32) (M : ZM) : Option ZR := zEx0 (zEv d) zmS_begin (12, [(0, .ref 411), (1, .ref x1), (2, .ref x2), (3, .int x3)], [], M)
noncomputable def h_S_begin_62 (d : Nat) (x1 : Nat) (x3 : Int32) (M : ZM) : Option ZR := zEx0 (zEv d) zmS_begin (62, [(0, .ref 411), (1, .ref x1), (3, .int x3)], [], M)
theorem e_S_begin_12 {d : Nat} {x1 : Nat} {x2 : Nat} {x3 : Int32} {M : ZM} {r : ZR} (hk1 : zkd x1 = (10, 0)) (hk2 : zkd x2 = (1, 36)) (h : (if x3 < (M.1 x1 3) then zC3 (zEv d zmRS_ready [.ref 412, .ref x1, .int x3] M) (fun v4 M3 => (if zkd v4 = (13, 0) then h_S_begin_12 d x1 x2 (x3 + (nI 1)) M3 else none)) else zC0 (zEv d zmS_layOut [.ref 411, .ref x1] M) (fun M7 => zC1 (zEv d zmJM_min [.int (nI 36), .int (nI 36)] M7) (fun v10 M9 => (if x2 ≠ 547 then (if (0 ≤ Int32.toInt v10 ∧ 0 ≤ Int32.toInt (nI 0) ∧ 0 ≤ Int32.toInt (nI 0)) ∧ 0 + Int32.toNatClampNeg v10 ≤ 36 ∧ 0 + Int32.toNatClampNeg v10 ≤ 36 then h_S_begin_62 d x1 (nI 0) (zsi M9 547 (va_cpy (M9.1 x2) (M9.1 547) (0) (0) (Int32.toNatClampNeg v10))) else none) else none)))) = some r) : h_S_begin_12 d x1 x2 x3 M = some r := by
  show zEx0 (zEv d) zmS_begin (12, [(0, .ref 411), (1, .ref x1), (2, .ref x2), (3, .int x3)], [], M) = some r
  refine y_pure (pc' := 13) (st' := [.int x3]) rfl rfl ?_
  refine y_pure (pc' := 14) (st' := [.ref x1, .int x3]) rfl rfl ?_
  refine y_getf (pc' := 17) (v := .int (M.1 x1 3)) rfl rfl rfl hk1 rfl rfl ?_
  rcases zif_inv h with ⟨hc1, h⟩ | ⟨hc1, h⟩
  · refine y_cmp (pc' := 20) rfl rfl (zc_geF hc1) rfl ?_
    refine y_pure (pc' := 21) (st' := [.ref 411]) rfl rfl ?_
    refine y_getf (pc' := 24) (v := .ref 412) rfl rfl rfl zc_411 rfl rfl ?_
    refine y_pure (pc' := 25) (st' := [.ref x1, .ref 412]) rfl rfl ?_
    refine y_pure (pc' := 26) (st' := [.int x3, .ref x1, .ref 412]) rfl rfl ?_
    obtain ⟨v4, M3, he2, h⟩ := zC3_inv h
    obtain ⟨hk5, h⟩ := zg_inv h
    refine y_callV (pc' := 29) (y := zmRS_ready) (a' := [.ref x1, .int x3]) (st' := []) rfl rfl rfl rfl rfl (zrecv_o (o := 4) zc_412 rfl) rfl he2 rfl rfl ?_
    refine y_pure (pc' := 30) (st' := []) rfl rfl ?_
    refine y_pure (pc' := 33) (ls' := [(0, .ref 411), (1, .ref x1), (2, .ref x2), (3, .int (x3 + (nI 1)))]) (st' := []) rfl rfl ?_
    refine y_pure (pc' := 12) rfl rfl ?_
    refine zEx_sub ?_ h
    exact ⟨rfl, rfl, rfl, rfl, trivial⟩
  · refine y_cmp (pc' := 36) rfl rfl (zc_geT hc1) rfl ?_
    refine y_pure (pc' := 37) (st' := [.ref 411]) rfl rfl ?_
    refine y_pure (pc' := 38) (st' := [.ref x1, .ref 411]) rfl rfl ?_
    obtain ⟨M7, he6, h⟩ := zC0_inv h
    refine y_callV (pc' := 41) (y := zmS_layOut) (a' := [.ref x1]) (st' := []) rfl rfl rfl rfl rfl (zrecv_o (o := 5) zc_411 rfl) rfl he6 rfl rfl ?_
    refine y_pure (pc' := 42) (st' := [.ref x2]) rfl rfl ?_
    refine y_pure (pc' := 43) (st' := [.int (nI 0), .ref x2]) rfl rfl ?_
    refine y_pure (pc' := 44) (st' := [.ref 411, .int (nI 0), .ref x2]) rfl rfl ?_
    refine y_getf (pc' := 47) (v := .ref 546) rfl rfl rfl zc_411 rfl rfl ?_
    refine y_pure (pc' := 48) (st' := [.int (nI 0), .ref 546, .int (nI 0), .ref x2]) rfl rfl ?_
    refine y_aald (pc' := 49) (q' := 547) rfl zc_546 (by decide) rfl rfl ?_
    refine y_pure (pc' := 50) (st' := [.int (nI 0), .ref 547, .int (nI 0), .ref x2]) rfl rfl ?_
    refine y_pure (pc' := 52) (st' := [.int (nI 36), .int (nI 0), .ref 547, .int (nI 0), .ref x2]) rfl rfl ?_
    refine y_pure (pc' := 53) (st' := [.ref x2, .int (nI 36), .int (nI 0), .ref 547, .int (nI 0), .ref x2]) rfl rfl ?_
    refine y_alen (pc' := 54) rfl hk2 (by decide) rfl rfl ?_
    obtain ⟨v10, M9, he8, h⟩ := zC1_inv h
    refine y_callS (pc' := 57) (y := zmJM_min) (a := [.int (nI 36), .int (nI 36)]) (st' := [.int (nI 0), .ref 547, .int (nI 0), .ref x2]) rfl rfl rfl rfl rfl rfl he8 rfl rfl ?_
    obtain ⟨hg11, h⟩ := zg_inv h
    obtain ⟨hg12, h⟩ := zg_inv h
    refine y_copyI (pc' := 60) rfl rfl rfl hk2 zc_547 hg11 hg12 rfl ?_
    refine y_pure (pc' := 61) (st' := [.int (nI 0)]) rfl rfl ?_
    refine y_pure (pc' := 62) (ls' := [(0, .ref 411), (1, .ref x1), (2, .ref x2), (3, .int (nI 0))]) (st' := []) rfl rfl ?_
    refine zEx_sub ?_ h
    exact ⟨rfl, rfl, rfl, trivial⟩
theorem e_S_begin_62 {d : Nat} {x1 : Nat} {x3 : Int32} {M : ZM} {r : ZR} (hk1 : zkd x1 = (10, 0)) (h : (if x3 < (M.1 411 1) then (if zin x3 16 = true then (if zin (M.1 544 (Int32.toNatClampNeg x3)) 36 = true then (if (M.1 547 (Int32.toNatClampNeg (M.1 544 (Int32.toNatClampNeg x3)))) = (nI 0) then some (some (.int (nI 0)), M) else h_S_begin_62 d x1 (x3 + (nI 1)) M) else none) else none) else zC1 (zEv d zmS_settle [.ref 411, .ref x1, .int (nI 0), .int (M.1 411 4)] M) (fun v7 M6 => (if v7 = (nI 0) then some (some (.int (nI 0)), M6) else zC1 (zEv d zmS_sumsFit [.ref 411, .ref x1] M6) (fun v11 M10 => (if v11 = (nI 0) then some (some (.int (nI 0)), M10) else some (some (.int (nI 1)), M10)))))) = some r) : h_S_begin_62 d x1 x3 M = some r := by
  show zEx0 (zEv d) zmS_begin (62, [(0, .ref 411), (1, .ref x1), (3, .int x3)], [], M) = some r
  refine y_pure (pc' := 63) (st' := [.int x3]) rfl rfl ?_
  refine y_pure (pc' := 64) (st' := [.ref 411, .int x3]) rfl rfl ?_
  refine y_getf (pc' := 67) (v := .int (M.1 411 1)) rfl rfl rfl zc_411 rfl rfl ?_
  rcases zif_inv h with ⟨hc1, h⟩ | ⟨hc1, h⟩
  · refine y_cmp (pc' := 70) rfl rfl (zc_geF hc1) rfl ?_
    refine y_pure (pc' := 71) (st' := [.ref 411]) rfl rfl ?_
    refine y_getf (pc' := 74) (v := .ref 546) rfl rfl rfl zc_411 rfl rfl ?_
    refine y_pure (pc' := 75) (st' := [.int (nI 0), .ref 546]) rfl rfl ?_
    refine y_aald (pc' := 76) (q' := 547) rfl zc_546 (by decide) rfl rfl ?_
    refine y_pure (pc' := 77) (st' := [.ref 411, .ref 547]) rfl rfl ?_
    refine y_getf (pc' := 80) (v := .ref 544) rfl rfl rfl zc_411 rfl rfl ?_
    refine y_pure (pc' := 81) (st' := [.int x3, .ref 544, .ref 547]) rfl rfl ?_
    obtain ⟨hi2, h⟩ := zg_inv h
    refine y_iald (pc' := 82) rfl zc_544 hi2 rfl ?_
    obtain ⟨hi3, h⟩ := zg_inv h
    refine y_iald (pc' := 83) rfl zc_547 hi3 rfl ?_
    rcases zif_inv h with ⟨hc4, h⟩ | ⟨hc4, h⟩
    · refine y_cnd (pc' := 86) rfl rfl (zc_neF hc4) rfl ?_
      refine y_pure (pc' := 87) (st' := [.int (nI 0)]) rfl rfl ?_
      exact y_retZ rfl rfl (by decide) h
    · refine y_cnd (pc' := 88) rfl rfl (zc_neT hc4) rfl ?_
      refine y_pure (pc' := 91) (ls' := [(0, .ref 411), (1, .ref x1), (3, .int (x3 + (nI 1)))]) (st' := []) rfl rfl ?_
      refine y_pure (pc' := 62) rfl rfl ?_
      refine zEx_sub ?_ h
      exact ⟨rfl, rfl, rfl, trivial⟩
  · refine y_cmp (pc' := 94) rfl rfl (zc_geT hc1) rfl ?_
    refine y_pure (pc' := 95) (st' := [.ref 411]) rfl rfl ?_
    refine y_pure (pc' := 96) (st' := [.ref x1, .ref 411]) rfl rfl ?_
    refine y_pure (pc' := 97) (st' := [.int (nI 0), .ref x1, .ref 411]) rfl rfl ?_
    refine y_pure (pc' := 98) (st' := [.ref 411, .int (nI 0), .ref x1, .ref 411]) rfl rfl ?_
    refine y_getf (pc' := 101) (v := .int (M.1 411 4)) rfl rfl rfl zc_411 rfl rfl ?_
    obtain ⟨v7, M6, he5, h⟩ := zC1_inv h
    refine y_callV (pc' := 104) (y := zmS_settle) (a' := [.ref x1, .int (nI 0), .int (M.1 411 4)]) (st' := []) rfl rfl rfl rfl rfl (zrecv_o (o := 5) zc_411 rfl) rfl he5 rfl rfl ?_
    rcases zif_inv h with ⟨hc8, h⟩ | ⟨hc8, h⟩
    · refine y_cnd (pc' := 119) rfl rfl (zc_eqT hc8) rfl ?_
      refine y_pure (pc' := 120) (st' := [.int (nI 0)]) rfl rfl ?_
      exact y_retZ rfl rfl (by decide) h
    · refine y_cnd (pc' := 107) rfl rfl (zc_eqF hc8) rfl ?_
      refine y_pure (pc' := 108) (st' := [.ref 411]) rfl rfl ?_
      refine y_pure (pc' := 109) (st' := [.ref x1, .ref 411]) rfl rfl ?_
      obtain ⟨v11, M10, he9, h⟩ := zC1_inv h
      refine y_callV (pc' := 112) (y := zmS_sumsFit) (a' := [.ref x1]) (st' := []) rfl rfl rfl rfl rfl (zrecv_o (o := 5) zc_411 rfl) rfl he9 rfl rfl ?_
      rcases zif_inv h with ⟨hc12, h⟩ | ⟨hc12, h⟩
      · refine y_cnd (pc' := 119) rfl rfl (zc_eqT hc12) rfl ?_
        refine y_pure (pc' := 120) (st' := [.int (nI 0)]) rfl rfl ?_
        exact y_retZ rfl rfl (by decide) h
      · refine y_cnd (pc' := 115) rfl rfl (zc_eqF hc12) rfl ?_
        refine y_pure (pc' := 116) (st' := [.int (nI 1)]) rfl rfl ?_
        refine y_pure (pc' := 120) rfl rfl ?_
        exact y_retZ rfl rfl (by decide) h
theorem e_S_begin {d : Nat} {x1 : Nat} {x2 : Nat} {M : ZM} {r : ZR} (hk1 : zkd x1 = (10, 0)) (hk2 : zkd x2 = (1, 36)) (h : h_S_begin_12 d x1 x2 (nI 0) (zpl M 411 11 ((M.2 411 11) + (nJ 1))) = some r) : zEv (d + 1) zmS_begin [.ref 411, .ref x1, .ref x2] M = some r := by
  rw [zEv_succ]
  show zEx0 (zEv d) zmS_begin (0, [(0, .ref 411), (1, .ref x1), (2, .ref x2)], [], M) = some r
  refine y_pure (pc' := 1) (st' := [.ref 411]) rfl rfl ?_
  refine y_pure (pc' := 2) (st' := [.ref 411, .ref 411]) rfl rfl ?_
  refine y_getf (pc' := 5) (v := .long (M.2 411 11)) rfl rfl rfl zc_411 rfl rfl ?_
  refine y_pure (pc' := 6) (st' := [.long (nJ 1), .long (M.2 411 11), .ref 411]) rfl rfl ?_
  refine y_pure (pc' := 7) (st' := [.long ((M.2 411 11) + (nJ 1)), .ref 411]) rfl rfl ?_
  refine y_putL (pc' := 10) rfl rfl zc_411 rfl ?_
  refine y_pure (pc' := 11) (st' := [.int (nI 0)]) rfl rfl ?_
  refine y_pure (pc' := 12) (ls' := [(0, .ref 411), (1, .ref x1), (2, .ref x2), (3, .int (nI 0))]) (st' := []) rfl rfl ?_
  refine zEx_sub ?_ h
  exact ⟨rfl, rfl, rfl, rfl, trivial⟩
noncomputable def h_S_layOut_12 (d : Nat) (x1 : Nat) (x2 : Int32) (M : ZM) : Option ZR := zEx0 (zEv d) zmS_layOut (12, [(0, .ref 411), (1, .ref x1), (2, .int x2)], [], M)
noncomputable def h_S_layOut_93 (d : Nat) (x1 : Nat) (x2 : Int32) (M : ZM) : Option ZR := zEx0 (zEv d) zmS_layOut (93, [(0, .ref 411), (1, .ref x1), (2, .int x2)], [], M)
theorem e_S_layOut_12 {d : Nat} {x1 : Nat} {x2 : Int32} {M : ZM} {r : ZR} (hk1 : zkd x1 = (10, 0)) (h : (if x2 < (M.1 x1 3) then (if zin x2 12 = true then (if (M.1 (x1 + 2) (Int32.toNatClampNeg x2)) = (nI 3) then zC1 (zEv d zmB_isAlike [.ref x1, .int x2] M) (fun v6 M5 => (if v6 = (nI 0) then (if ((zpi M5 411 4 ((M.1 411 4) ||| ((nI 1) <<< (x2 &&& 31)))).1 411 5) = (nI 0) then (if (nI 0) = nI 0 ∨ (nI 0) = nI 1 then h_S_layOut_12 d x1 (x2 + (nI 1)) (zpi (zpi M5 411 4 ((M.1 411 4) ||| ((nI 1) <<< (x2 &&& 31)))) 411 5 (nI 0)) else none) else (if ((zpi M5 411 4 ((M.1 411 4) ||| ((nI 1) <<< (x2 &&& 31)))).1 (x1 + 2) (Int32.toNatClampNeg x2)) = (nI 3) then (if (nI 1) = nI 0 ∨ (nI 1) = nI 1 then h_S_layOut_12 d x1 (x2 + (nI 1)) (zpi (zpi M5 411 4 ((M.1 411 4) ||| ((nI 1) <<< (x2 &&& 31)))) 411 5 (nI 1)) else none) else (if (nI 0) = nI 0 ∨ (nI 0) = nI 1 then h_S_layOut_12 d x1 (x2 + (nI 1)) (zpi (zpi M5 411 4 ((M.1 411 4) ||| ((nI 1) <<< (x2 &&& 31)))) 411 5 (nI 0)) else none))) else (if ((zpi M5 411 4 ((M.1 411 4) ||| (nI 0))).1 411 5) = (nI 0) then (if (nI 0) = nI 0 ∨ (nI 0) = nI 1 then h_S_layOut_12 d x1 (x2 + (nI 1)) (zpi (zpi M5 411 4 ((M.1 411 4) ||| (nI 0))) 411 5 (nI 0)) else none) else (if ((zpi M5 411 4 ((M.1 411 4) ||| (nI 0))).1 (x1 + 2) (Int32.toNatClampNeg x2)) = (nI 3) then (if (nI 1) = nI 0 ∨ (nI 1) = nI 1 then h_S_layOut_12 d x1 (x2 + (nI 1)) (zpi (zpi M5 411 4 ((M.1 411 4) ||| (nI 0))) 411 5 (nI 1)) else none) else (if (nI 0) = nI 0 ∨ (nI 0) = nI 1 then h_S_layOut_12 d x1 (x2 + (nI 1)) (zpi (zpi M5 411 4 ((M.1 411 4) ||| (nI 0))) 411 5 (nI 0)) else none))))) else (if ((zpi M 411 4 ((M.1 411 4) ||| ((nI 1) <<< (x2 &&& 31)))).1 411 5) = (nI 0) then (if (nI 0) = nI 0 ∨ (nI 0) = nI 1 then h_S_layOut_12 d x1 (x2 + (nI 1)) (zpi (zpi M 411 4 ((M.1 411 4) ||| ((nI 1) <<< (x2 &&& 31)))) 411 5 (nI 0)) else none) else (if ((zpi M 411 4 ((M.1 411 4) ||| ((nI 1) <<< (x2 &&& 31)))).1 (x1 + 2) (Int32.toNatClampNeg x2)) = (nI 3) then (if (nI 1) = nI 0 ∨ (nI 1) = nI 1 then h_S_layOut_12 d x1 (x2 + (nI 1)) (zpi (zpi M 411 4 ((M.1 411 4) ||| ((nI 1) <<< (x2 &&& 31)))) 411 5 (nI 1)) else none) else (if (nI 0) = nI 0 ∨ (nI 0) = nI 1 then h_S_layOut_12 d x1 (x2 + (nI 1)) (zpi (zpi M 411 4 ((M.1 411 4) ||| ((nI 1) <<< (x2 &&& 31)))) 411 5 (nI 0)) else none)))) else none) else h_S_layOut_93 d x1 (nI 0) (zpi M 411 1 (nI 0))) = some r) : h_S_layOut_12 d x1 x2 M = some r := by
  show zEx0 (zEv d) zmS_layOut (12, [(0, .ref 411), (1, .ref x1), (2, .int x2)], [], M) = some r
  refine y_pure (pc' := 13) (st' := [.int x2]) rfl rfl ?_
  refine y_pure (pc' := 14) (st' := [.ref x1, .int x2]) rfl rfl ?_
  refine y_getf (pc' := 17) (v := .int (M.1 x1 3)) rfl rfl rfl hk1 rfl rfl ?_
  rcases zif_inv h with ⟨hc1, h⟩ | ⟨hc1, h⟩
  · refine y_cmp (pc' := 20) rfl rfl (zc_geF hc1) rfl ?_
    refine y_pure (pc' := 21) (st' := [.ref 411]) rfl rfl ?_
    refine y_pure (pc' := 22) (st' := [.ref 411, .ref 411]) rfl rfl ?_
    refine y_getf (pc' := 25) (v := .int (M.1 411 4)) rfl rfl rfl zc_411 rfl rfl ?_
    refine y_pure (pc' := 26) (st' := [.ref x1, .int (M.1 411 4), .ref 411]) rfl rfl ?_
    refine y_getf (pc' := 29) (v := .ref (x1 + 2)) rfl rfl rfl hk1 rfl rfl ?_
    refine y_pure (pc' := 30) (st' := [.int x2, .ref (x1 + 2), .int (M.1 411 4), .ref 411]) rfl rfl ?_
    obtain ⟨hi2, h⟩ := zg_inv h
    refine y_iald (pc' := 31) rfl (zf_0_9 hk1) hi2 rfl ?_
    refine y_pure (pc' := 32) (st' := [.int (nI 3), .int (M.1 (x1 + 2) (Int32.toNatClampNeg x2)), .int (M.1 411 4), .ref 411]) rfl rfl ?_
    rcases zif_inv h with ⟨hc3, h⟩ | ⟨hc3, h⟩
    · refine y_cmp (pc' := 35) rfl rfl (zc_neF hc3) rfl ?_
      refine y_pure (pc' := 36) (st' := [.ref x1, .int (M.1 411 4), .ref 411]) rfl rfl ?_
      refine y_pure (pc' := 37) (st' := [.int x2, .ref x1, .int (M.1 411 4), .ref 411]) rfl rfl ?_
      obtain ⟨v6, M5, he4, h⟩ := zC1_inv h
      refine y_callV (pc' := 40) (y := zmB_isAlike) (a' := [.int x2]) (st' := [.int (M.1 411 4), .ref 411]) rfl rfl rfl rfl rfl (zrecv_o (o := 0) hk1 rfl) rfl he4 rfl rfl ?_
      rcases zif_inv h with ⟨hc7, h⟩ | ⟨hc7, h⟩
      · refine y_cnd (pc' := 47) rfl rfl (zc_eqT hc7) rfl ?_
        refine y_pure (pc' := 48) (st' := [.int (nI 1), .int (M.1 411 4), .ref 411]) rfl rfl ?_
        refine y_pure (pc' := 49) (st' := [.int x2, .int (nI 1), .int (M.1 411 4), .ref 411]) rfl rfl ?_
        refine y_pure (pc' := 50) (st' := [.int ((nI 1) <<< (x2 &&& 31)), .int (M.1 411 4), .ref 411]) rfl rfl ?_
        refine y_pure (pc' := 51) (st' := [.int ((M.1 411 4) ||| ((nI 1) <<< (x2 &&& 31))), .ref 411]) rfl rfl ?_
        refine y_putI (pc' := 54) rfl rfl zc_411 rfl ?_
        refine y_pure (pc' := 55) (st' := [.ref 411]) rfl rfl ?_
        refine y_pure (pc' := 56) (st' := [.ref 411, .ref 411]) rfl rfl ?_
        refine y_getf (pc' := 59) (v := .int ((zpi M5 411 4 ((M.1 411 4) ||| ((nI 1) <<< (x2 &&& 31)))).1 411 5)) rfl rfl rfl zc_411 rfl rfl ?_
        rcases zif_inv h with ⟨hc8, h⟩ | ⟨hc8, h⟩
        · refine y_cnd (pc' := 76) rfl rfl (zc_eqT hc8) rfl ?_
          refine y_pure (pc' := 77) (st' := [.int (nI 0), .ref 411]) rfl rfl ?_
          obtain ⟨hb9, h⟩ := zg_inv h
          refine y_putZ (pc' := 80) rfl rfl zc_411 hb9 rfl ?_
          refine y_pure (pc' := 83) (ls' := [(0, .ref 411), (1, .ref x1), (2, .int (x2 + (nI 1)))]) (st' := []) rfl rfl ?_
          refine y_pure (pc' := 12) rfl rfl ?_
          refine zEx_sub ?_ h
          exact ⟨rfl, rfl, rfl, trivial⟩
        · refine y_cnd (pc' := 62) rfl rfl (zc_eqF hc8) rfl ?_
          refine y_pure (pc' := 63) (st' := [.ref x1, .ref 411]) rfl rfl ?_
          refine y_getf (pc' := 66) (v := .ref (x1 + 2)) rfl rfl rfl hk1 rfl rfl ?_
          refine y_pure (pc' := 67) (st' := [.int x2, .ref (x1 + 2), .ref 411]) rfl rfl ?_
          refine y_iald (pc' := 68) rfl (zf_0_9 hk1) hi2 rfl ?_
          refine y_pure (pc' := 69) (st' := [.int (nI 3), .int ((zpi M5 411 4 ((M.1 411 4) ||| ((nI 1) <<< (x2 &&& 31)))).1 (x1 + 2) (Int32.toNatClampNeg x2)), .ref 411]) rfl rfl ?_
          rcases zif_inv h with ⟨hc10, h⟩ | ⟨hc10, h⟩
          · refine y_cmp (pc' := 72) rfl rfl (zc_neF hc10) rfl ?_
            refine y_pure (pc' := 73) (st' := [.int (nI 1), .ref 411]) rfl rfl ?_
            refine y_pure (pc' := 77) rfl rfl ?_
            obtain ⟨hb11, h⟩ := zg_inv h
            refine y_putZ (pc' := 80) rfl rfl zc_411 hb11 rfl ?_
            refine y_pure (pc' := 83) (ls' := [(0, .ref 411), (1, .ref x1), (2, .int (x2 + (nI 1)))]) (st' := []) rfl rfl ?_
            refine y_pure (pc' := 12) rfl rfl ?_
            refine zEx_sub ?_ h
            exact ⟨rfl, rfl, rfl, trivial⟩
          · refine y_cmp (pc' := 76) rfl rfl (zc_neT hc10) rfl ?_
            refine y_pure (pc' := 77) (st' := [.int (nI 0), .ref 411]) rfl rfl ?_
            obtain ⟨hb12, h⟩ := zg_inv h
            refine y_putZ (pc' := 80) rfl rfl zc_411 hb12 rfl ?_
            refine y_pure (pc' := 83) (ls' := [(0, .ref 411), (1, .ref x1), (2, .int (x2 + (nI 1)))]) (st' := []) rfl rfl ?_
            refine y_pure (pc' := 12) rfl rfl ?_
            refine zEx_sub ?_ h
            exact ⟨rfl, rfl, rfl, trivial⟩
      · refine y_cnd (pc' := 43) rfl rfl (zc_eqF hc7) rfl ?_
        refine y_pure (pc' := 44) (st' := [.int (nI 0), .int (M.1 411 4), .ref 411]) rfl rfl ?_
        refine y_pure (pc' := 50) rfl rfl ?_
        refine y_pure (pc' := 51) (st' := [.int ((M.1 411 4) ||| (nI 0)), .ref 411]) rfl rfl ?_
        refine y_putI (pc' := 54) rfl rfl zc_411 rfl ?_
        refine y_pure (pc' := 55) (st' := [.ref 411]) rfl rfl ?_
        refine y_pure (pc' := 56) (st' := [.ref 411, .ref 411]) rfl rfl ?_
        refine y_getf (pc' := 59) (v := .int ((zpi M5 411 4 ((M.1 411 4) ||| (nI 0))).1 411 5)) rfl rfl rfl zc_411 rfl rfl ?_
        rcases zif_inv h with ⟨hc13, h⟩ | ⟨hc13, h⟩
        · refine y_cnd (pc' := 76) rfl rfl (zc_eqT hc13) rfl ?_
          refine y_pure (pc' := 77) (st' := [.int (nI 0), .ref 411]) rfl rfl ?_
          obtain ⟨hb14, h⟩ := zg_inv h
          refine y_putZ (pc' := 80) rfl rfl zc_411 hb14 rfl ?_
          refine y_pure (pc' := 83) (ls' := [(0, .ref 411), (1, .ref x1), (2, .int (x2 + (nI 1)))]) (st' := []) rfl rfl ?_
          refine y_pure (pc' := 12) rfl rfl ?_
          refine zEx_sub ?_ h
          exact ⟨rfl, rfl, rfl, trivial⟩
        · refine y_cnd (pc' := 62) rfl rfl (zc_eqF hc13) rfl ?_
          refine y_pure (pc' := 63) (st' := [.ref x1, .ref 411]) rfl rfl ?_
          refine y_getf (pc' := 66) (v := .ref (x1 + 2)) rfl rfl rfl hk1 rfl rfl ?_
          refine y_pure (pc' := 67) (st' := [.int x2, .ref (x1 + 2), .ref 411]) rfl rfl ?_
          refine y_iald (pc' := 68) rfl (zf_0_9 hk1) hi2 rfl ?_
          refine y_pure (pc' := 69) (st' := [.int (nI 3), .int ((zpi M5 411 4 ((M.1 411 4) ||| (nI 0))).1 (x1 + 2) (Int32.toNatClampNeg x2)), .ref 411]) rfl rfl ?_
          rcases zif_inv h with ⟨hc15, h⟩ | ⟨hc15, h⟩
          · refine y_cmp (pc' := 72) rfl rfl (zc_neF hc15) rfl ?_
            refine y_pure (pc' := 73) (st' := [.int (nI 1), .ref 411]) rfl rfl ?_
            refine y_pure (pc' := 77) rfl rfl ?_
            obtain ⟨hb16, h⟩ := zg_inv h
            refine y_putZ (pc' := 80) rfl rfl zc_411 hb16 rfl ?_
            refine y_pure (pc' := 83) (ls' := [(0, .ref 411), (1, .ref x1), (2, .int (x2 + (nI 1)))]) (st' := []) rfl rfl ?_
            refine y_pure (pc' := 12) rfl rfl ?_
            refine zEx_sub ?_ h
            exact ⟨rfl, rfl, rfl, trivial⟩
          · refine y_cmp (pc' := 76) rfl rfl (zc_neT hc15) rfl ?_
            refine y_pure (pc' := 77) (st' := [.int (nI 0), .ref 411]) rfl rfl ?_
            obtain ⟨hb17, h⟩ := zg_inv h
            refine y_putZ (pc' := 80) rfl rfl zc_411 hb17 rfl ?_
            refine y_pure (pc' := 83) (ls' := [(0, .ref 411), (1, .ref x1), (2, .int (x2 + (nI 1)))]) (st' := []) rfl rfl ?_
            refine y_pure (pc' := 12) rfl rfl ?_
            refine zEx_sub ?_ h
            exact ⟨rfl, rfl, rfl, trivial⟩
    · refine y_cmp (pc' := 47) rfl rfl (zc_neT hc3) rfl ?_
      refine y_pure (pc' := 48) (st' := [.int (nI 1), .int (M.1 411 4), .ref 411]) rfl rfl ?_
      refine y_pure (pc' := 49) (st' := [.int x2, .int (nI 1), .int (M.1 411 4), .ref 411]) rfl rfl ?_
      refine y_pure (pc' := 50) (st' := [.int ((nI 1) <<< (x2 &&& 31)), .int (M.1 411 4), .ref 411]) rfl rfl ?_
      refine y_pure (pc' := 51) (st' := [.int ((M.1 411 4) ||| ((nI 1) <<< (x2 &&& 31))), .ref 411]) rfl rfl ?_
      refine y_putI (pc' := 54) rfl rfl zc_411 rfl ?_
      refine y_pure (pc' := 55) (st' := [.ref 411]) rfl rfl ?_
      refine y_pure (pc' := 56) (st' := [.ref 411, .ref 411]) rfl rfl ?_
      refine y_getf (pc' := 59) (v := .int ((zpi M 411 4 ((M.1 411 4) ||| ((nI 1) <<< (x2 &&& 31)))).1 411 5)) rfl rfl rfl zc_411 rfl rfl ?_
      rcases zif_inv h with ⟨hc18, h⟩ | ⟨hc18, h⟩
      · refine y_cnd (pc' := 76) rfl rfl (zc_eqT hc18) rfl ?_
        refine y_pure (pc' := 77) (st' := [.int (nI 0), .ref 411]) rfl rfl ?_
        obtain ⟨hb19, h⟩ := zg_inv h
        refine y_putZ (pc' := 80) rfl rfl zc_411 hb19 rfl ?_
        refine y_pure (pc' := 83) (ls' := [(0, .ref 411), (1, .ref x1), (2, .int (x2 + (nI 1)))]) (st' := []) rfl rfl ?_
        refine y_pure (pc' := 12) rfl rfl ?_
        refine zEx_sub ?_ h
        exact ⟨rfl, rfl, rfl, trivial⟩
      · refine y_cnd (pc' := 62) rfl rfl (zc_eqF hc18) rfl ?_
        refine y_pure (pc' := 63) (st' := [.ref x1, .ref 411]) rfl rfl ?_
        refine y_getf (pc' := 66) (v := .ref (x1 + 2)) rfl rfl rfl hk1 rfl rfl ?_
        refine y_pure (pc' := 67) (st' := [.int x2, .ref (x1 + 2), .ref 411]) rfl rfl ?_
        refine y_iald (pc' := 68) rfl (zf_0_9 hk1) hi2 rfl ?_
        refine y_pure (pc' := 69) (st' := [.int (nI 3), .int ((zpi M 411 4 ((M.1 411 4) ||| ((nI 1) <<< (x2 &&& 31)))).1 (x1 + 2) (Int32.toNatClampNeg x2)), .ref 411]) rfl rfl ?_
        rcases zif_inv h with ⟨hc20, h⟩ | ⟨hc20, h⟩
        · refine y_cmp (pc' := 72) rfl rfl (zc_neF hc20) rfl ?_
          refine y_pure (pc' := 73) (st' := [.int (nI 1), .ref 411]) rfl rfl ?_
          refine y_pure (pc' := 77) rfl rfl ?_
          obtain ⟨hb21, h⟩ := zg_inv h
          refine y_putZ (pc' := 80) rfl rfl zc_411 hb21 rfl ?_
          refine y_pure (pc' := 83) (ls' := [(0, .ref 411), (1, .ref x1), (2, .int (x2 + (nI 1)))]) (st' := []) rfl rfl ?_
          refine y_pure (pc' := 12) rfl rfl ?_
          refine zEx_sub ?_ h
          exact ⟨rfl, rfl, rfl, trivial⟩
        · refine y_cmp (pc' := 76) rfl rfl (zc_neT hc20) rfl ?_
          refine y_pure (pc' := 77) (st' := [.int (nI 0), .ref 411]) rfl rfl ?_
          obtain ⟨hb22, h⟩ := zg_inv h
          refine y_putZ (pc' := 80) rfl rfl zc_411 hb22 rfl ?_
          refine y_pure (pc' := 83) (ls' := [(0, .ref 411), (1, .ref x1), (2, .int (x2 + (nI 1)))]) (st' := []) rfl rfl ?_
          refine y_pure (pc' := 12) rfl rfl ?_
          refine zEx_sub ?_ h
          exact ⟨rfl, rfl, rfl, trivial⟩
  · refine y_cmp (pc' := 86) rfl rfl (zc_geT hc1) rfl ?_
    refine y_pure (pc' := 87) (st' := [.ref 411]) rfl rfl ?_
    refine y_pure (pc' := 88) (st' := [.int (nI 0), .ref 411]) rfl rfl ?_
    refine y_putI (pc' := 91) rfl rfl zc_411 rfl ?_
    refine y_pure (pc' := 92) (st' := [.int (nI 0)]) rfl rfl ?_
    refine y_pure (pc' := 93) (ls' := [(0, .ref 411), (1, .ref x1), (2, .int (nI 0))]) (st' := []) rfl rfl ?_
    refine zEx_sub ?_ h
    exact ⟨rfl, rfl, rfl, trivial⟩
theorem e_S_layOut_93 {d : Nat} {x1 : Nat} {x2 : Int32} {M : ZM} {r : ZR} (hk1 : zkd x1 = (10, 0)) (h : (if x2 < (nI 36) then zC1 (zEv d zmB_cagesOf [.ref x1, .int x2] M) (fun v4 M3 => (if zin x2 36 = true then zC1 (zEv d zmB_isOpen [.ref x1, .int x2] (zpi M3 545 (Int32.toNatClampNeg x2) (v4 &&& (M3.1 411 4)))) (fun v8 M7 => (if v8 = (nI 0) then h_S_layOut_93 d x1 (x2 + (nI 1)) M7 else (if (M7.1 411 1) < (nI 16) then (if zin (M7.1 411 1) 16 = true then h_S_layOut_93 d x1 (x2 + (nI 1)) (zpi (zpi M7 544 (Int32.toNatClampNeg (M7.1 411 1)) x2) 411 1 (((zpi M7 544 (Int32.toNatClampNeg (M7.1 411 1)) x2).1 411 1) + (nI 1))) else none) else h_S_layOut_93 d x1 (x2 + (nI 1)) M7))) else none)) else some (none, M)) = some r) : h_S_layOut_93 d x1 x2 M = some r := by
  show zEx0 (zEv d) zmS_layOut (93, [(0, .ref 411), (1, .ref x1), (2, .int x2)], [], M) = some r
  refine y_pure (pc' := 94) (st' := [.int x2]) rfl rfl ?_
  refine y_pure (pc' := 96) (st' := [.int (nI 36), .int x2]) rfl rfl ?_
  rcases zif_inv h with ⟨hc1, h⟩ | ⟨hc1, h⟩
  · refine y_cmp (pc' := 99) rfl rfl (zc_geF hc1) rfl ?_
    refine y_pure (pc' := 100) (st' := [.ref 411]) rfl rfl ?_
    refine y_getf (pc' := 103) (v := .ref 545) rfl rfl rfl zc_411 rfl rfl ?_
    refine y_pure (pc' := 104) (st' := [.int x2, .ref 545]) rfl rfl ?_
    refine y_pure (pc' := 105) (st' := [.ref x1, .int x2, .ref 545]) rfl rfl ?_
    refine y_pure (pc' := 106) (st' := [.int x2, .ref x1, .int x2, .ref 545]) rfl rfl ?_
    obtain ⟨v4, M3, he2, h⟩ := zC1_inv h
    refine y_callV (pc' := 109) (y := zmB_cagesOf) (a' := [.int x2]) (st' := [.int x2, .ref 545]) rfl rfl rfl rfl rfl (zrecv_o (o := 0) hk1 rfl) rfl he2 rfl rfl ?_
    refine y_pure (pc' := 110) (st' := [.ref 411, .int v4, .int x2, .ref 545]) rfl rfl ?_
    refine y_getf (pc' := 113) (v := .int (M3.1 411 4)) rfl rfl rfl zc_411 rfl rfl ?_
    refine y_pure (pc' := 114) (st' := [.int (v4 &&& (M3.1 411 4)), .int x2, .ref 545]) rfl rfl ?_
    obtain ⟨hi5, h⟩ := zg_inv h
    refine y_iast (pc' := 115) rfl zc_545 hi5 rfl ?_
    refine y_pure (pc' := 116) (st' := [.ref x1]) rfl rfl ?_
    refine y_pure (pc' := 117) (st' := [.int x2, .ref x1]) rfl rfl ?_
    obtain ⟨v8, M7, he6, h⟩ := zC1_inv h
    refine y_callV (pc' := 120) (y := zmB_isOpen) (a' := [.int x2]) (st' := []) rfl rfl rfl rfl rfl (zrecv_o (o := 0) hk1 rfl) rfl he6 rfl rfl ?_
    rcases zif_inv h with ⟨hc9, h⟩ | ⟨hc9, h⟩
    · refine y_cnd (pc' := 152) rfl rfl (zc_eqT hc9) rfl ?_
      refine y_pure (pc' := 155) (ls' := [(0, .ref 411), (1, .ref x1), (2, .int (x2 + (nI 1)))]) (st' := []) rfl rfl ?_
      refine y_pure (pc' := 93) rfl rfl ?_
      refine zEx_sub ?_ h
      exact ⟨rfl, rfl, rfl, trivial⟩
    · refine y_cnd (pc' := 123) rfl rfl (zc_eqF hc9) rfl ?_
      refine y_pure (pc' := 124) (st' := [.ref 411]) rfl rfl ?_
      refine y_getf (pc' := 127) (v := .int (M7.1 411 1)) rfl rfl rfl zc_411 rfl rfl ?_
      refine y_pure (pc' := 129) (st' := [.int (nI 16), .int (M7.1 411 1)]) rfl rfl ?_
      rcases zif_inv h with ⟨hc10, h⟩ | ⟨hc10, h⟩
      · refine y_cmp (pc' := 132) rfl rfl (zc_geF hc10) rfl ?_
        refine y_pure (pc' := 133) (st' := [.ref 411]) rfl rfl ?_
        refine y_getf (pc' := 136) (v := .ref 544) rfl rfl rfl zc_411 rfl rfl ?_
        refine y_pure (pc' := 137) (st' := [.ref 411, .ref 544]) rfl rfl ?_
        refine y_getf (pc' := 140) (v := .int (M7.1 411 1)) rfl rfl rfl zc_411 rfl rfl ?_
        refine y_pure (pc' := 141) (st' := [.int x2, .int (M7.1 411 1), .ref 544]) rfl rfl ?_
        obtain ⟨hi11, h⟩ := zg_inv h
        refine y_iast (pc' := 142) rfl zc_544 hi11 rfl ?_
        refine y_pure (pc' := 143) (st' := [.ref 411]) rfl rfl ?_
        refine y_pure (pc' := 144) (st' := [.ref 411, .ref 411]) rfl rfl ?_
        refine y_getf (pc' := 147) (v := .int ((zpi M7 544 (Int32.toNatClampNeg (M7.1 411 1)) x2).1 411 1)) rfl rfl rfl zc_411 rfl rfl ?_
        refine y_pure (pc' := 148) (st' := [.int (nI 1), .int ((zpi M7 544 (Int32.toNatClampNeg (M7.1 411 1)) x2).1 411 1), .ref 411]) rfl rfl ?_
        refine y_pure (pc' := 149) (st' := [.int (((zpi M7 544 (Int32.toNatClampNeg (M7.1 411 1)) x2).1 411 1) + (nI 1)), .ref 411]) rfl rfl ?_
        refine y_putI (pc' := 152) rfl rfl zc_411 rfl ?_
        refine y_pure (pc' := 155) (ls' := [(0, .ref 411), (1, .ref x1), (2, .int (x2 + (nI 1)))]) (st' := []) rfl rfl ?_
        refine y_pure (pc' := 93) rfl rfl ?_
        refine zEx_sub ?_ h
        exact ⟨rfl, rfl, rfl, trivial⟩
      · refine y_cmp (pc' := 152) rfl rfl (zc_geT hc10) rfl ?_
        refine y_pure (pc' := 155) (ls' := [(0, .ref 411), (1, .ref x1), (2, .int (x2 + (nI 1)))]) (st' := []) rfl rfl ?_
        refine y_pure (pc' := 93) rfl rfl ?_
        refine zEx_sub ?_ h
        exact ⟨rfl, rfl, rfl, trivial⟩
  · refine y_cmp (pc' := 158) rfl rfl (zc_geT hc1) rfl ?_
    exact y_ret rfl rfl rfl rfl h
theorem e_S_layOut {d : Nat} {x1 : Nat} {M : ZM} {r : ZR} (hk1 : zkd x1 = (10, 0)) (h : (if (nI 1) = nI 0 ∨ (nI 1) = nI 1 then h_S_layOut_12 d x1 (nI 0) (zpi (zpi M 411 4 (nI 0)) 411 5 (nI 1)) else none) = some r) : zEv (d + 1) zmS_layOut [.ref 411, .ref x1] M = some r := by
  rw [zEv_succ]
  show zEx0 (zEv d) zmS_layOut (0, [(0, .ref 411), (1, .ref x1)], [], M) = some r
  refine y_pure (pc' := 1) (st' := [.ref 411]) rfl rfl ?_
  refine y_pure (pc' := 2) (st' := [.int (nI 0), .ref 411]) rfl rfl ?_
  refine y_putI (pc' := 5) rfl rfl zc_411 rfl ?_
  refine y_pure (pc' := 6) (st' := [.ref 411]) rfl rfl ?_
  refine y_pure (pc' := 7) (st' := [.int (nI 1), .ref 411]) rfl rfl ?_
  obtain ⟨hb1, h⟩ := zg_inv h
  refine y_putZ (pc' := 10) rfl rfl zc_411 hb1 rfl ?_
  refine y_pure (pc' := 11) (st' := [.int (nI 0)]) rfl rfl ?_
  refine y_pure (pc' := 12) (ls' := [(0, .ref 411), (1, .ref x1), (2, .int (nI 0))]) (st' := []) rfl rfl ?_
  refine zEx_sub ?_ h
  exact ⟨rfl, rfl, rfl, trivial⟩
noncomputable def h_S_settle_14 (d : Nat) (x1 : Nat) (x4 : Nat) (x5 : Int32) (x6 : Int32) (M : ZM) : Option ZR := zEx0 (zEv d) zmS_settle (14, [(0, .ref 411), (1, .ref x1), (4, .ref x4), (5, .int x5), (6, .int x6)], [], M)
noncomputable def h_S_settle_29 (d : Nat) (x1 : Nat) (x4 : Nat) (x5 : Int32) (x6 : Int32) (x7 : Int32) (M : ZM) : Option ZR := zEx0 (zEv d) zmS_settle (29, [(0, .ref 411), (1, .ref x1), (4, .ref x4), (5, .int x5), (6, .int x6), (7, .int x7)], [], M)
noncomputable def h_S_settle_96 (d : Nat) (x1 : Nat) (x4 : Nat) (x5 : Int32) (x6 : Int32) (x7 : Int32) (x8 : Nat) (x9 : Int32) (M : ZM) : Option ZR := zEx0 (zEv d) zmS_settle (96, [(0, .ref 411), (1, .ref x1), (4, .ref x4), (5, .int x5), (6, .int x6), (7, .int x7), (8, .ref x8), (9, .int x9)], [], M)
theorem e_S_settle_14 {d : Nat} {x1 : Nat} {x4 : Nat} {x5 : Int32} {x6 : Int32} {M : ZM} {r : ZR} (hk1 : zkd x1 = (10, 0)) (hk4 : zkd x4 = (1, 36)) (h : (if x5 = (nI 0) then some (some (.int (nI 1)), M) else (if x6 < (nI 114) then h_S_settle_29 d x1 x4 x5 x6 (nI 0) M else some (some (.int (nI 1)), M))) = some r) : h_S_settle_14 d x1 x4 x5 x6 M = some r := by
  show zEx0 (zEv d) zmS_settle (14, [(0, .ref 411), (1, .ref x1), (4, .ref x4), (5, .int x5), (6, .int x6)], [], M) = some r
  refine y_pure (pc' := 16) (st' := [.int x5]) rfl rfl ?_
  rcases zif_inv h with ⟨hc1, h⟩ | ⟨hc1, h⟩
  · refine y_cnd (pc' := 188) rfl rfl (zc_eqT hc1) rfl ?_
    refine y_pure (pc' := 189) (st' := [.int (nI 1)]) rfl rfl ?_
    exact y_retZ rfl rfl (by decide) h
  · refine y_cnd (pc' := 19) rfl rfl (zc_eqF hc1) rfl ?_
    refine y_pure (pc' := 21) (st' := [.int x6]) rfl rfl ?_
    refine y_pure (pc' := 23) (st' := [.int (nI 114), .int x6]) rfl rfl ?_
    rcases zif_inv h with ⟨hc2, h⟩ | ⟨hc2, h⟩
    · refine y_cmp (pc' := 26) rfl rfl (zc_geF hc2) rfl ?_
      refine y_pure (pc' := 27) (st' := [.int (nI 0)]) rfl rfl ?_
      refine y_pure (pc' := 29) (ls' := [(0, .ref 411), (1, .ref x1), (4, .ref x4), (5, .int x5), (6, .int x6), (7, .int (nI 0))]) (st' := []) rfl rfl ?_
      refine zEx_sub ?_ h
      exact ⟨rfl, rfl, rfl, rfl, rfl, rfl, trivial⟩
    · refine y_cmp (pc' := 188) rfl rfl (zc_geT hc2) rfl ?_
      refine y_pure (pc' := 189) (st' := [.int (nI 1)]) rfl rfl ?_
      exact y_retZ rfl rfl (by decide) h
theorem e_S_settle_29 {d : Nat} {x1 : Nat} {x4 : Nat} {x5 : Int32} {x6 : Int32} {x7 : Int32} {M : ZM} {r : ZR} (hk1 : zkd x1 = (10, 0)) (hk4 : zkd x4 = (1, 36)) (h : (if x7 < (M.1 x1 3) then (if ((x5 >>> (x7 &&& 31)) &&& (nI 1)) = (nI 0) then h_S_settle_29 d x1 x4 x5 x6 (x7 + (nI 1)) M else (if zin x7 12 = true then zC1 (zEv d zmR_weigh [.ref (424 + 10 * (Int32.toNatClampNeg x7)), .ref x4, .ref (x1 + 7 + (Int32.toNatClampNeg x7))] M) (fun v6 M5 => (if v6 = (nI 0) then some (some (.int (nI 0)), M5) else h_S_settle_96 d x1 x4 (x5 &&& (((nI 1) <<< (x7 &&& 31)) ^^^ (-1 : Int32))) x6 x7 (424 + 10 * (Int32.toNatClampNeg x7)) (nI 0) M5)) else none)) else h_S_settle_14 d x1 x4 x5 (x6 + (nI 1)) M) = some r) : h_S_settle_29 d x1 x4 x5 x6 x7 M = some r := by
  show zEx0 (zEv d) zmS_settle (29, [(0, .ref 411), (1, .ref x1), (4, .ref x4), (5, .int x5), (6, .int x6), (7, .int x7)], [], M) = some r
  refine y_pure (pc' := 31) (st' := [.int x7]) rfl rfl ?_
  refine y_pure (pc' := 32) (st' := [.ref x1, .int x7]) rfl rfl ?_
  refine y_getf (pc' := 35) (v := .int (M.1 x1 3)) rfl rfl rfl hk1 rfl rfl ?_
  rcases zif_inv h with ⟨hc1, h⟩ | ⟨hc1, h⟩
  · refine y_cmp (pc' := 38) rfl rfl (zc_geF hc1) rfl ?_
    refine y_pure (pc' := 40) (st' := [.int x5]) rfl rfl ?_
    refine y_pure (pc' := 42) (st' := [.int x7, .int x5]) rfl rfl ?_
    refine y_pure (pc' := 43) (st' := [.int (x5 >>> (x7 &&& 31))]) rfl rfl ?_
    refine y_pure (pc' := 44) (st' := [.int (nI 1), .int (x5 >>> (x7 &&& 31))]) rfl rfl ?_
    refine y_pure (pc' := 45) (st' := [.int ((x5 >>> (x7 &&& 31)) &&& (nI 1))]) rfl rfl ?_
    rcases zif_inv h with ⟨hc2, h⟩ | ⟨hc2, h⟩
    · refine y_cnd (pc' := 48) rfl rfl (zc_neF hc2) rfl ?_
      refine y_pure (pc' := 176) rfl rfl ?_
      refine y_pure (pc' := 179) (ls' := [(0, .ref 411), (1, .ref x1), (4, .ref x4), (5, .int x5), (6, .int x6), (7, .int (x7 + (nI 1)))]) (st' := []) rfl rfl ?_
      refine y_pure (pc' := 29) rfl rfl ?_
      refine zEx_sub ?_ h
      exact ⟨rfl, rfl, rfl, rfl, rfl, rfl, trivial⟩
    · refine y_cnd (pc' := 51) rfl rfl (zc_neT hc2) rfl ?_
      refine y_pure (pc' := 53) (st' := [.int x5]) rfl rfl ?_
      refine y_pure (pc' := 54) (st' := [.int (nI 1), .int x5]) rfl rfl ?_
      refine y_pure (pc' := 56) (st' := [.int x7, .int (nI 1), .int x5]) rfl rfl ?_
      refine y_pure (pc' := 57) (st' := [.int ((nI 1) <<< (x7 &&& 31)), .int x5]) rfl rfl ?_
      refine y_pure (pc' := 58) (st' := [.int (-1 : Int32), .int ((nI 1) <<< (x7 &&& 31)), .int x5]) rfl rfl ?_
      refine y_pure (pc' := 59) (st' := [.int (((nI 1) <<< (x7 &&& 31)) ^^^ (-1 : Int32)), .int x5]) rfl rfl ?_
      refine y_pure (pc' := 60) (st' := [.int (x5 &&& (((nI 1) <<< (x7 &&& 31)) ^^^ (-1 : Int32)))]) rfl rfl ?_
      refine y_pure (pc' := 62) (ls' := [(0, .ref 411), (1, .ref x1), (4, .ref x4), (5, .int (x5 &&& (((nI 1) <<< (x7 &&& 31)) ^^^ (-1 : Int32)))), (6, .int x6), (7, .int x7)]) (st' := []) rfl rfl ?_
      refine y_pure (pc' := 63) (st' := [.ref 411]) rfl rfl ?_
      refine y_getf (pc' := 66) (v := .ref 412) rfl rfl rfl zc_411 rfl rfl ?_
      refine y_getf (pc' := 69) (v := .ref 413) rfl rfl rfl zc_412 rfl rfl ?_
      refine y_pure (pc' := 71) (st' := [.int x7, .ref 413]) rfl rfl ?_
      obtain ⟨hi3, h⟩ := zg_inv h
      refine y_aald (pc' := 72) (q' := 424 + 10 * (Int32.toNatClampNeg x7)) rfl zc_413 hi3 (by show 413 + 11 + 10 * (Int32.toNatClampNeg x7) = _; omega) rfl ?_
      refine y_pure (pc' := 74) (ls' := [(0, .ref 411), (1, .ref x1), (4, .ref x4), (5, .int (x5 &&& (((nI 1) <<< (x7 &&& 31)) ^^^ (-1 : Int32)))), (6, .int x6), (7, .int x7), (8, .ref (424 + 10 * (Int32.toNatClampNeg x7)))]) (st' := []) rfl rfl ?_
      refine y_pure (pc' := 76) (st' := [.ref (424 + 10 * (Int32.toNatClampNeg x7))]) rfl rfl ?_
      refine y_pure (pc' := 78) (st' := [.ref x4, .ref (424 + 10 * (Int32.toNatClampNeg x7))]) rfl rfl ?_
      refine y_pure (pc' := 79) (st' := [.ref x1, .ref x4, .ref (424 + 10 * (Int32.toNatClampNeg x7))]) rfl rfl ?_
      refine y_getf (pc' := 82) (v := .ref (x1 + 6)) rfl rfl rfl hk1 rfl rfl ?_
      refine y_pure (pc' := 84) (st' := [.int x7, .ref (x1 + 6), .ref x4, .ref (424 + 10 * (Int32.toNatClampNeg x7))]) rfl rfl ?_
      refine y_aald (pc' := 85) (q' := x1 + 7 + (Int32.toNatClampNeg x7)) rfl (zf_0_13 hk1) hi3 (congrArg (HAdd.hAdd (x1 + 7)) (Nat.one_mul _)) rfl ?_
      obtain ⟨v6, M5, he4, h⟩ := zC1_inv h
      refine y_callV (pc' := 88) (y := zmR_weigh) (a' := [.ref x4, .ref (x1 + 7 + (Int32.toNatClampNeg x7))]) (st' := []) rfl rfl rfl rfl rfl (zrecv_o (o := 3) (zl_3 zc_413 hi3) rfl) rfl he4 rfl rfl ?_
      rcases zif_inv h with ⟨hc7, h⟩ | ⟨hc7, h⟩
      · refine y_cnd (pc' := 91) rfl rfl (zc_neF hc7) rfl ?_
        refine y_pure (pc' := 92) (st' := [.int (nI 0)]) rfl rfl ?_
        exact y_retZ rfl rfl (by decide) h
      · refine y_cnd (pc' := 93) rfl rfl (zc_neT hc7) rfl ?_
        refine y_pure (pc' := 94) (st' := [.int (nI 0)]) rfl rfl ?_
        refine y_pure (pc' := 96) (ls' := [(0, .ref 411), (1, .ref x1), (4, .ref x4), (5, .int (x5 &&& (((nI 1) <<< (x7 &&& 31)) ^^^ (-1 : Int32)))), (6, .int x6), (7, .int x7), (8, .ref (424 + 10 * (Int32.toNatClampNeg x7))), (9, .int (nI 0))]) (st' := []) rfl rfl ?_
        refine zEx_sub ?_ h
        exact ⟨rfl, rfl, rfl, rfl, rfl, rfl, rfl, rfl, trivial⟩
  · refine y_cmp (pc' := 182) rfl rfl (zc_geT hc1) rfl ?_
    refine y_pure (pc' := 185) (ls' := [(0, .ref 411), (1, .ref x1), (4, .ref x4), (5, .int x5), (6, .int (x6 + (nI 1))), (7, .int x7)]) (st' := []) rfl rfl ?_
    refine y_pure (pc' := 14) rfl rfl ?_
    refine zEx_sub ?_ h
    exact ⟨rfl, rfl, rfl, rfl, rfl, trivial⟩
theorem e_S_settle_96 {d : Nat} {x1 : Nat} {x4 : Nat} {x5 : Int32} {x6 : Int32} {x7 : Int32} {x8 : Nat} {x9 : Int32} {M : ZM} {r : ZR} (hk1 : zkd x1 = (10, 0)) (hk4 : zkd x4 = (1, 36)) (hk8 : zkd x8 = (13, 0)) (h : (if zin x7 12 = true then (if x9 < (M.1 (x1 + 4) (Int32.toNatClampNeg x7)) then (if zin x9 6 = true then zL (M.1 (x1 + 7 + (Int32.toNatClampNeg x7)) (Int32.toNatClampNeg x9)) (fun y4 => (if zin y4 36 = true then zC1 (zEv d zmR_digitsAt [.ref x8, .int x9, .int (M.1 x4 (Int32.toNatClampNeg y4))] M) (fun v9 M8 => (if v9 = (M8.1 x4 (Int32.toNatClampNeg y4)) then h_S_settle_96 d x1 x4 x5 x6 x7 x8 (x9 + (nI 1)) M8 else zL (x5 ||| (((zpi M8 x4 (Int32.toNatClampNeg y4) v9).1 545 (Int32.toNatClampNeg y4)) &&& (((nI 1) <<< (x7 &&& 31)) ^^^ (-1 : Int32)))) (fun y11 => h_S_settle_96 d x1 x4 y11 x6 x7 x8 (x9 + (nI 1)) (zpi M8 x4 (Int32.toNatClampNeg y4) v9)))) else none)) else none) else h_S_settle_29 d x1 x4 x5 x6 (x7 + (nI 1)) M) else none) = some r) : h_S_settle_96 d x1 x4 x5 x6 x7 x8 x9 M = some r := by
  show zEx0 (zEv d) zmS_settle (96, [(0, .ref 411), (1, .ref x1), (4, .ref x4), (5, .int x5), (6, .int x6), (7, .int x7), (8, .ref x8), (9, .int x9)], [], M) = some r
  refine y_pure (pc' := 98) (st' := [.int x9]) rfl rfl ?_
  refine y_pure (pc' := 99) (st' := [.ref x1, .int x9]) rfl rfl ?_
  refine y_getf (pc' := 102) (v := .ref (x1 + 4)) rfl rfl rfl hk1 rfl rfl ?_
  refine y_pure (pc' := 104) (st' := [.int x7, .ref (x1 + 4), .int x9]) rfl rfl ?_
  obtain ⟨hi1, h⟩ := zg_inv h
  refine y_iald (pc' := 105) rfl (zf_0_11 hk1) hi1 rfl ?_
  rcases zif_inv h with ⟨hc2, h⟩ | ⟨hc2, h⟩
  · refine y_cmp (pc' := 108) rfl rfl (zc_geF hc2) rfl ?_
    refine y_pure (pc' := 109) (st' := [.ref x1]) rfl rfl ?_
    refine y_getf (pc' := 112) (v := .ref (x1 + 6)) rfl rfl rfl hk1 rfl rfl ?_
    refine y_pure (pc' := 114) (st' := [.int x7, .ref (x1 + 6)]) rfl rfl ?_
    refine y_aald (pc' := 115) (q' := x1 + 7 + (Int32.toNatClampNeg x7)) rfl (zf_0_13 hk1) hi1 (congrArg (HAdd.hAdd (x1 + 7)) (Nat.one_mul _)) rfl ?_
    refine y_pure (pc' := 117) (st' := [.int x9, .ref (x1 + 7 + (Int32.toNatClampNeg x7))]) rfl rfl ?_
    obtain ⟨hi3, h⟩ := zg_inv h
    refine y_iald (pc' := 118) rfl (zl_0 (zf_0_13 hk1) hi1) hi3 rfl ?_
    obtain ⟨y4, e5, h⟩ := zL_inv h
    refine zT_gen e5 ?_
    refine y_pure (pc' := 120) (ls' := [(0, .ref 411), (1, .ref x1), (4, .ref x4), (5, .int x5), (6, .int x6), (7, .int x7), (8, .ref x8), (9, .int x9), (10, .int y4)]) (st' := []) rfl rfl ?_
    refine y_pure (pc' := 122) (st' := [.ref x8]) rfl rfl ?_
    refine y_pure (pc' := 124) (st' := [.int x9, .ref x8]) rfl rfl ?_
    refine y_pure (pc' := 126) (st' := [.ref x4, .int x9, .ref x8]) rfl rfl ?_
    refine y_pure (pc' := 128) (st' := [.int y4, .ref x4, .int x9, .ref x8]) rfl rfl ?_
    obtain ⟨hi6, h⟩ := zg_inv h
    refine y_iald (pc' := 129) rfl hk4 hi6 rfl ?_
    obtain ⟨v9, M8, he7, h⟩ := zC1_inv h
    refine y_callV (pc' := 132) (y := zmR_digitsAt) (a' := [.int x9, .int (M.1 x4 (Int32.toNatClampNeg y4))]) (st' := []) rfl rfl rfl rfl rfl (zrecv_o (o := 3) hk8 rfl) rfl he7 rfl rfl ?_
    refine y_pure (pc' := 134) (ls' := [(0, .ref 411), (1, .ref x1), (4, .ref x4), (5, .int x5), (6, .int x6), (7, .int x7), (8, .ref x8), (9, .int x9), (10, .int y4), (11, .int v9)]) (st' := []) rfl rfl ?_
    refine y_pure (pc' := 136) (st' := [.int v9]) rfl rfl ?_
    refine y_pure (pc' := 138) (st' := [.ref x4, .int v9]) rfl rfl ?_
    refine y_pure (pc' := 140) (st' := [.int y4, .ref x4, .int v9]) rfl rfl ?_
    refine y_iald (pc' := 141) rfl hk4 hi6 rfl ?_
    rcases zif_inv h with ⟨hc10, h⟩ | ⟨hc10, h⟩
    · refine y_cmp (pc' := 170) rfl rfl (zc_eqT hc10) rfl ?_
      refine y_pure (pc' := 173) (ls' := [(0, .ref 411), (1, .ref x1), (4, .ref x4), (5, .int x5), (6, .int x6), (7, .int x7), (8, .ref x8), (9, .int (x9 + (nI 1))), (10, .int y4), (11, .int v9)]) (st' := []) rfl rfl ?_
      refine y_pure (pc' := 96) rfl rfl ?_
      refine zEx_sub ?_ h
      exact ⟨rfl, rfl, rfl, rfl, rfl, rfl, rfl, rfl, trivial⟩
    · refine y_cmp (pc' := 144) rfl rfl (zc_eqF hc10) rfl ?_
      refine y_pure (pc' := 146) (st' := [.ref x4]) rfl rfl ?_
      refine y_pure (pc' := 148) (st' := [.int y4, .ref x4]) rfl rfl ?_
      refine y_pure (pc' := 150) (st' := [.int v9, .int y4, .ref x4]) rfl rfl ?_
      refine y_iast (pc' := 151) rfl hk4 hi6 rfl ?_
      refine y_pure (pc' := 153) (st' := [.int x5]) rfl rfl ?_
      refine y_pure (pc' := 154) (st' := [.ref 411, .int x5]) rfl rfl ?_
      refine y_getf (pc' := 157) (v := .ref 545) rfl rfl rfl zc_411 rfl rfl ?_
      refine y_pure (pc' := 159) (st' := [.int y4, .ref 545, .int x5]) rfl rfl ?_
      refine y_iald (pc' := 160) rfl zc_545 hi6 rfl ?_
      refine y_pure (pc' := 161) (st' := [.int (nI 1), .int ((zpi M8 x4 (Int32.toNatClampNeg y4) v9).1 545 (Int32.toNatClampNeg y4)), .int x5]) rfl rfl ?_
      refine y_pure (pc' := 163) (st' := [.int x7, .int (nI 1), .int ((zpi M8 x4 (Int32.toNatClampNeg y4) v9).1 545 (Int32.toNatClampNeg y4)), .int x5]) rfl rfl ?_
      refine y_pure (pc' := 164) (st' := [.int ((nI 1) <<< (x7 &&& 31)), .int ((zpi M8 x4 (Int32.toNatClampNeg y4) v9).1 545 (Int32.toNatClampNeg y4)), .int x5]) rfl rfl ?_
      refine y_pure (pc' := 165) (st' := [.int (-1 : Int32), .int ((nI 1) <<< (x7 &&& 31)), .int ((zpi M8 x4 (Int32.toNatClampNeg y4) v9).1 545 (Int32.toNatClampNeg y4)), .int x5]) rfl rfl ?_
      refine y_pure (pc' := 166) (st' := [.int (((nI 1) <<< (x7 &&& 31)) ^^^ (-1 : Int32)), .int ((zpi M8 x4 (Int32.toNatClampNeg y4) v9).1 545 (Int32.toNatClampNeg y4)), .int x5]) rfl rfl ?_
      refine y_pure (pc' := 167) (st' := [.int (((zpi M8 x4 (Int32.toNatClampNeg y4) v9).1 545 (Int32.toNatClampNeg y4)) &&& (((nI 1) <<< (x7 &&& 31)) ^^^ (-1 : Int32))), .int x5]) rfl rfl ?_
      refine y_pure (pc' := 168) (st' := [.int (x5 ||| (((zpi M8 x4 (Int32.toNatClampNeg y4) v9).1 545 (Int32.toNatClampNeg y4)) &&& (((nI 1) <<< (x7 &&& 31)) ^^^ (-1 : Int32))))]) rfl rfl ?_
      obtain ⟨y11, e12, h⟩ := zL_inv h
      refine zT_gen e12 ?_
      refine y_pure (pc' := 170) (ls' := [(0, .ref 411), (1, .ref x1), (4, .ref x4), (5, .int y11), (6, .int x6), (7, .int x7), (8, .ref x8), (9, .int x9), (10, .int y4), (11, .int v9)]) (st' := []) rfl rfl ?_
      refine y_pure (pc' := 173) (ls' := [(0, .ref 411), (1, .ref x1), (4, .ref x4), (5, .int y11), (6, .int x6), (7, .int x7), (8, .ref x8), (9, .int (x9 + (nI 1))), (10, .int y4), (11, .int v9)]) (st' := []) rfl rfl ?_
      refine y_pure (pc' := 96) rfl rfl ?_
      refine zEx_sub ?_ h
      exact ⟨rfl, rfl, rfl, rfl, rfl, rfl, rfl, rfl, trivial⟩
  · refine y_cmp (pc' := 176) rfl rfl (zc_geT hc2) rfl ?_
    refine y_pure (pc' := 179) (ls' := [(0, .ref 411), (1, .ref x1), (4, .ref x4), (5, .int x5), (6, .int x6), (7, .int (x7 + (nI 1))), (8, .ref x8), (9, .int x9)]) (st' := []) rfl rfl ?_
    refine y_pure (pc' := 29) rfl rfl ?_
    refine zEx_sub ?_ h
    exact ⟨rfl, rfl, rfl, rfl, rfl, rfl, trivial⟩
theorem e_S_settle {d : Nat} {x1 : Nat} {x2 : Int32} {x3 : Int32} {M : ZM} {r : ZR} (hk1 : zkd x1 = (10, 0)) (h : (if zin x2 17 = true then h_S_settle_14 d x1 (547 + (Int32.toNatClampNeg x2)) x3 (nI 0) M else none) = some r) : zEv (d + 1) zmS_settle [.ref 411, .ref x1, .int x2, .int x3] M = some r := by
  rw [zEv_succ]
  show zEx0 (zEv d) zmS_settle (0, [(0, .ref 411), (1, .ref x1), (2, .int x2), (3, .int x3)], [], M) = some r
  refine y_pure (pc' := 1) (st' := [.ref 411]) rfl rfl ?_
  refine y_getf (pc' := 4) (v := .ref 546) rfl rfl rfl zc_411 rfl rfl ?_
  refine y_pure (pc' := 5) (st' := [.int x2, .ref 546]) rfl rfl ?_
  obtain ⟨hi1, h⟩ := zg_inv h
  refine y_aald (pc' := 6) (q' := 547 + (Int32.toNatClampNeg x2)) rfl zc_546 hi1 (congrArg (HAdd.hAdd (547)) (Nat.one_mul _)) rfl ?_
  refine y_pure (pc' := 8) (ls' := [(0, .ref 411), (1, .ref x1), (2, .int x2), (3, .int x3), (4, .ref (547 + (Int32.toNatClampNeg x2)))]) (st' := []) rfl rfl ?_
  refine y_pure (pc' := 9) (st' := [.int x3]) rfl rfl ?_
  refine y_pure (pc' := 11) (ls' := [(0, .ref 411), (1, .ref x1), (2, .int x2), (3, .int x3), (4, .ref (547 + (Int32.toNatClampNeg x2))), (5, .int x3)]) (st' := []) rfl rfl ?_
  refine y_pure (pc' := 12) (st' := [.int (nI 0)]) rfl rfl ?_
  refine y_pure (pc' := 14) (ls' := [(0, .ref 411), (1, .ref x1), (2, .int x2), (3, .int x3), (4, .ref (547 + (Int32.toNatClampNeg x2))), (5, .int x3), (6, .int (nI 0))]) (st' := []) rfl rfl ?_
  refine zEx_sub ?_ h
  exact ⟨rfl, rfl, rfl, rfl, rfl, trivial⟩
noncomputable def h_S_sumsFit_4 (d : Nat) (x1 : Nat) (x2 : Int32) (x3 : Int32) (M : ZM) : Option ZR := zEx0 (zEv d) zmS_sumsFit (4, [(0, .ref 411), (1, .ref x1), (2, .int x2), (3, .int x3)], [], M)
noncomputable def h_S_sumsFit_53 (d : Nat) (x2 : Int32) (x3 : Int32) (x4 : Int32) (M : ZM) : Option ZR := zEx0 (zEv d) zmS_sumsFit (53, [(0, .ref 411), (2, .int x2), (3, .int x3), (4, .int x4)], [], M)
noncomputable def h_S_sumsFit_83 (d : Nat) (x2 : Int32) (x3 : Int32) (x4 : Int32) (x5 : Int32) (M : ZM) : Option ZR := zEx0 (zEv d) zmS_sumsFit (83, [(0, .ref 411), (2, .int x2), (3, .int x3), (4, .int x4), (5, .int x5)], [], M)
noncomputable def h_S_sumsFit_125 (d : Nat) (x2 : Int32) (x4 : Int32) (M : ZM) : Option ZR := zEx0 (zEv d) zmS_sumsFit (125, [(0, .ref 411), (2, .int x2), (4, .int x4)], [], M)
theorem e_S_sumsFit_4 {d : Nat} {x1 : Nat} {x2 : Int32} {x3 : Int32} {M : ZM} {r : ZR} (hk1 : zkd x1 = (10, 0)) (h : (if x3 < (M.1 x1 3) then (if x2 < (nI 12) then (if zin x3 12 = true then (if (M.1 (x1 + 2) (Int32.toNatClampNeg x3)) = (nI 0) then (if zin x2 12 = true then zC0 (zEv d zmS_layEquation [.ref 411, .ref x1, .int x3, .ref (565 + (Int32.toNatClampNeg x2))] M) (fun M7 => h_S_sumsFit_4 d x1 (x2 + (nI 1)) (x3 + (nI 1)) M7) else none) else h_S_sumsFit_4 d x1 x2 (x3 + (nI 1)) M) else none) else h_S_sumsFit_53 d x2 (nI 0) (nI 0) M) else h_S_sumsFit_53 d x2 (nI 0) (nI 0) M) = some r) : h_S_sumsFit_4 d x1 x2 x3 M = some r := by
  show zEx0 (zEv d) zmS_sumsFit (4, [(0, .ref 411), (1, .ref x1), (2, .int x2), (3, .int x3)], [], M) = some r
  refine y_pure (pc' := 5) (st' := [.int x3]) rfl rfl ?_
  refine y_pure (pc' := 6) (st' := [.ref x1, .int x3]) rfl rfl ?_
  refine y_getf (pc' := 9) (v := .int (M.1 x1 3)) rfl rfl rfl hk1 rfl rfl ?_
  rcases zif_inv h with ⟨hc1, h⟩ | ⟨hc1, h⟩
  · refine y_cmp (pc' := 12) rfl rfl (zc_geF hc1) rfl ?_
    refine y_pure (pc' := 13) (st' := [.int x2]) rfl rfl ?_
    refine y_pure (pc' := 15) (st' := [.int (nI 12), .int x2]) rfl rfl ?_
    rcases zif_inv h with ⟨hc2, h⟩ | ⟨hc2, h⟩
    · refine y_cmp (pc' := 18) rfl rfl (zc_geF hc2) rfl ?_
      refine y_pure (pc' := 19) (st' := [.ref x1]) rfl rfl ?_
      refine y_getf (pc' := 22) (v := .ref (x1 + 2)) rfl rfl rfl hk1 rfl rfl ?_
      refine y_pure (pc' := 23) (st' := [.int x3, .ref (x1 + 2)]) rfl rfl ?_
      obtain ⟨hi3, h⟩ := zg_inv h
      refine y_iald (pc' := 24) rfl (zf_0_9 hk1) hi3 rfl ?_
      rcases zif_inv h with ⟨hc4, h⟩ | ⟨hc4, h⟩
      · refine y_cnd (pc' := 27) rfl rfl (zc_neF hc4) rfl ?_
        refine y_pure (pc' := 28) (st' := [.ref 411]) rfl rfl ?_
        refine y_pure (pc' := 29) (st' := [.ref x1, .ref 411]) rfl rfl ?_
        refine y_pure (pc' := 30) (st' := [.int x3, .ref x1, .ref 411]) rfl rfl ?_
        refine y_pure (pc' := 31) (st' := [.ref 411, .int x3, .ref x1, .ref 411]) rfl rfl ?_
        refine y_getf (pc' := 34) (v := .ref 564) rfl rfl rfl zc_411 rfl rfl ?_
        refine y_pure (pc' := 35) (st' := [.int x2, .ref 564, .int x3, .ref x1, .ref 411]) rfl rfl ?_
        obtain ⟨hi5, h⟩ := zg_inv h
        refine y_aald (pc' := 36) (q' := 565 + (Int32.toNatClampNeg x2)) rfl zc_564 hi5 (congrArg (HAdd.hAdd (565)) (Nat.one_mul _)) rfl ?_
        obtain ⟨M7, he6, h⟩ := zC0_inv h
        refine y_callV (pc' := 39) (y := zmS_layEquation) (a' := [.ref x1, .int x3, .ref (565 + (Int32.toNatClampNeg x2))]) (st' := []) rfl rfl rfl rfl rfl (zrecv_o (o := 5) zc_411 rfl) rfl he6 rfl rfl ?_
        refine y_pure (pc' := 42) (ls' := [(0, .ref 411), (1, .ref x1), (2, .int (x2 + (nI 1))), (3, .int x3)]) (st' := []) rfl rfl ?_
        refine y_pure (pc' := 45) (ls' := [(0, .ref 411), (1, .ref x1), (2, .int (x2 + (nI 1))), (3, .int (x3 + (nI 1)))]) (st' := []) rfl rfl ?_
        refine y_pure (pc' := 4) rfl rfl ?_
        refine zEx_sub ?_ h
        exact ⟨rfl, rfl, rfl, rfl, trivial⟩
      · refine y_cnd (pc' := 42) rfl rfl (zc_neT hc4) rfl ?_
        refine y_pure (pc' := 45) (ls' := [(0, .ref 411), (1, .ref x1), (2, .int x2), (3, .int (x3 + (nI 1)))]) (st' := []) rfl rfl ?_
        refine y_pure (pc' := 4) rfl rfl ?_
        refine zEx_sub ?_ h
        exact ⟨rfl, rfl, rfl, rfl, trivial⟩
    · refine y_cmp (pc' := 48) rfl rfl (zc_geT hc2) rfl ?_
      refine y_pure (pc' := 49) (st' := [.int (nI 0)]) rfl rfl ?_
      refine y_pure (pc' := 50) (ls' := [(0, .ref 411), (1, .ref x1), (2, .int x2), (3, .int (nI 0))]) (st' := []) rfl rfl ?_
      refine y_pure (pc' := 51) (st' := [.int (nI 0)]) rfl rfl ?_
      refine y_pure (pc' := 53) (ls' := [(0, .ref 411), (1, .ref x1), (2, .int x2), (3, .int (nI 0)), (4, .int (nI 0))]) (st' := []) rfl rfl ?_
      refine zEx_sub ?_ h
      exact ⟨rfl, rfl, rfl, rfl, trivial⟩
  · refine y_cmp (pc' := 48) rfl rfl (zc_geT hc1) rfl ?_
    refine y_pure (pc' := 49) (st' := [.int (nI 0)]) rfl rfl ?_
    refine y_pure (pc' := 50) (ls' := [(0, .ref 411), (1, .ref x1), (2, .int x2), (3, .int (nI 0))]) (st' := []) rfl rfl ?_
    refine y_pure (pc' := 51) (st' := [.int (nI 0)]) rfl rfl ?_
    refine y_pure (pc' := 53) (ls' := [(0, .ref 411), (1, .ref x1), (2, .int x2), (3, .int (nI 0)), (4, .int (nI 0))]) (st' := []) rfl rfl ?_
    refine zEx_sub ?_ h
    exact ⟨rfl, rfl, rfl, rfl, trivial⟩
theorem e_S_sumsFit_53 {d : Nat} {x2 : Int32} {x3 : Int32} {x4 : Int32} {M : ZM} {r : ZR}  (h : (if x4 < (M.1 411 1) then (if x3 < x2 then zC1 (zEv d zmS_bringUp [.ref 411, .int x4, .int x3, .int x2] M) (fun v5 M4 => (if v5 = (nI 0) then h_S_sumsFit_53 d x2 x3 (x4 + (nI 1)) M4 else h_S_sumsFit_83 d x2 x3 x4 (x3 + (nI 1)) M4)) else h_S_sumsFit_125 d x2 x3 M) else h_S_sumsFit_125 d x2 x3 M) = some r) : h_S_sumsFit_53 d x2 x3 x4 M = some r := by
  show zEx0 (zEv d) zmS_sumsFit (53, [(0, .ref 411), (2, .int x2), (3, .int x3), (4, .int x4)], [], M) = some r
  refine y_pure (pc' := 55) (st' := [.int x4]) rfl rfl ?_
  refine y_pure (pc' := 56) (st' := [.ref 411, .int x4]) rfl rfl ?_
  refine y_getf (pc' := 59) (v := .int (M.1 411 1)) rfl rfl rfl zc_411 rfl rfl ?_
  rcases zif_inv h with ⟨hc1, h⟩ | ⟨hc1, h⟩
  · refine y_cmp (pc' := 62) rfl rfl (zc_geF hc1) rfl ?_
    refine y_pure (pc' := 63) (st' := [.int x3]) rfl rfl ?_
    refine y_pure (pc' := 64) (st' := [.int x2, .int x3]) rfl rfl ?_
    rcases zif_inv h with ⟨hc2, h⟩ | ⟨hc2, h⟩
    · refine y_cmp (pc' := 67) rfl rfl (zc_geF hc2) rfl ?_
      refine y_pure (pc' := 68) (st' := [.ref 411]) rfl rfl ?_
      refine y_pure (pc' := 70) (st' := [.int x4, .ref 411]) rfl rfl ?_
      refine y_pure (pc' := 71) (st' := [.int x3, .int x4, .ref 411]) rfl rfl ?_
      refine y_pure (pc' := 72) (st' := [.int x2, .int x3, .int x4, .ref 411]) rfl rfl ?_
      obtain ⟨v5, M4, he3, h⟩ := zC1_inv h
      refine y_callV (pc' := 75) (y := zmS_bringUp) (a' := [.int x4, .int x3, .int x2]) (st' := []) rfl rfl rfl rfl rfl (zrecv_o (o := 5) zc_411 rfl) rfl he3 rfl rfl ?_
      rcases zif_inv h with ⟨hc6, h⟩ | ⟨hc6, h⟩
      · refine y_cnd (pc' := 116) rfl rfl (zc_eqT hc6) rfl ?_
        refine y_pure (pc' := 119) (ls' := [(0, .ref 411), (2, .int x2), (3, .int x3), (4, .int (x4 + (nI 1)))]) (st' := []) rfl rfl ?_
        refine y_pure (pc' := 53) rfl rfl ?_
        refine zEx_sub ?_ h
        exact ⟨rfl, rfl, rfl, rfl, trivial⟩
      · refine y_cnd (pc' := 78) rfl rfl (zc_eqF hc6) rfl ?_
        refine y_pure (pc' := 79) (st' := [.int x3]) rfl rfl ?_
        refine y_pure (pc' := 80) (st' := [.int (nI 1), .int x3]) rfl rfl ?_
        refine y_pure (pc' := 81) (st' := [.int (x3 + (nI 1))]) rfl rfl ?_
        refine y_pure (pc' := 83) (ls' := [(0, .ref 411), (2, .int x2), (3, .int x3), (4, .int x4), (5, .int (x3 + (nI 1)))]) (st' := []) rfl rfl ?_
        refine zEx_sub ?_ h
        exact ⟨rfl, rfl, rfl, rfl, rfl, trivial⟩
    · refine y_cmp (pc' := 122) rfl rfl (zc_geT hc2) rfl ?_
      refine y_pure (pc' := 123) (st' := [.int x3]) rfl rfl ?_
      refine y_pure (pc' := 125) (ls' := [(0, .ref 411), (2, .int x2), (3, .int x3), (4, .int x3)]) (st' := []) rfl rfl ?_
      refine zEx_sub ?_ h
      exact ⟨rfl, rfl, rfl, trivial⟩
  · refine y_cmp (pc' := 122) rfl rfl (zc_geT hc1) rfl ?_
    refine y_pure (pc' := 123) (st' := [.int x3]) rfl rfl ?_
    refine y_pure (pc' := 125) (ls' := [(0, .ref 411), (2, .int x2), (3, .int x3), (4, .int x3)]) (st' := []) rfl rfl ?_
    refine zEx_sub ?_ h
    exact ⟨rfl, rfl, rfl, trivial⟩
theorem e_S_sumsFit_83 {d : Nat} {x2 : Int32} {x3 : Int32} {x4 : Int32} {x5 : Int32} {M : ZM} {r : ZR}  (h : (if x5 < x2 then (if zin x5 12 = true then (if zin x3 12 = true then zC0 (zEv d zmS_reduce [.ref (565 + (Int32.toNatClampNeg x5)), .ref (565 + (Int32.toNatClampNeg x3)), .int x4] M) (fun M5 => h_S_sumsFit_83 d x2 x3 x4 (x5 + (nI 1)) M5) else none) else none) else h_S_sumsFit_53 d x2 (x3 + (nI 1)) (x4 + (nI 1)) M) = some r) : h_S_sumsFit_83 d x2 x3 x4 x5 M = some r := by
  show zEx0 (zEv d) zmS_sumsFit (83, [(0, .ref 411), (2, .int x2), (3, .int x3), (4, .int x4), (5, .int x5)], [], M) = some r
  refine y_pure (pc' := 85) (st' := [.int x5]) rfl rfl ?_
  refine y_pure (pc' := 86) (st' := [.int x2, .int x5]) rfl rfl ?_
  rcases zif_inv h with ⟨hc1, h⟩ | ⟨hc1, h⟩
  · refine y_cmp (pc' := 89) rfl rfl (zc_geF hc1) rfl ?_
    refine y_pure (pc' := 90) (st' := [.ref 411]) rfl rfl ?_
    refine y_getf (pc' := 93) (v := .ref 564) rfl rfl rfl zc_411 rfl rfl ?_
    refine y_pure (pc' := 95) (st' := [.int x5, .ref 564]) rfl rfl ?_
    obtain ⟨hi2, h⟩ := zg_inv h
    refine y_aald (pc' := 96) (q' := 565 + (Int32.toNatClampNeg x5)) rfl zc_564 hi2 (congrArg (HAdd.hAdd (565)) (Nat.one_mul _)) rfl ?_
    refine y_pure (pc' := 97) (st' := [.ref 411, .ref (565 + (Int32.toNatClampNeg x5))]) rfl rfl ?_
    refine y_getf (pc' := 100) (v := .ref 564) rfl rfl rfl zc_411 rfl rfl ?_
    refine y_pure (pc' := 101) (st' := [.int x3, .ref 564, .ref (565 + (Int32.toNatClampNeg x5))]) rfl rfl ?_
    obtain ⟨hi3, h⟩ := zg_inv h
    refine y_aald (pc' := 102) (q' := 565 + (Int32.toNatClampNeg x3)) rfl zc_564 hi3 (congrArg (HAdd.hAdd (565)) (Nat.one_mul _)) rfl ?_
    refine y_pure (pc' := 104) (st' := [.int x4, .ref (565 + (Int32.toNatClampNeg x3)), .ref (565 + (Int32.toNatClampNeg x5))]) rfl rfl ?_
    obtain ⟨M5, he4, h⟩ := zC0_inv h
    refine y_callS (pc' := 107) (y := zmS_reduce) (a := [.ref (565 + (Int32.toNatClampNeg x5)), .ref (565 + (Int32.toNatClampNeg x3)), .int x4]) (st' := []) rfl rfl rfl rfl rfl rfl he4 rfl rfl ?_
    refine y_pure (pc' := 110) (ls' := [(0, .ref 411), (2, .int x2), (3, .int x3), (4, .int x4), (5, .int (x5 + (nI 1)))]) (st' := []) rfl rfl ?_
    refine y_pure (pc' := 83) rfl rfl ?_
    refine zEx_sub ?_ h
    exact ⟨rfl, rfl, rfl, rfl, rfl, trivial⟩
  · refine y_cmp (pc' := 113) rfl rfl (zc_geT hc1) rfl ?_
    refine y_pure (pc' := 116) (ls' := [(0, .ref 411), (2, .int x2), (3, .int (x3 + (nI 1))), (4, .int x4), (5, .int x5)]) (st' := []) rfl rfl ?_
    refine y_pure (pc' := 119) (ls' := [(0, .ref 411), (2, .int x2), (3, .int (x3 + (nI 1))), (4, .int (x4 + (nI 1))), (5, .int x5)]) (st' := []) rfl rfl ?_
    refine y_pure (pc' := 53) rfl rfl ?_
    refine zEx_sub ?_ h
    exact ⟨rfl, rfl, rfl, rfl, trivial⟩
theorem e_S_sumsFit_125 {d : Nat} {x2 : Int32} {x4 : Int32} {M : ZM} {r : ZR}  (h : (if x4 < x2 then (if zin x4 12 = true then (if (M.1 (565 + (Int32.toNatClampNeg x4)) 16) = (nI 0) then h_S_sumsFit_125 d x2 (x4 + (nI 1)) M else some (some (.int (nI 0)), M)) else none) else some (some (.int (nI 1)), M)) = some r) : h_S_sumsFit_125 d x2 x4 M = some r := by
  show zEx0 (zEv d) zmS_sumsFit (125, [(0, .ref 411), (2, .int x2), (4, .int x4)], [], M) = some r
  refine y_pure (pc' := 127) (st' := [.int x4]) rfl rfl ?_
  refine y_pure (pc' := 128) (st' := [.int x2, .int x4]) rfl rfl ?_
  rcases zif_inv h with ⟨hc1, h⟩ | ⟨hc1, h⟩
  · refine y_cmp (pc' := 131) rfl rfl (zc_geF hc1) rfl ?_
    refine y_pure (pc' := 132) (st' := [.ref 411]) rfl rfl ?_
    refine y_getf (pc' := 135) (v := .ref 564) rfl rfl rfl zc_411 rfl rfl ?_
    refine y_pure (pc' := 137) (st' := [.int x4, .ref 564]) rfl rfl ?_
    obtain ⟨hi2, h⟩ := zg_inv h
    refine y_aald (pc' := 138) (q' := 565 + (Int32.toNatClampNeg x4)) rfl zc_564 hi2 (congrArg (HAdd.hAdd (565)) (Nat.one_mul _)) rfl ?_
    refine y_pure (pc' := 140) (st' := [.int (nI 16), .ref (565 + (Int32.toNatClampNeg x4))]) rfl rfl ?_
    refine y_iald (pc' := 141) rfl (zl_5 zc_564 hi2) (by decide) rfl ?_
    rcases zif_inv h with ⟨hc3, h⟩ | ⟨hc3, h⟩
    · refine y_cnd (pc' := 146) rfl rfl (zc_eqT hc3) rfl ?_
      refine y_pure (pc' := 149) (ls' := [(0, .ref 411), (2, .int x2), (4, .int (x4 + (nI 1)))]) (st' := []) rfl rfl ?_
      refine y_pure (pc' := 125) rfl rfl ?_
      refine zEx_sub ?_ h
      exact ⟨rfl, rfl, rfl, trivial⟩
    · refine y_cnd (pc' := 144) rfl rfl (zc_eqF hc3) rfl ?_
      refine y_pure (pc' := 145) (st' := [.int (nI 0)]) rfl rfl ?_
      exact y_retZ rfl rfl (by decide) h
  · refine y_cmp (pc' := 152) rfl rfl (zc_geT hc1) rfl ?_
    refine y_pure (pc' := 153) (st' := [.int (nI 1)]) rfl rfl ?_
    exact y_retZ rfl rfl (by decide) h
theorem e_S_sumsFit {d : Nat} {x1 : Nat} {M : ZM} {r : ZR} (hk1 : zkd x1 = (10, 0)) (h : h_S_sumsFit_4 d x1 (nI 0) (nI 0) M = some r) : zEv (d + 1) zmS_sumsFit [.ref 411, .ref x1] M = some r := by
  rw [zEv_succ]
  show zEx0 (zEv d) zmS_sumsFit (0, [(0, .ref 411), (1, .ref x1)], [], M) = some r
  refine y_pure (pc' := 1) (st' := [.int (nI 0)]) rfl rfl ?_
  refine y_pure (pc' := 2) (ls' := [(0, .ref 411), (1, .ref x1), (2, .int (nI 0))]) (st' := []) rfl rfl ?_
  refine y_pure (pc' := 3) (st' := [.int (nI 0)]) rfl rfl ?_
  refine y_pure (pc' := 4) (ls' := [(0, .ref 411), (1, .ref x1), (2, .int (nI 0)), (3, .int (nI 0))]) (st' := []) rfl rfl ?_
  refine zEx_sub ?_ h
  exact ⟨rfl, rfl, rfl, rfl, trivial⟩
noncomputable def h_S_layEquation_11 (d : Nat) (x1 : Nat) (x2 : Int32) (x3 : Nat) (x4 : Int32) (x5 : Int32) (M : ZM) : Option ZR := zEx0 (zEv d) zmS_layEquation (11, [(0, .ref 411), (1, .ref x1), (2, .int x2), (3, .ref x3), (4, .int x4), (5, .int x5)], [], M)
theorem e_S_layEquation_11 {d : Nat} {x1 : Nat} {x2 : Int32} {x3 : Nat} {x4 : Int32} {x5 : Int32} {M : ZM} {r : ZR} (hk1 : zkd x1 = (10, 0)) (hk3 : zkd x3 = (1, 17)) (h : (if x5 < (nI 16) then (if zin x5 17 = true then (if x5 < ((zpi M x3 (Int32.toNatClampNeg x5) (nI 0)).1 411 1) then (if zin x2 12 = true then (if zin x5 16 = true then (if (lg_cmp ((((zpi M x3 (Int32.toNatClampNeg x5) (nI 0)).2 (x1 + 5) (Int32.toNatClampNeg x2)) >>> (Int32.toInt64 ((zpi M x3 (Int32.toNatClampNeg x5) (nI 0)).1 544 (Int32.toNatClampNeg x5)) &&& 63)) &&& (nJ 1)) (nJ 1)) = (nI 0) then (if zin ((zpi M x3 (Int32.toNatClampNeg x5) (nI 0)).1 544 (Int32.toNatClampNeg x5)) 36 = true then zL ((zpi M x3 (Int32.toNatClampNeg x5) (nI 0)).1 547 (Int32.toNatClampNeg ((zpi M x3 (Int32.toNatClampNeg x5) (nI 0)).1 544 (Int32.toNatClampNeg x5)))) (fun y8 => zC1 (zEv d zmJI_bitCount [.int y8] (zpi M x3 (Int32.toNatClampNeg x5) (nI 0))) (fun v12 M11 => (if v12 = (nI 1) then zC1 (zEv d zmC_leastDigit [.int y8] (zpi M11 x3 (Int32.toNatClampNeg x5) (nI 0))) (fun v18 M17 => h_S_layEquation_11 d x1 x2 x3 (x4 - v18) (x5 + (nI 1)) M17) else h_S_layEquation_11 d x1 x2 x3 (x4 - (nI 0)) (x5 + (nI 1)) (zpi M11 x3 (Int32.toNatClampNeg x5) (nI 1))))) else none) else h_S_layEquation_11 d x1 x2 x3 x4 (x5 + (nI 1)) (zpi M x3 (Int32.toNatClampNeg x5) (nI 0))) else none) else none) else h_S_layEquation_11 d x1 x2 x3 x4 (x5 + (nI 1)) (zpi M x3 (Int32.toNatClampNeg x5) (nI 0))) else none) else zC1 (zEv d zmJM_floorMod [.int x4, .int (nI 32749)] M) (fun v23 M22 => some (none, (zpi M22 x3 16 v23)))) = some r) : h_S_layEquation_11 d x1 x2 x3 x4 x5 M = some r := by
  show zEx0 (zEv d) zmS_layEquation (11, [(0, .ref 411), (1, .ref x1), (2, .int x2), (3, .ref x3), (4, .int x4), (5, .int x5)], [], M) = some r
  refine y_pure (pc' := 13) (st' := [.int x5]) rfl rfl ?_
  refine y_pure (pc' := 15) (st' := [.int (nI 16), .int x5]) rfl rfl ?_
  rcases zif_inv h with ⟨hc1, h⟩ | ⟨hc1, h⟩
  · refine y_cmp (pc' := 18) rfl rfl (zc_geF hc1) rfl ?_
    refine y_pure (pc' := 19) (st' := [.ref x3]) rfl rfl ?_
    refine y_pure (pc' := 21) (st' := [.int x5, .ref x3]) rfl rfl ?_
    refine y_pure (pc' := 22) (st' := [.int (nI 0), .int x5, .ref x3]) rfl rfl ?_
    obtain ⟨hi2, h⟩ := zg_inv h
    refine y_iast (pc' := 23) rfl hk3 hi2 rfl ?_
    refine y_pure (pc' := 25) (st' := [.int x5]) rfl rfl ?_
    refine y_pure (pc' := 26) (st' := [.ref 411, .int x5]) rfl rfl ?_
    refine y_getf (pc' := 29) (v := .int ((zpi M x3 (Int32.toNatClampNeg x5) (nI 0)).1 411 1)) rfl rfl rfl zc_411 rfl rfl ?_
    rcases zif_inv h with ⟨hc3, h⟩ | ⟨hc3, h⟩
    · refine y_cmp (pc' := 32) rfl rfl (zc_geF hc3) rfl ?_
      refine y_pure (pc' := 33) (st' := [.ref x1]) rfl rfl ?_
      refine y_getf (pc' := 36) (v := .ref (x1 + 5)) rfl rfl rfl hk1 rfl rfl ?_
      refine y_pure (pc' := 37) (st' := [.int x2, .ref (x1 + 5)]) rfl rfl ?_
      obtain ⟨hi4, h⟩ := zg_inv h
      refine y_lald (pc' := 38) rfl (zf_0_12 hk1) hi4 rfl ?_
      refine y_pure (pc' := 39) (st' := [.ref 411, .long ((zpi M x3 (Int32.toNatClampNeg x5) (nI 0)).2 (x1 + 5) (Int32.toNatClampNeg x2))]) rfl rfl ?_
      refine y_getf (pc' := 42) (v := .ref 544) rfl rfl rfl zc_411 rfl rfl ?_
      refine y_pure (pc' := 44) (st' := [.int x5, .ref 544, .long ((zpi M x3 (Int32.toNatClampNeg x5) (nI 0)).2 (x1 + 5) (Int32.toNatClampNeg x2))]) rfl rfl ?_
      obtain ⟨hi5, h⟩ := zg_inv h
      refine y_iald (pc' := 45) rfl zc_544 hi5 rfl ?_
      refine y_pure (pc' := 46) (st' := [.long (((zpi M x3 (Int32.toNatClampNeg x5) (nI 0)).2 (x1 + 5) (Int32.toNatClampNeg x2)) >>> (Int32.toInt64 ((zpi M x3 (Int32.toNatClampNeg x5) (nI 0)).1 544 (Int32.toNatClampNeg x5)) &&& 63))]) rfl rfl ?_
      refine y_pure (pc' := 47) (st' := [.long (nJ 1), .long (((zpi M x3 (Int32.toNatClampNeg x5) (nI 0)).2 (x1 + 5) (Int32.toNatClampNeg x2)) >>> (Int32.toInt64 ((zpi M x3 (Int32.toNatClampNeg x5) (nI 0)).1 544 (Int32.toNatClampNeg x5)) &&& 63))]) rfl rfl ?_
      refine y_pure (pc' := 48) (st' := [.long ((((zpi M x3 (Int32.toNatClampNeg x5) (nI 0)).2 (x1 + 5) (Int32.toNatClampNeg x2)) >>> (Int32.toInt64 ((zpi M x3 (Int32.toNatClampNeg x5) (nI 0)).1 544 (Int32.toNatClampNeg x5)) &&& 63)) &&& (nJ 1))]) rfl rfl ?_
      refine y_pure (pc' := 49) (st' := [.long (nJ 1), .long ((((zpi M x3 (Int32.toNatClampNeg x5) (nI 0)).2 (x1 + 5) (Int32.toNatClampNeg x2)) >>> (Int32.toInt64 ((zpi M x3 (Int32.toNatClampNeg x5) (nI 0)).1 544 (Int32.toNatClampNeg x5)) &&& 63)) &&& (nJ 1))]) rfl rfl ?_
      refine y_pure (pc' := 50) (st' := [.int (lg_cmp ((((zpi M x3 (Int32.toNatClampNeg x5) (nI 0)).2 (x1 + 5) (Int32.toNatClampNeg x2)) >>> (Int32.toInt64 ((zpi M x3 (Int32.toNatClampNeg x5) (nI 0)).1 544 (Int32.toNatClampNeg x5)) &&& 63)) &&& (nJ 1)) (nJ 1))]) rfl rfl ?_
      rcases zif_inv h with ⟨hc6, h⟩ | ⟨hc6, h⟩
      · refine y_cnd (pc' := 53) rfl rfl (zc_neF hc6) rfl ?_
        refine y_pure (pc' := 54) (st' := [.ref 411]) rfl rfl ?_
        refine y_getf (pc' := 57) (v := .ref 546) rfl rfl rfl zc_411 rfl rfl ?_
        refine y_pure (pc' := 58) (st' := [.int (nI 0), .ref 546]) rfl rfl ?_
        refine y_aald (pc' := 59) (q' := 547) rfl zc_546 (by decide) rfl rfl ?_
        refine y_pure (pc' := 60) (st' := [.ref 411, .ref 547]) rfl rfl ?_
        refine y_getf (pc' := 63) (v := .ref 544) rfl rfl rfl zc_411 rfl rfl ?_
        refine y_pure (pc' := 65) (st' := [.int x5, .ref 544, .ref 547]) rfl rfl ?_
        refine y_iald (pc' := 66) rfl zc_544 hi5 rfl ?_
        obtain ⟨hi7, h⟩ := zg_inv h
        refine y_iald (pc' := 67) rfl zc_547 hi7 rfl ?_
        obtain ⟨y8, e9, h⟩ := zL_inv h
        refine zT_gen e9 ?_
        refine y_pure (pc' := 69) (ls' := [(0, .ref 411), (1, .ref x1), (2, .int x2), (3, .ref x3), (4, .int x4), (5, .int x5), (6, .int y8)]) (st' := []) rfl rfl ?_
        refine y_pure (pc' := 71) (st' := [.int y8]) rfl rfl ?_
        obtain ⟨v12, M11, he10, h⟩ := zC1_inv h
        refine y_callS (pc' := 74) (y := zmJI_bitCount) (a := [.int y8]) (st' := []) rfl rfl rfl rfl rfl rfl he10 rfl rfl ?_
        refine y_pure (pc' := 75) (st' := [.int (nI 1), .int v12]) rfl rfl ?_
        rcases zif_inv h with ⟨hc13, h⟩ | ⟨hc13, h⟩
        · refine y_cmp (pc' := 78) rfl rfl (zc_neF hc13) rfl ?_
          refine y_pure (pc' := 79) (st' := [.int (nI 1)]) rfl rfl ?_
          refine y_pure (pc' := 83) rfl rfl ?_
          refine y_pure (pc' := 85) (ls' := [(0, .ref 411), (1, .ref x1), (2, .int x2), (3, .ref x3), (4, .int x4), (5, .int x5), (6, .int y8), (7, .int (nI 1))]) (st' := []) rfl rfl ?_
          refine y_pure (pc' := 86) (st' := [.ref x3]) rfl rfl ?_
          refine y_pure (pc' := 88) (st' := [.int x5, .ref x3]) rfl rfl ?_
          refine y_pure (pc' := 90) (st' := [.int (nI 1), .int x5, .ref x3]) rfl rfl ?_
          refine y_cnd (pc' := 93) rfl rfl (zc_eqF (by decide)) rfl ?_
          refine y_pure (pc' := 94) (st' := [.int (nI 0), .int x5, .ref x3]) rfl rfl ?_
          refine y_pure (pc' := 98) rfl rfl ?_
          refine y_iast (pc' := 99) rfl hk3 hi2 rfl ?_
          refine y_pure (pc' := 101) (st' := [.int x4]) rfl rfl ?_
          refine y_pure (pc' := 103) (st' := [.int (nI 1), .int x4]) rfl rfl ?_
          refine y_cnd (pc' := 106) rfl rfl (zc_eqF (by decide)) rfl ?_
          refine y_pure (pc' := 108) (st' := [.int y8, .int x4]) rfl rfl ?_
          obtain ⟨v18, M17, he16, h⟩ := zC1_inv h
          refine y_callS (pc' := 111) (y := zmC_leastDigit) (a := [.int y8]) (st' := [.int x4]) rfl rfl rfl rfl rfl rfl he16 rfl rfl ?_
          refine y_pure (pc' := 115) rfl rfl ?_
          refine y_pure (pc' := 116) (st' := [.int (x4 - v18)]) rfl rfl ?_
          refine y_pure (pc' := 118) (ls' := [(0, .ref 411), (1, .ref x1), (2, .int x2), (3, .ref x3), (4, .int (x4 - v18)), (5, .int x5), (6, .int y8), (7, .int (nI 1))]) (st' := []) rfl rfl ?_
          refine y_pure (pc' := 121) (ls' := [(0, .ref 411), (1, .ref x1), (2, .int x2), (3, .ref x3), (4, .int (x4 - v18)), (5, .int (x5 + (nI 1))), (6, .int y8), (7, .int (nI 1))]) (st' := []) rfl rfl ?_
          refine y_pure (pc' := 11) rfl rfl ?_
          refine zEx_sub ?_ h
          exact ⟨rfl, rfl, rfl, rfl, rfl, rfl, trivial⟩
        · refine y_cmp (pc' := 82) rfl rfl (zc_neT hc13) rfl ?_
          refine y_pure (pc' := 83) (st' := [.int (nI 0)]) rfl rfl ?_
          refine y_pure (pc' := 85) (ls' := [(0, .ref 411), (1, .ref x1), (2, .int x2), (3, .ref x3), (4, .int x4), (5, .int x5), (6, .int y8), (7, .int (nI 0))]) (st' := []) rfl rfl ?_
          refine y_pure (pc' := 86) (st' := [.ref x3]) rfl rfl ?_
          refine y_pure (pc' := 88) (st' := [.int x5, .ref x3]) rfl rfl ?_
          refine y_pure (pc' := 90) (st' := [.int (nI 0), .int x5, .ref x3]) rfl rfl ?_
          refine y_cnd (pc' := 97) rfl rfl (zc_eqT (by decide)) rfl ?_
          refine y_pure (pc' := 98) (st' := [.int (nI 1), .int x5, .ref x3]) rfl rfl ?_
          refine y_iast (pc' := 99) rfl hk3 hi2 rfl ?_
          refine y_pure (pc' := 101) (st' := [.int x4]) rfl rfl ?_
          refine y_pure (pc' := 103) (st' := [.int (nI 0), .int x4]) rfl rfl ?_
          refine y_cnd (pc' := 114) rfl rfl (zc_eqT (by decide)) rfl ?_
          refine y_pure (pc' := 115) (st' := [.int (nI 0), .int x4]) rfl rfl ?_
          refine y_pure (pc' := 116) (st' := [.int (x4 - (nI 0))]) rfl rfl ?_
          refine y_pure (pc' := 118) (ls' := [(0, .ref 411), (1, .ref x1), (2, .int x2), (3, .ref x3), (4, .int (x4 - (nI 0))), (5, .int x5), (6, .int y8), (7, .int (nI 0))]) (st' := []) rfl rfl ?_
          refine y_pure (pc' := 121) (ls' := [(0, .ref 411), (1, .ref x1), (2, .int x2), (3, .ref x3), (4, .int (x4 - (nI 0))), (5, .int (x5 + (nI 1))), (6, .int y8), (7, .int (nI 0))]) (st' := []) rfl rfl ?_
          refine y_pure (pc' := 11) rfl rfl ?_
          refine zEx_sub ?_ h
          exact ⟨rfl, rfl, rfl, rfl, rfl, rfl, trivial⟩
      · refine y_cnd (pc' := 118) rfl rfl (zc_neT hc6) rfl ?_
        refine y_pure (pc' := 121) (ls' := [(0, .ref 411), (1, .ref x1), (2, .int x2), (3, .ref x3), (4, .int x4), (5, .int (x5 + (nI 1)))]) (st' := []) rfl rfl ?_
        refine y_pure (pc' := 11) rfl rfl ?_
        refine zEx_sub ?_ h
        exact ⟨rfl, rfl, rfl, rfl, rfl, rfl, trivial⟩
    · refine y_cmp (pc' := 118) rfl rfl (zc_geT hc3) rfl ?_
      refine y_pure (pc' := 121) (ls' := [(0, .ref 411), (1, .ref x1), (2, .int x2), (3, .ref x3), (4, .int x4), (5, .int (x5 + (nI 1)))]) (st' := []) rfl rfl ?_
      refine y_pure (pc' := 11) rfl rfl ?_
      refine zEx_sub ?_ h
      exact ⟨rfl, rfl, rfl, rfl, rfl, rfl, trivial⟩
  · refine y_cmp (pc' := 124) rfl rfl (zc_geT hc1) rfl ?_
    refine y_pure (pc' := 125) (st' := [.ref x3]) rfl rfl ?_
    refine y_pure (pc' := 127) (st' := [.int (nI 16), .ref x3]) rfl rfl ?_
    refine y_pure (pc' := 129) (st' := [.int x4, .int (nI 16), .ref x3]) rfl rfl ?_
    refine y_pure (pc' := 132) (st' := [.int (nI 32749), .int x4, .int (nI 16), .ref x3]) rfl rfl ?_
    obtain ⟨v23, M22, he21, h⟩ := zC1_inv h
    refine y_callS (pc' := 135) (y := zmJM_floorMod) (a := [.int x4, .int (nI 32749)]) (st' := [.int (nI 16), .ref x3]) rfl rfl rfl rfl rfl rfl he21 rfl rfl ?_
    refine y_iast (pc' := 136) rfl hk3 (by decide) rfl ?_
    exact y_ret rfl rfl rfl rfl h
theorem e_S_layEquation {d : Nat} {x1 : Nat} {x2 : Int32} {x3 : Nat} {M : ZM} {r : ZR} (hk1 : zkd x1 = (10, 0)) (hk3 : zkd x3 = (1, 17)) (h : (if zin x2 12 = true then h_S_layEquation_11 d x1 x2 x3 (M.1 (x1 + 3) (Int32.toNatClampNeg x2)) (nI 0) M else none) = some r) : zEv (d + 1) zmS_layEquation [.ref 411, .ref x1, .int x2, .ref x3] M = some r := by
  rw [zEv_succ]
  show zEx0 (zEv d) zmS_layEquation (0, [(0, .ref 411), (1, .ref x1), (2, .int x2), (3, .ref x3)], [], M) = some r
  refine y_pure (pc' := 1) (st' := [.ref x1]) rfl rfl ?_
  refine y_getf (pc' := 4) (v := .ref (x1 + 3)) rfl rfl rfl hk1 rfl rfl ?_
  refine y_pure (pc' := 5) (st' := [.int x2, .ref (x1 + 3)]) rfl rfl ?_
  obtain ⟨hi1, h⟩ := zg_inv h
  refine y_iald (pc' := 6) rfl (zf_0_10 hk1) hi1 rfl ?_
  refine y_pure (pc' := 8) (ls' := [(0, .ref 411), (1, .ref x1), (2, .int x2), (3, .ref x3), (4, .int (M.1 (x1 + 3) (Int32.toNatClampNeg x2)))]) (st' := []) rfl rfl ?_
  refine y_pure (pc' := 9) (st' := [.int (nI 0)]) rfl rfl ?_
  refine y_pure (pc' := 11) (ls' := [(0, .ref 411), (1, .ref x1), (2, .int x2), (3, .ref x3), (4, .int (M.1 (x1 + 3) (Int32.toNatClampNeg x2))), (5, .int (nI 0))]) (st' := []) rfl rfl ?_
  refine zEx_sub ?_ h
  exact ⟨rfl, rfl, rfl, rfl, rfl, rfl, trivial⟩
noncomputable def h_S_bringUp_3 (d : Nat) (x1 : Int32) (x2 : Int32) (x3 : Int32) (x4 : Int32) (M : ZM) : Option ZR := zEx0 (zEv d) zmS_bringUp (3, [(0, .ref 411), (1, .int x1), (2, .int x2), (3, .int x3), (4, .int x4)], [], M)
noncomputable def h_S_bringUp_24 (d : Nat) (x2 : Int32) (x4 : Int32) (x5 : Int32) (M : ZM) : Option ZR := zEx0 (zEv d) zmS_bringUp (24, [(0, .ref 411), (2, .int x2), (4, .int x4), (5, .int x5)], [], M)
theorem e_S_bringUp_3 {d : Nat} {x1 : Int32} {x2 : Int32} {x3 : Int32} {x4 : Int32} {M : ZM} {r : ZR}  (h : (if x4 < x3 then (if zin x4 12 = true then (if zin x1 17 = true then (if (M.1 (565 + (Int32.toNatClampNeg x4)) (Int32.toNatClampNeg x1)) = (nI 0) then h_S_bringUp_3 d x1 x2 x3 (x4 + (nI 1)) M else h_S_bringUp_24 d x2 x4 (nI 0) M) else none) else none) else some (some (.int (nI 0)), M)) = some r) : h_S_bringUp_3 d x1 x2 x3 x4 M = some r := by
  show zEx0 (zEv d) zmS_bringUp (3, [(0, .ref 411), (1, .int x1), (2, .int x2), (3, .int x3), (4, .int x4)], [], M) = some r
  refine y_pure (pc' := 5) (st' := [.int x4]) rfl rfl ?_
  refine y_pure (pc' := 6) (st' := [.int x3, .int x4]) rfl rfl ?_
  rcases zif_inv h with ⟨hc1, h⟩ | ⟨hc1, h⟩
  · refine y_cmp (pc' := 9) rfl rfl (zc_geF hc1) rfl ?_
    refine y_pure (pc' := 10) (st' := [.ref 411]) rfl rfl ?_
    refine y_getf (pc' := 13) (v := .ref 564) rfl rfl rfl zc_411 rfl rfl ?_
    refine y_pure (pc' := 15) (st' := [.int x4, .ref 564]) rfl rfl ?_
    obtain ⟨hi2, h⟩ := zg_inv h
    refine y_aald (pc' := 16) (q' := 565 + (Int32.toNatClampNeg x4)) rfl zc_564 hi2 (congrArg (HAdd.hAdd (565)) (Nat.one_mul _)) rfl ?_
    refine y_pure (pc' := 17) (st' := [.int x1, .ref (565 + (Int32.toNatClampNeg x4))]) rfl rfl ?_
    obtain ⟨hi3, h⟩ := zg_inv h
    refine y_iald (pc' := 18) rfl (zl_5 zc_564 hi2) hi3 rfl ?_
    rcases zif_inv h with ⟨hc4, h⟩ | ⟨hc4, h⟩
    · refine y_cnd (pc' := 81) rfl rfl (zc_eqT hc4) rfl ?_
      refine y_pure (pc' := 84) (ls' := [(0, .ref 411), (1, .int x1), (2, .int x2), (3, .int x3), (4, .int (x4 + (nI 1)))]) (st' := []) rfl rfl ?_
      refine y_pure (pc' := 3) rfl rfl ?_
      refine zEx_sub ?_ h
      exact ⟨rfl, rfl, rfl, rfl, rfl, trivial⟩
    · refine y_cnd (pc' := 21) rfl rfl (zc_eqF hc4) rfl ?_
      refine y_pure (pc' := 22) (st' := [.int (nI 0)]) rfl rfl ?_
      refine y_pure (pc' := 24) (ls' := [(0, .ref 411), (1, .int x1), (2, .int x2), (3, .int x3), (4, .int x4), (5, .int (nI 0))]) (st' := []) rfl rfl ?_
      refine zEx_sub ?_ h
      exact ⟨rfl, rfl, rfl, rfl, trivial⟩
  · refine y_cmp (pc' := 87) rfl rfl (zc_geT hc1) rfl ?_
    refine y_pure (pc' := 88) (st' := [.int (nI 0)]) rfl rfl ?_
    exact y_retZ rfl rfl (by decide) h
theorem e_S_bringUp_24 {d : Nat} {x2 : Int32} {x4 : Int32} {x5 : Int32} {M : ZM} {r : ZR}  (h : (if (nI 16) < x5 then some (some (.int (nI 1)), M) else (if zin x2 12 = true then (if zin x5 17 = true then zL (M.1 (565 + (Int32.toNatClampNeg x2)) (Int32.toNatClampNeg x5)) (fun y4 => (if zin x4 12 = true then zL (zpi (zpi M (565 + (Int32.toNatClampNeg x2)) (Int32.toNatClampNeg x5) (M.1 (565 + (Int32.toNatClampNeg x4)) (Int32.toNatClampNeg x5))) (565 + (Int32.toNatClampNeg x4)) (Int32.toNatClampNeg x5) y4) (fun M7 => h_S_bringUp_24 d x2 x4 (x5 + (nI 1)) M7) else none)) else none) else none)) = some r) : h_S_bringUp_24 d x2 x4 x5 M = some r := by
  show zEx0 (zEv d) zmS_bringUp (24, [(0, .ref 411), (2, .int x2), (4, .int x4), (5, .int x5)], [], M) = some r
  refine y_pure (pc' := 26) (st' := [.int x5]) rfl rfl ?_
  refine y_pure (pc' := 28) (st' := [.int (nI 16), .int x5]) rfl rfl ?_
  rcases zif_inv h with ⟨hc1, h⟩ | ⟨hc1, h⟩
  · refine y_cmp (pc' := 79) rfl rfl (zc_gtT hc1) rfl ?_
    refine y_pure (pc' := 80) (st' := [.int (nI 1)]) rfl rfl ?_
    exact y_retZ rfl rfl (by decide) h
  · refine y_cmp (pc' := 31) rfl rfl (zc_gtF hc1) rfl ?_
    refine y_pure (pc' := 32) (st' := [.ref 411]) rfl rfl ?_
    refine y_getf (pc' := 35) (v := .ref 564) rfl rfl rfl zc_411 rfl rfl ?_
    refine y_pure (pc' := 36) (st' := [.int x2, .ref 564]) rfl rfl ?_
    obtain ⟨hi2, h⟩ := zg_inv h
    refine y_aald (pc' := 37) (q' := 565 + (Int32.toNatClampNeg x2)) rfl zc_564 hi2 (congrArg (HAdd.hAdd (565)) (Nat.one_mul _)) rfl ?_
    refine y_pure (pc' := 39) (st' := [.int x5, .ref (565 + (Int32.toNatClampNeg x2))]) rfl rfl ?_
    obtain ⟨hi3, h⟩ := zg_inv h
    refine y_iald (pc' := 40) rfl (zl_5 zc_564 hi2) hi3 rfl ?_
    obtain ⟨y4, e5, h⟩ := zL_inv h
    refine zT_gen e5 ?_
    refine y_pure (pc' := 42) (ls' := [(0, .ref 411), (2, .int x2), (4, .int x4), (5, .int x5), (6, .int y4)]) (st' := []) rfl rfl ?_
    refine y_pure (pc' := 43) (st' := [.ref 411]) rfl rfl ?_
    refine y_getf (pc' := 46) (v := .ref 564) rfl rfl rfl zc_411 rfl rfl ?_
    refine y_pure (pc' := 47) (st' := [.int x2, .ref 564]) rfl rfl ?_
    refine y_aald (pc' := 48) (q' := 565 + (Int32.toNatClampNeg x2)) rfl zc_564 hi2 (congrArg (HAdd.hAdd (565)) (Nat.one_mul _)) rfl ?_
    refine y_pure (pc' := 50) (st' := [.int x5, .ref (565 + (Int32.toNatClampNeg x2))]) rfl rfl ?_
    refine y_pure (pc' := 51) (st' := [.ref 411, .int x5, .ref (565 + (Int32.toNatClampNeg x2))]) rfl rfl ?_
    refine y_getf (pc' := 54) (v := .ref 564) rfl rfl rfl zc_411 rfl rfl ?_
    refine y_pure (pc' := 56) (st' := [.int x4, .ref 564, .int x5, .ref (565 + (Int32.toNatClampNeg x2))]) rfl rfl ?_
    obtain ⟨hi6, h⟩ := zg_inv h
    refine y_aald (pc' := 57) (q' := 565 + (Int32.toNatClampNeg x4)) rfl zc_564 hi6 (congrArg (HAdd.hAdd (565)) (Nat.one_mul _)) rfl ?_
    refine y_pure (pc' := 59) (st' := [.int x5, .ref (565 + (Int32.toNatClampNeg x4)), .int x5, .ref (565 + (Int32.toNatClampNeg x2))]) rfl rfl ?_
    refine y_iald (pc' := 60) rfl (zl_5 zc_564 hi6) hi3 rfl ?_
    refine y_iast (pc' := 61) rfl (zl_5 zc_564 hi2) hi3 rfl ?_
    refine y_pure (pc' := 62) (st' := [.ref 411]) rfl rfl ?_
    refine y_getf (pc' := 65) (v := .ref 564) rfl rfl rfl zc_411 rfl rfl ?_
    refine y_pure (pc' := 67) (st' := [.int x4, .ref 564]) rfl rfl ?_
    refine y_aald (pc' := 68) (q' := 565 + (Int32.toNatClampNeg x4)) rfl zc_564 hi6 (congrArg (HAdd.hAdd (565)) (Nat.one_mul _)) rfl ?_
    refine y_pure (pc' := 70) (st' := [.int x5, .ref (565 + (Int32.toNatClampNeg x4))]) rfl rfl ?_
    refine y_pure (pc' := 72) (st' := [.int y4, .int x5, .ref (565 + (Int32.toNatClampNeg x4))]) rfl rfl ?_
    refine y_iast (pc' := 73) rfl (zl_5 zc_564 hi6) hi3 rfl ?_
    obtain ⟨M7, e8, h⟩ := zL_inv h
    refine zM_gen e8 ?_
    refine y_pure (pc' := 76) (ls' := [(0, .ref 411), (2, .int x2), (4, .int x4), (5, .int (x5 + (nI 1))), (6, .int y4)]) (st' := []) rfl rfl ?_
    refine y_pure (pc' := 24) rfl rfl ?_
    refine zEx_sub ?_ h
    exact ⟨rfl, rfl, rfl, rfl, trivial⟩
theorem e_S_bringUp {d : Nat} {x1 : Int32} {x2 : Int32} {x3 : Int32} {M : ZM} {r : ZR}  (h : h_S_bringUp_3 d x1 x2 x3 x2 M = some r) : zEv (d + 1) zmS_bringUp [.ref 411, .int x1, .int x2, .int x3] M = some r := by
  rw [zEv_succ]
  show zEx0 (zEv d) zmS_bringUp (0, [(0, .ref 411), (1, .int x1), (2, .int x2), (3, .int x3)], [], M) = some r
  refine y_pure (pc' := 1) (st' := [.int x2]) rfl rfl ?_
  refine y_pure (pc' := 3) (ls' := [(0, .ref 411), (1, .int x1), (2, .int x2), (3, .int x3), (4, .int x2)]) (st' := []) rfl rfl ?_
  refine zEx_sub ?_ h
  exact ⟨rfl, rfl, rfl, rfl, rfl, trivial⟩
noncomputable def h_S_reduce_12 (d : Nat) (x0 : Nat) (x1 : Nat) (x3 : Int32) (x4 : Int32) (x5 : Int32) (M : ZM) : Option ZR := zEx0 (zEv d) zmS_reduce (12, [(0, .ref x0), (1, .ref x1), (3, .int x3), (4, .int x4), (5, .int x5)], [], M)
theorem e_S_reduce_12 {d : Nat} {x0 : Nat} {x1 : Nat} {x3 : Int32} {x4 : Int32} {x5 : Int32} {M : ZM} {r : ZR} (hk0 : zkd x0 = (1, 17)) (hk1 : zkd x1 = (1, 17)) (h : (if (nI 16) < x5 then some (none, M) else (if x3 = (nI 0) then some (none, M) else (if zin x5 17 = true then zC1 (zEv d zmJM_floorMod [.int (((M.1 x0 (Int32.toNatClampNeg x5)) * x4) - ((M.1 x1 (Int32.toNatClampNeg x5)) * x3)), .int (nI 32749)] M) (fun v6 M5 => h_S_reduce_12 d x0 x1 x3 x4 (x5 + (nI 1)) (zpi M5 x0 (Int32.toNatClampNeg x5) v6)) else none))) = some r) : h_S_reduce_12 d x0 x1 x3 x4 x5 M = some r := by
  show zEx0 (zEv d) zmS_reduce (12, [(0, .ref x0), (1, .ref x1), (3, .int x3), (4, .int x4), (5, .int x5)], [], M) = some r
  refine y_pure (pc' := 14) (st' := [.int x5]) rfl rfl ?_
  refine y_pure (pc' := 16) (st' := [.int (nI 16), .int x5]) rfl rfl ?_
  rcases zif_inv h with ⟨hc1, h⟩ | ⟨hc1, h⟩
  · refine y_cmp (pc' := 53) rfl rfl (zc_gtT hc1) rfl ?_
    exact y_ret rfl rfl rfl rfl h
  · refine y_cmp (pc' := 19) rfl rfl (zc_gtF hc1) rfl ?_
    refine y_pure (pc' := 20) (st' := [.int x3]) rfl rfl ?_
    rcases zif_inv h with ⟨hc2, h⟩ | ⟨hc2, h⟩
    · refine y_cnd (pc' := 53) rfl rfl (zc_eqT hc2) rfl ?_
      exact y_ret rfl rfl rfl rfl h
    · refine y_cnd (pc' := 23) rfl rfl (zc_eqF hc2) rfl ?_
      refine y_pure (pc' := 24) (st' := [.ref x0]) rfl rfl ?_
      refine y_pure (pc' := 26) (st' := [.int x5, .ref x0]) rfl rfl ?_
      refine y_pure (pc' := 27) (st' := [.ref x0, .int x5, .ref x0]) rfl rfl ?_
      refine y_pure (pc' := 29) (st' := [.int x5, .ref x0, .int x5, .ref x0]) rfl rfl ?_
      obtain ⟨hi3, h⟩ := zg_inv h
      refine y_iald (pc' := 30) rfl hk0 hi3 rfl ?_
      refine y_pure (pc' := 32) (st' := [.int x4, .int (M.1 x0 (Int32.toNatClampNeg x5)), .int x5, .ref x0]) rfl rfl ?_
      refine y_pure (pc' := 33) (st' := [.int ((M.1 x0 (Int32.toNatClampNeg x5)) * x4), .int x5, .ref x0]) rfl rfl ?_
      refine y_pure (pc' := 34) (st' := [.ref x1, .int ((M.1 x0 (Int32.toNatClampNeg x5)) * x4), .int x5, .ref x0]) rfl rfl ?_
      refine y_pure (pc' := 36) (st' := [.int x5, .ref x1, .int ((M.1 x0 (Int32.toNatClampNeg x5)) * x4), .int x5, .ref x0]) rfl rfl ?_
      refine y_iald (pc' := 37) rfl hk1 hi3 rfl ?_
      refine y_pure (pc' := 38) (st' := [.int x3, .int (M.1 x1 (Int32.toNatClampNeg x5)), .int ((M.1 x0 (Int32.toNatClampNeg x5)) * x4), .int x5, .ref x0]) rfl rfl ?_
      refine y_pure (pc' := 39) (st' := [.int ((M.1 x1 (Int32.toNatClampNeg x5)) * x3), .int ((M.1 x0 (Int32.toNatClampNeg x5)) * x4), .int x5, .ref x0]) rfl rfl ?_
      refine y_pure (pc' := 40) (st' := [.int (((M.1 x0 (Int32.toNatClampNeg x5)) * x4) - ((M.1 x1 (Int32.toNatClampNeg x5)) * x3)), .int x5, .ref x0]) rfl rfl ?_
      refine y_pure (pc' := 43) (st' := [.int (nI 32749), .int (((M.1 x0 (Int32.toNatClampNeg x5)) * x4) - ((M.1 x1 (Int32.toNatClampNeg x5)) * x3)), .int x5, .ref x0]) rfl rfl ?_
      obtain ⟨v6, M5, he4, h⟩ := zC1_inv h
      refine y_callS (pc' := 46) (y := zmJM_floorMod) (a := [.int (((M.1 x0 (Int32.toNatClampNeg x5)) * x4) - ((M.1 x1 (Int32.toNatClampNeg x5)) * x3)), .int (nI 32749)]) (st' := [.int x5, .ref x0]) rfl rfl rfl rfl rfl rfl he4 rfl rfl ?_
      refine y_iast (pc' := 47) rfl hk0 hi3 rfl ?_
      refine y_pure (pc' := 50) (ls' := [(0, .ref x0), (1, .ref x1), (3, .int x3), (4, .int x4), (5, .int (x5 + (nI 1)))]) (st' := []) rfl rfl ?_
      refine y_pure (pc' := 12) rfl rfl ?_
      refine zEx_sub ?_ h
      exact ⟨rfl, rfl, rfl, rfl, rfl, trivial⟩
theorem e_S_reduce {d : Nat} {x0 : Nat} {x1 : Nat} {x2 : Int32} {M : ZM} {r : ZR} (hk0 : zkd x0 = (1, 17)) (hk1 : zkd x1 = (1, 17)) (h : (if zin x2 17 = true then h_S_reduce_12 d x0 x1 (M.1 x0 (Int32.toNatClampNeg x2)) (M.1 x1 (Int32.toNatClampNeg x2)) (nI 0) M else none) = some r) : zEv (d + 1) zmS_reduce [.ref x0, .ref x1, .int x2] M = some r := by
  rw [zEv_succ]
  show zEx0 (zEv d) zmS_reduce (0, [(0, .ref x0), (1, .ref x1), (2, .int x2)], [], M) = some r
  refine y_pure (pc' := 1) (st' := [.ref x0]) rfl rfl ?_
  refine y_pure (pc' := 2) (st' := [.int x2, .ref x0]) rfl rfl ?_
  obtain ⟨hi1, h⟩ := zg_inv h
  refine y_iald (pc' := 3) rfl hk0 hi1 rfl ?_
  refine y_pure (pc' := 4) (ls' := [(0, .ref x0), (1, .ref x1), (2, .int x2), (3, .int (M.1 x0 (Int32.toNatClampNeg x2)))]) (st' := []) rfl rfl ?_
  refine y_pure (pc' := 5) (st' := [.ref x1]) rfl rfl ?_
  refine y_pure (pc' := 6) (st' := [.int x2, .ref x1]) rfl rfl ?_
  refine y_iald (pc' := 7) rfl hk1 hi1 rfl ?_
  refine y_pure (pc' := 9) (ls' := [(0, .ref x0), (1, .ref x1), (2, .int x2), (3, .int (M.1 x0 (Int32.toNatClampNeg x2))), (4, .int (M.1 x1 (Int32.toNatClampNeg x2)))]) (st' := []) rfl rfl ?_
  refine y_pure (pc' := 10) (st' := [.int (nI 0)]) rfl rfl ?_
  refine y_pure (pc' := 12) (ls' := [(0, .ref x0), (1, .ref x1), (2, .int x2), (3, .int (M.1 x0 (Int32.toNatClampNeg x2))), (4, .int (M.1 x1 (Int32.toNatClampNeg x2))), (5, .int (nI 0))]) (st' := []) rfl rfl ?_
  refine zEx_sub ?_ h
  exact ⟨rfl, rfl, rfl, rfl, rfl, trivial⟩
noncomputable def h_S_gather_36 (d : Nat) (x1 : Nat) (x2 : Int32) (x3 : Int32) (x4 : Int32) (M : ZM) : Option ZR := zEx0 (zEv d) zmS_gather (36, [(0, .ref 411), (1, .ref x1), (2, .int x2), (3, .int x3), (4, .int x4)], [], M)
theorem e_S_gather_36 {d : Nat} {x1 : Nat} {x2 : Int32} {x3 : Int32} {x4 : Int32} {M : ZM} {r : ZR} (hk1 : zkd x1 = (10, 0)) (h : (if (nI 7) < x4 then some (none, M) else (if (M.1 411 10) < (M.1 411 9) then zC1 (zEv d zmS_enter [.ref 411, .int x2, .int x3, .int x4] M) (fun v5 M4 => (if v5 = (nI 0) then h_S_gather_36 d x1 x2 x3 (x4 + (nI 1)) M4 else (if zin x3 36 = true then zC1 (zEv d zmS_settle [.ref 411, .ref x1, .int (x2 + (nI 1)), .int (M4.1 545 (Int32.toNatClampNeg x3))] M4) (fun v10 M9 => (if v10 = (nI 0) then h_S_gather_36 d x1 x2 x3 (x4 + (nI 1)) M9 else zC0 (zEv d zmS_gather [.ref 411, .ref x1, .int (x2 + (nI 1))] M9) (fun M13 => h_S_gather_36 d x1 x2 x3 (x4 + (nI 1)) M13))) else none))) else some (none, M))) = some r) : h_S_gather_36 d x1 x2 x3 x4 M = some r := by
  show zEx0 (zEv d) zmS_gather (36, [(0, .ref 411), (1, .ref x1), (2, .int x2), (3, .int x3), (4, .int x4)], [], M) = some r
  refine y_pure (pc' := 38) (st' := [.int x4]) rfl rfl ?_
  refine y_pure (pc' := 40) (st' := [.int (nI 7), .int x4]) rfl rfl ?_
  rcases zif_inv h with ⟨hc1, h⟩ | ⟨hc1, h⟩
  · refine y_cmp (pc' := 96) rfl rfl (zc_gtT hc1) rfl ?_
    exact y_ret rfl rfl rfl rfl h
  · refine y_cmp (pc' := 43) rfl rfl (zc_gtF hc1) rfl ?_
    refine y_pure (pc' := 44) (st' := [.ref 411]) rfl rfl ?_
    refine y_getf (pc' := 47) (v := .int (M.1 411 10)) rfl rfl rfl zc_411 rfl rfl ?_
    refine y_pure (pc' := 48) (st' := [.ref 411, .int (M.1 411 10)]) rfl rfl ?_
    refine y_getf (pc' := 51) (v := .int (M.1 411 9)) rfl rfl rfl zc_411 rfl rfl ?_
    rcases zif_inv h with ⟨hc2, h⟩ | ⟨hc2, h⟩
    · refine y_cmp (pc' := 54) rfl rfl (zc_geF hc2) rfl ?_
      refine y_pure (pc' := 55) (st' := [.ref 411]) rfl rfl ?_
      refine y_pure (pc' := 56) (st' := [.int x2, .ref 411]) rfl rfl ?_
      refine y_pure (pc' := 57) (st' := [.int x3, .int x2, .ref 411]) rfl rfl ?_
      refine y_pure (pc' := 59) (st' := [.int x4, .int x3, .int x2, .ref 411]) rfl rfl ?_
      obtain ⟨v5, M4, he3, h⟩ := zC1_inv h
      refine y_callV (pc' := 62) (y := zmS_enter) (a' := [.int x2, .int x3, .int x4]) (st' := []) rfl rfl rfl rfl rfl (zrecv_o (o := 5) zc_411 rfl) rfl he3 rfl rfl ?_
      rcases zif_inv h with ⟨hc6, h⟩ | ⟨hc6, h⟩
      · refine y_cnd (pc' := 90) rfl rfl (zc_eqT hc6) rfl ?_
        refine y_pure (pc' := 93) (ls' := [(0, .ref 411), (1, .ref x1), (2, .int x2), (3, .int x3), (4, .int (x4 + (nI 1)))]) (st' := []) rfl rfl ?_
        refine y_pure (pc' := 36) rfl rfl ?_
        refine zEx_sub ?_ h
        exact ⟨rfl, rfl, rfl, rfl, rfl, trivial⟩
      · refine y_cnd (pc' := 65) rfl rfl (zc_eqF hc6) rfl ?_
        refine y_pure (pc' := 66) (st' := [.ref 411]) rfl rfl ?_
        refine y_pure (pc' := 67) (st' := [.ref x1, .ref 411]) rfl rfl ?_
        refine y_pure (pc' := 68) (st' := [.int x2, .ref x1, .ref 411]) rfl rfl ?_
        refine y_pure (pc' := 69) (st' := [.int (nI 1), .int x2, .ref x1, .ref 411]) rfl rfl ?_
        refine y_pure (pc' := 70) (st' := [.int (x2 + (nI 1)), .ref x1, .ref 411]) rfl rfl ?_
        refine y_pure (pc' := 71) (st' := [.ref 411, .int (x2 + (nI 1)), .ref x1, .ref 411]) rfl rfl ?_
        refine y_getf (pc' := 74) (v := .ref 545) rfl rfl rfl zc_411 rfl rfl ?_
        refine y_pure (pc' := 75) (st' := [.int x3, .ref 545, .int (x2 + (nI 1)), .ref x1, .ref 411]) rfl rfl ?_
        obtain ⟨hi7, h⟩ := zg_inv h
        refine y_iald (pc' := 76) rfl zc_545 hi7 rfl ?_
        obtain ⟨v10, M9, he8, h⟩ := zC1_inv h
        refine y_callV (pc' := 79) (y := zmS_settle) (a' := [.ref x1, .int (x2 + (nI 1)), .int (M4.1 545 (Int32.toNatClampNeg x3))]) (st' := []) rfl rfl rfl rfl rfl (zrecv_o (o := 5) zc_411 rfl) rfl he8 rfl rfl ?_
        rcases zif_inv h with ⟨hc11, h⟩ | ⟨hc11, h⟩
        · refine y_cnd (pc' := 90) rfl rfl (zc_eqT hc11) rfl ?_
          refine y_pure (pc' := 93) (ls' := [(0, .ref 411), (1, .ref x1), (2, .int x2), (3, .int x3), (4, .int (x4 + (nI 1)))]) (st' := []) rfl rfl ?_
          refine y_pure (pc' := 36) rfl rfl ?_
          refine zEx_sub ?_ h
          exact ⟨rfl, rfl, rfl, rfl, rfl, trivial⟩
        · refine y_cnd (pc' := 82) rfl rfl (zc_eqF hc11) rfl ?_
          refine y_pure (pc' := 83) (st' := [.ref 411]) rfl rfl ?_
          refine y_pure (pc' := 84) (st' := [.ref x1, .ref 411]) rfl rfl ?_
          refine y_pure (pc' := 85) (st' := [.int x2, .ref x1, .ref 411]) rfl rfl ?_
          refine y_pure (pc' := 86) (st' := [.int (nI 1), .int x2, .ref x1, .ref 411]) rfl rfl ?_
          refine y_pure (pc' := 87) (st' := [.int (x2 + (nI 1)), .ref x1, .ref 411]) rfl rfl ?_
          obtain ⟨M13, he12, h⟩ := zC0_inv h
          refine y_callS (pc' := 90) (y := zmS_gather) (a := [.ref 411, .ref x1, .int (x2 + (nI 1))]) (st' := []) rfl rfl rfl rfl rfl rfl he12 rfl rfl ?_
          refine y_pure (pc' := 93) (ls' := [(0, .ref 411), (1, .ref x1), (2, .int x2), (3, .int x3), (4, .int (x4 + (nI 1)))]) (st' := []) rfl rfl ?_
          refine y_pure (pc' := 36) rfl rfl ?_
          refine zEx_sub ?_ h
          exact ⟨rfl, rfl, rfl, rfl, rfl, trivial⟩
    · refine y_cmp (pc' := 96) rfl rfl (zc_geT hc2) rfl ?_
      exact y_ret rfl rfl rfl rfl h
theorem e_S_gather {d : Nat} {x1 : Nat} {x2 : Int32} {M : ZM} {r : ZR} (hk1 : zkd x1 = (10, 0)) (h : zC1 (zEv d zmS_isSolvable [.ref 411, .ref x1, .int x2] M) (fun v3 M2 => (if v3 = (nI 0) then some (none, M2) else zC1 (zEv d zmS_firstUnsure [.ref 411, .int x2] M2) (fun v7 M6 => (if v7 = (-1 : Int32) then zC0 (zEv d zmS_store [.ref 411, .int x2] M6) (fun M10 => some (none, M10)) else (if x2 < (nI 16) then h_S_gather_36 d x1 x2 v7 (nI 1) M6 else zC0 (zEv d zmS_store [.ref 411, .int x2] M6) (fun M13 => some (none, M13))))))) = some r) : zEv (d + 1) zmS_gather [.ref 411, .ref x1, .int x2] M = some r := by
  rw [zEv_succ]
  show zEx0 (zEv d) zmS_gather (0, [(0, .ref 411), (1, .ref x1), (2, .int x2)], [], M) = some r
  refine y_pure (pc' := 1) (st' := [.ref 411]) rfl rfl ?_
  refine y_pure (pc' := 2) (st' := [.ref x1, .ref 411]) rfl rfl ?_
  refine y_pure (pc' := 3) (st' := [.int x2, .ref x1, .ref 411]) rfl rfl ?_
  obtain ⟨v3, M2, he1, h⟩ := zC1_inv h
  refine y_callS (pc' := 6) (y := zmS_isSolvable) (a := [.ref 411, .ref x1, .int x2]) (st' := []) rfl rfl rfl rfl rfl rfl he1 rfl rfl ?_
  rcases zif_inv h with ⟨hc4, h⟩ | ⟨hc4, h⟩
  · refine y_cnd (pc' := 9) rfl rfl (zc_neF hc4) rfl ?_
    exact y_ret rfl rfl rfl rfl h
  · refine y_cnd (pc' := 10) rfl rfl (zc_neT hc4) rfl ?_
    refine y_pure (pc' := 11) (st' := [.ref 411]) rfl rfl ?_
    refine y_pure (pc' := 12) (st' := [.int x2, .ref 411]) rfl rfl ?_
    obtain ⟨v7, M6, he5, h⟩ := zC1_inv h
    refine y_callV (pc' := 15) (y := zmS_firstUnsure) (a' := [.int x2]) (st' := []) rfl rfl rfl rfl rfl (zrecv_o (o := 5) zc_411 rfl) rfl he5 rfl rfl ?_
    refine y_pure (pc' := 16) (ls' := [(0, .ref 411), (1, .ref x1), (2, .int x2), (3, .int v7)]) (st' := []) rfl rfl ?_
    refine y_pure (pc' := 17) (st' := [.int v7]) rfl rfl ?_
    refine y_pure (pc' := 18) (st' := [.int (-1 : Int32), .int v7]) rfl rfl ?_
    rcases zif_inv h with ⟨hc8, h⟩ | ⟨hc8, h⟩
    · refine y_cmp (pc' := 27) rfl rfl (zc_eqT hc8) rfl ?_
      refine y_pure (pc' := 28) (st' := [.ref 411]) rfl rfl ?_
      refine y_pure (pc' := 29) (st' := [.int x2, .ref 411]) rfl rfl ?_
      obtain ⟨M10, he9, h⟩ := zC0_inv h
      refine y_callV (pc' := 32) (y := zmS_store) (a' := [.int x2]) (st' := []) rfl rfl rfl rfl rfl (zrecv_o (o := 5) zc_411 rfl) rfl he9 rfl rfl ?_
      exact y_ret rfl rfl rfl rfl h
    · refine y_cmp (pc' := 21) rfl rfl (zc_eqF hc8) rfl ?_
      refine y_pure (pc' := 22) (st' := [.int x2]) rfl rfl ?_
      refine y_pure (pc' := 24) (st' := [.int (nI 16), .int x2]) rfl rfl ?_
      rcases zif_inv h with ⟨hc11, h⟩ | ⟨hc11, h⟩
      · refine y_cmp (pc' := 33) rfl rfl (zc_ltT hc11) rfl ?_
        refine y_pure (pc' := 34) (st' := [.int (nI 1)]) rfl rfl ?_
        refine y_pure (pc' := 36) (ls' := [(0, .ref 411), (1, .ref x1), (2, .int x2), (3, .int v7), (4, .int (nI 1))]) (st' := []) rfl rfl ?_
        refine zEx_sub ?_ h
        exact ⟨rfl, rfl, rfl, rfl, rfl, trivial⟩
      · refine y_cmp (pc' := 27) rfl rfl (zc_ltF hc11) rfl ?_
        refine y_pure (pc' := 28) (st' := [.ref 411]) rfl rfl ?_
        refine y_pure (pc' := 29) (st' := [.int x2, .ref 411]) rfl rfl ?_
        obtain ⟨M13, he12, h⟩ := zC0_inv h
        refine y_callV (pc' := 32) (y := zmS_store) (a' := [.int x2]) (st' := []) rfl rfl rfl rfl rfl (zrecv_o (o := 5) zc_411 rfl) rfl he12 rfl rfl ?_
        exact y_ret rfl rfl rfl rfl h
noncomputable def h_S_isSolvable_75 (d : Nat) (x1 : Nat) (x2 : Int32) (x3 : Int32) (x4 : Int64) (x6 : Int64) (x8 : Int32) (x9 : Int32) (M : ZM) : Option ZR := zEx0 (zEv d) zmS_isSolvable (75, [(0, .ref 411), (1, .ref x1), (2, .int x2), (3, .int x3), (4, .long x4), (6, .long x6), (8, .int x8), (9, .int x9)], [], M)
theorem e_S_isSolvable_75 {d : Nat} {x1 : Nat} {x2 : Int32} {x3 : Int32} {x4 : Int64} {x6 : Int64} {x8 : Int32} {x9 : Int32} {M : ZM} {r : ZR} (hk1 : zkd x1 = (10, 0)) (h : (if (nI 7) < x9 then (if zin x8 4096 = true then some (some (.int (nI 0)), (zpl (zpl M 628 (Int32.toNatClampNeg x8) x4) 629 (Int32.toNatClampNeg x8) x6)) else none) else zC1 (zEv d zmS_hasFailedAlike [.ref 411, .int x2, .int x9] M) (fun v5 M4 => (if v5 = (nI 0) then zC1 (zEv d zmS_enter [.ref 411, .int x2, .int x3, .int x9] M4) (fun v9 M8 => (if v9 = (nI 0) then h_S_isSolvable_75 d x1 x2 x3 x4 x6 x8 (x9 + (nI 1)) M8 else (if zin x3 36 = true then zC1 (zEv d zmS_settle [.ref 411, .ref x1, .int (x2 + (nI 1)), .int (M8.1 545 (Int32.toNatClampNeg x3))] M8) (fun v14 M13 => (if v14 = (nI 0) then h_S_isSolvable_75 d x1 x2 x3 x4 x6 x8 (x9 + (nI 1)) M13 else zC1 (zEv d zmS_isSolvable [.ref 411, .ref x1, .int (x2 + (nI 1))] M13) (fun v18 M17 => (if v18 = (nI 0) then h_S_isSolvable_75 d x1 x2 x3 x4 x6 x8 (x9 + (nI 1)) M17 else some (some (.int (nI 1)), M17))))) else none))) else h_S_isSolvable_75 d x1 x2 x3 x4 x6 x8 (x9 + (nI 1)) M4))) = some r) : h_S_isSolvable_75 d x1 x2 x3 x4 x6 x8 x9 M = some r := by
  show zEx0 (zEv d) zmS_isSolvable (75, [(0, .ref 411), (1, .ref x1), (2, .int x2), (3, .int x3), (4, .long x4), (6, .long x6), (8, .int x8), (9, .int x9)], [], M) = some r
  refine y_pure (pc' := 77) (st' := [.int x9]) rfl rfl ?_
  refine y_pure (pc' := 79) (st' := [.int (nI 7), .int x9]) rfl rfl ?_
  rcases zif_inv h with ⟨hc1, h⟩ | ⟨hc1, h⟩
  · refine y_cmp (pc' := 139) rfl rfl (zc_gtT hc1) rfl ?_
    refine y_pure (pc' := 140) (st' := [.ref 411]) rfl rfl ?_
    refine y_getf (pc' := 143) (v := .ref 628) rfl rfl rfl zc_411 rfl rfl ?_
    refine y_pure (pc' := 145) (st' := [.int x8, .ref 628]) rfl rfl ?_
    refine y_pure (pc' := 147) (st' := [.long x4, .int x8, .ref 628]) rfl rfl ?_
    obtain ⟨hi2, h⟩ := zg_inv h
    refine y_last (pc' := 148) rfl zc_628 hi2 rfl ?_
    refine y_pure (pc' := 149) (st' := [.ref 411]) rfl rfl ?_
    refine y_getf (pc' := 152) (v := .ref 629) rfl rfl rfl zc_411 rfl rfl ?_
    refine y_pure (pc' := 154) (st' := [.int x8, .ref 629]) rfl rfl ?_
    refine y_pure (pc' := 156) (st' := [.long x6, .int x8, .ref 629]) rfl rfl ?_
    refine y_last (pc' := 157) rfl zc_629 hi2 rfl ?_
    refine y_pure (pc' := 158) (st' := [.int (nI 0)]) rfl rfl ?_
    exact y_retZ rfl rfl (by decide) h
  · refine y_cmp (pc' := 82) rfl rfl (zc_gtF hc1) rfl ?_
    refine y_pure (pc' := 83) (st' := [.ref 411]) rfl rfl ?_
    refine y_pure (pc' := 84) (st' := [.int x2, .ref 411]) rfl rfl ?_
    refine y_pure (pc' := 86) (st' := [.int x9, .int x2, .ref 411]) rfl rfl ?_
    obtain ⟨v5, M4, he3, h⟩ := zC1_inv h
    refine y_callV (pc' := 89) (y := zmS_hasFailedAlike) (a' := [.int x2, .int x9]) (st' := []) rfl rfl rfl rfl rfl (zrecv_o (o := 5) zc_411 rfl) rfl he3 rfl rfl ?_
    rcases zif_inv h with ⟨hc6, h⟩ | ⟨hc6, h⟩
    · refine y_cnd (pc' := 92) rfl rfl (zc_neF hc6) rfl ?_
      refine y_pure (pc' := 93) (st' := [.ref 411]) rfl rfl ?_
      refine y_pure (pc' := 94) (st' := [.int x2, .ref 411]) rfl rfl ?_
      refine y_pure (pc' := 95) (st' := [.int x3, .int x2, .ref 411]) rfl rfl ?_
      refine y_pure (pc' := 97) (st' := [.int x9, .int x3, .int x2, .ref 411]) rfl rfl ?_
      obtain ⟨v9, M8, he7, h⟩ := zC1_inv h
      refine y_callV (pc' := 100) (y := zmS_enter) (a' := [.int x2, .int x3, .int x9]) (st' := []) rfl rfl rfl rfl rfl (zrecv_o (o := 5) zc_411 rfl) rfl he7 rfl rfl ?_
      rcases zif_inv h with ⟨hc10, h⟩ | ⟨hc10, h⟩
      · refine y_cnd (pc' := 133) rfl rfl (zc_eqT hc10) rfl ?_
        refine y_pure (pc' := 136) (ls' := [(0, .ref 411), (1, .ref x1), (2, .int x2), (3, .int x3), (4, .long x4), (6, .long x6), (8, .int x8), (9, .int (x9 + (nI 1)))]) (st' := []) rfl rfl ?_
        refine y_pure (pc' := 75) rfl rfl ?_
        refine zEx_sub ?_ h
        exact ⟨rfl, rfl, rfl, rfl, rfl, rfl, rfl, rfl, trivial⟩
      · refine y_cnd (pc' := 103) rfl rfl (zc_eqF hc10) rfl ?_
        refine y_pure (pc' := 104) (st' := [.ref 411]) rfl rfl ?_
        refine y_pure (pc' := 105) (st' := [.ref x1, .ref 411]) rfl rfl ?_
        refine y_pure (pc' := 106) (st' := [.int x2, .ref x1, .ref 411]) rfl rfl ?_
        refine y_pure (pc' := 107) (st' := [.int (nI 1), .int x2, .ref x1, .ref 411]) rfl rfl ?_
        refine y_pure (pc' := 108) (st' := [.int (x2 + (nI 1)), .ref x1, .ref 411]) rfl rfl ?_
        refine y_pure (pc' := 109) (st' := [.ref 411, .int (x2 + (nI 1)), .ref x1, .ref 411]) rfl rfl ?_
        refine y_getf (pc' := 112) (v := .ref 545) rfl rfl rfl zc_411 rfl rfl ?_
        refine y_pure (pc' := 113) (st' := [.int x3, .ref 545, .int (x2 + (nI 1)), .ref x1, .ref 411]) rfl rfl ?_
        obtain ⟨hi11, h⟩ := zg_inv h
        refine y_iald (pc' := 114) rfl zc_545 hi11 rfl ?_
        obtain ⟨v14, M13, he12, h⟩ := zC1_inv h
        refine y_callV (pc' := 117) (y := zmS_settle) (a' := [.ref x1, .int (x2 + (nI 1)), .int (M8.1 545 (Int32.toNatClampNeg x3))]) (st' := []) rfl rfl rfl rfl rfl (zrecv_o (o := 5) zc_411 rfl) rfl he12 rfl rfl ?_
        rcases zif_inv h with ⟨hc15, h⟩ | ⟨hc15, h⟩
        · refine y_cnd (pc' := 133) rfl rfl (zc_eqT hc15) rfl ?_
          refine y_pure (pc' := 136) (ls' := [(0, .ref 411), (1, .ref x1), (2, .int x2), (3, .int x3), (4, .long x4), (6, .long x6), (8, .int x8), (9, .int (x9 + (nI 1)))]) (st' := []) rfl rfl ?_
          refine y_pure (pc' := 75) rfl rfl ?_
          refine zEx_sub ?_ h
          exact ⟨rfl, rfl, rfl, rfl, rfl, rfl, rfl, rfl, trivial⟩
        · refine y_cnd (pc' := 120) rfl rfl (zc_eqF hc15) rfl ?_
          refine y_pure (pc' := 121) (st' := [.ref 411]) rfl rfl ?_
          refine y_pure (pc' := 122) (st' := [.ref x1, .ref 411]) rfl rfl ?_
          refine y_pure (pc' := 123) (st' := [.int x2, .ref x1, .ref 411]) rfl rfl ?_
          refine y_pure (pc' := 124) (st' := [.int (nI 1), .int x2, .ref x1, .ref 411]) rfl rfl ?_
          refine y_pure (pc' := 125) (st' := [.int (x2 + (nI 1)), .ref x1, .ref 411]) rfl rfl ?_
          obtain ⟨v18, M17, he16, h⟩ := zC1_inv h
          refine y_callS (pc' := 128) (y := zmS_isSolvable) (a := [.ref 411, .ref x1, .int (x2 + (nI 1))]) (st' := []) rfl rfl rfl rfl rfl rfl he16 rfl rfl ?_
          rcases zif_inv h with ⟨hc19, h⟩ | ⟨hc19, h⟩
          · refine y_cnd (pc' := 133) rfl rfl (zc_eqT hc19) rfl ?_
            refine y_pure (pc' := 136) (ls' := [(0, .ref 411), (1, .ref x1), (2, .int x2), (3, .int x3), (4, .long x4), (6, .long x6), (8, .int x8), (9, .int (x9 + (nI 1)))]) (st' := []) rfl rfl ?_
            refine y_pure (pc' := 75) rfl rfl ?_
            refine zEx_sub ?_ h
            exact ⟨rfl, rfl, rfl, rfl, rfl, rfl, rfl, rfl, trivial⟩
          · refine y_cnd (pc' := 131) rfl rfl (zc_eqF hc19) rfl ?_
            refine y_pure (pc' := 132) (st' := [.int (nI 1)]) rfl rfl ?_
            exact y_retZ rfl rfl (by decide) h
    · refine y_cnd (pc' := 133) rfl rfl (zc_neT hc6) rfl ?_
      refine y_pure (pc' := 136) (ls' := [(0, .ref 411), (1, .ref x1), (2, .int x2), (3, .int x3), (4, .long x4), (6, .long x6), (8, .int x8), (9, .int (x9 + (nI 1)))]) (st' := []) rfl rfl ?_
      refine y_pure (pc' := 75) rfl rfl ?_
      refine zEx_sub ?_ h
      exact ⟨rfl, rfl, rfl, rfl, rfl, rfl, rfl, rfl, trivial⟩
theorem e_S_isSolvable {d : Nat} {x1 : Nat} {x2 : Int32} {M : ZM} {r : ZR} (hk1 : zkd x1 = (10, 0)) (h : zC1 (zEv d zmS_tightest [.ref 411, .int x2] M) (fun v3 M2 => (if v3 = (-1 : Int32) then some (some (.int (nI 1)), M2) else (if x2 < (nI 16) then zC2 (zEv d zmS_lowKey [.ref 411, .ref x1, .int x2] M2) (fun v8 M7 => zC2 (zEv d zmS_highKey [.ref 411, .ref x1, .int x2] M7) (fun v11 M10 => zC1 (zEv d zmS_slotOf [.long v8, .long v11] M10) (fun v14 M13 => (if zin v14 4096 = true then (if (lg_cmp (M13.2 628 (Int32.toNatClampNeg v14)) v8) = (nI 0) then (if (lg_cmp (M13.2 629 (Int32.toNatClampNeg v14)) v11) = (nI 0) then some (some (.int (nI 0)), M13) else h_S_isSolvable_75 d x1 x2 v3 v8 v11 v14 (nI 1) M13) else h_S_isSolvable_75 d x1 x2 v3 v8 v11 v14 (nI 1) M13) else none)))) else some (some (.int (nI 1)), M2)))) = some r) : zEv (d + 1) zmS_isSolvable [.ref 411, .ref x1, .int x2] M = some r := by
  rw [zEv_succ]
  show zEx0 (zEv d) zmS_isSolvable (0, [(0, .ref 411), (1, .ref x1), (2, .int x2)], [], M) = some r
  refine y_pure (pc' := 1) (st' := [.ref 411]) rfl rfl ?_
  refine y_pure (pc' := 2) (st' := [.int x2, .ref 411]) rfl rfl ?_
  obtain ⟨v3, M2, he1, h⟩ := zC1_inv h
  refine y_callV (pc' := 5) (y := zmS_tightest) (a' := [.int x2]) (st' := []) rfl rfl rfl rfl rfl (zrecv_o (o := 5) zc_411 rfl) rfl he1 rfl rfl ?_
  refine y_pure (pc' := 6) (ls' := [(0, .ref 411), (1, .ref x1), (2, .int x2), (3, .int v3)]) (st' := []) rfl rfl ?_
  refine y_pure (pc' := 7) (st' := [.int v3]) rfl rfl ?_
  refine y_pure (pc' := 8) (st' := [.int (-1 : Int32), .int v3]) rfl rfl ?_
  rcases zif_inv h with ⟨hc4, h⟩ | ⟨hc4, h⟩
  · refine y_cmp (pc' := 17) rfl rfl (zc_eqT hc4) rfl ?_
    refine y_pure (pc' := 18) (st' := [.int (nI 1)]) rfl rfl ?_
    exact y_retZ rfl rfl (by decide) h
  · refine y_cmp (pc' := 11) rfl rfl (zc_eqF hc4) rfl ?_
    refine y_pure (pc' := 12) (st' := [.int x2]) rfl rfl ?_
    refine y_pure (pc' := 14) (st' := [.int (nI 16), .int x2]) rfl rfl ?_
    rcases zif_inv h with ⟨hc5, h⟩ | ⟨hc5, h⟩
    · refine y_cmp (pc' := 19) rfl rfl (zc_ltT hc5) rfl ?_
      refine y_pure (pc' := 20) (st' := [.ref 411]) rfl rfl ?_
      refine y_pure (pc' := 21) (st' := [.ref x1, .ref 411]) rfl rfl ?_
      refine y_pure (pc' := 22) (st' := [.int x2, .ref x1, .ref 411]) rfl rfl ?_
      obtain ⟨v8, M7, he6, h⟩ := zC2_inv h
      refine y_callV (pc' := 25) (y := zmS_lowKey) (a' := [.ref x1, .int x2]) (st' := []) rfl rfl rfl rfl rfl (zrecv_o (o := 5) zc_411 rfl) rfl he6 rfl rfl ?_
      refine y_pure (pc' := 27) (ls' := [(0, .ref 411), (1, .ref x1), (2, .int x2), (3, .int v3), (4, .long v8)]) (st' := []) rfl rfl ?_
      refine y_pure (pc' := 28) (st' := [.ref 411]) rfl rfl ?_
      refine y_pure (pc' := 29) (st' := [.ref x1, .ref 411]) rfl rfl ?_
      refine y_pure (pc' := 30) (st' := [.int x2, .ref x1, .ref 411]) rfl rfl ?_
      obtain ⟨v11, M10, he9, h⟩ := zC2_inv h
      refine y_callV (pc' := 33) (y := zmS_highKey) (a' := [.ref x1, .int x2]) (st' := []) rfl rfl rfl rfl rfl (zrecv_o (o := 5) zc_411 rfl) rfl he9 rfl rfl ?_
      refine y_pure (pc' := 35) (ls' := [(0, .ref 411), (1, .ref x1), (2, .int x2), (3, .int v3), (4, .long v8), (6, .long v11)]) (st' := []) rfl rfl ?_
      refine y_pure (pc' := 37) (st' := [.long v8]) rfl rfl ?_
      refine y_pure (pc' := 39) (st' := [.long v11, .long v8]) rfl rfl ?_
      obtain ⟨v14, M13, he12, h⟩ := zC1_inv h
      refine y_callS (pc' := 42) (y := zmS_slotOf) (a := [.long v8, .long v11]) (st' := []) rfl rfl rfl rfl rfl rfl he12 rfl rfl ?_
      refine y_pure (pc' := 44) (ls' := [(0, .ref 411), (1, .ref x1), (2, .int x2), (3, .int v3), (4, .long v8), (6, .long v11), (8, .int v14)]) (st' := []) rfl rfl ?_
      refine y_pure (pc' := 45) (st' := [.ref 411]) rfl rfl ?_
      refine y_getf (pc' := 48) (v := .ref 628) rfl rfl rfl zc_411 rfl rfl ?_
      refine y_pure (pc' := 50) (st' := [.int v14, .ref 628]) rfl rfl ?_
      obtain ⟨hi15, h⟩ := zg_inv h
      refine y_lald (pc' := 51) rfl zc_628 hi15 rfl ?_
      refine y_pure (pc' := 53) (st' := [.long v8, .long (M13.2 628 (Int32.toNatClampNeg v14))]) rfl rfl ?_
      refine y_pure (pc' := 54) (st' := [.int (lg_cmp (M13.2 628 (Int32.toNatClampNeg v14)) v8)]) rfl rfl ?_
      rcases zif_inv h with ⟨hc16, h⟩ | ⟨hc16, h⟩
      · refine y_cnd (pc' := 57) rfl rfl (zc_neF hc16) rfl ?_
        refine y_pure (pc' := 58) (st' := [.ref 411]) rfl rfl ?_
        refine y_getf (pc' := 61) (v := .ref 629) rfl rfl rfl zc_411 rfl rfl ?_
        refine y_pure (pc' := 63) (st' := [.int v14, .ref 629]) rfl rfl ?_
        refine y_lald (pc' := 64) rfl zc_629 hi15 rfl ?_
        refine y_pure (pc' := 66) (st' := [.long v11, .long (M13.2 629 (Int32.toNatClampNeg v14))]) rfl rfl ?_
        refine y_pure (pc' := 67) (st' := [.int (lg_cmp (M13.2 629 (Int32.toNatClampNeg v14)) v11)]) rfl rfl ?_
        rcases zif_inv h with ⟨hc17, h⟩ | ⟨hc17, h⟩
        · refine y_cnd (pc' := 70) rfl rfl (zc_neF hc17) rfl ?_
          refine y_pure (pc' := 71) (st' := [.int (nI 0)]) rfl rfl ?_
          exact y_retZ rfl rfl (by decide) h
        · refine y_cnd (pc' := 72) rfl rfl (zc_neT hc17) rfl ?_
          refine y_pure (pc' := 73) (st' := [.int (nI 1)]) rfl rfl ?_
          refine y_pure (pc' := 75) (ls' := [(0, .ref 411), (1, .ref x1), (2, .int x2), (3, .int v3), (4, .long v8), (6, .long v11), (8, .int v14), (9, .int (nI 1))]) (st' := []) rfl rfl ?_
          refine zEx_sub ?_ h
          exact ⟨rfl, rfl, rfl, rfl, rfl, rfl, rfl, rfl, trivial⟩
      · refine y_cnd (pc' := 72) rfl rfl (zc_neT hc16) rfl ?_
        refine y_pure (pc' := 73) (st' := [.int (nI 1)]) rfl rfl ?_
        refine y_pure (pc' := 75) (ls' := [(0, .ref 411), (1, .ref x1), (2, .int x2), (3, .int v3), (4, .long v8), (6, .long v11), (8, .int v14), (9, .int (nI 1))]) (st' := []) rfl rfl ?_
        refine zEx_sub ?_ h
        exact ⟨rfl, rfl, rfl, rfl, rfl, rfl, rfl, rfl, trivial⟩
    · refine y_cmp (pc' := 17) rfl rfl (zc_ltF hc5) rfl ?_
      refine y_pure (pc' := 18) (st' := [.int (nI 1)]) rfl rfl ?_
      exact y_retZ rfl rfl (by decide) h
noncomputable def h_S_hasFailedAlike_2 (d : Nat) (x1 : Int32) (x2 : Int32) (x3 : Int32) (M : ZM) : Option ZR := zEx0 (zEv d) zmS_hasFailedAlike (2, [(0, .ref 411), (1, .int x1), (2, .int x2), (3, .int x3)], [], M)
theorem e_S_hasFailedAlike_2 {d : Nat} {x1 : Int32} {x2 : Int32} {x3 : Int32} {M : ZM} {r : ZR}  (h : (if (M.1 411 5) = (nI 0) then some (some (.int (nI 0)), M) else (if x3 < x2 then zC1 (zEv d zmS_areMarkedAlike [.ref 411, .int x1, .int x3, .int x2] M) (fun v5 M4 => (if v5 = (nI 0) then h_S_hasFailedAlike_2 d x1 x2 (x3 + (nI 1)) M4 else some (some (.int (nI 1)), M4))) else some (some (.int (nI 0)), M))) = some r) : h_S_hasFailedAlike_2 d x1 x2 x3 M = some r := by
  show zEx0 (zEv d) zmS_hasFailedAlike (2, [(0, .ref 411), (1, .int x1), (2, .int x2), (3, .int x3)], [], M) = some r
  refine y_pure (pc' := 3) (st' := [.ref 411]) rfl rfl ?_
  refine y_getf (pc' := 6) (v := .int (M.1 411 5)) rfl rfl rfl zc_411 rfl rfl ?_
  rcases zif_inv h with ⟨hc1, h⟩ | ⟨hc1, h⟩
  · refine y_cnd (pc' := 32) rfl rfl (zc_eqT hc1) rfl ?_
    refine y_pure (pc' := 33) (st' := [.int (nI 0)]) rfl rfl ?_
    exact y_retZ rfl rfl (by decide) h
  · refine y_cnd (pc' := 9) rfl rfl (zc_eqF hc1) rfl ?_
    refine y_pure (pc' := 10) (st' := [.int x3]) rfl rfl ?_
    refine y_pure (pc' := 11) (st' := [.int x2, .int x3]) rfl rfl ?_
    rcases zif_inv h with ⟨hc2, h⟩ | ⟨hc2, h⟩
    · refine y_cmp (pc' := 14) rfl rfl (zc_geF hc2) rfl ?_
      refine y_pure (pc' := 15) (st' := [.ref 411]) rfl rfl ?_
      refine y_pure (pc' := 16) (st' := [.int x1, .ref 411]) rfl rfl ?_
      refine y_pure (pc' := 17) (st' := [.int x3, .int x1, .ref 411]) rfl rfl ?_
      refine y_pure (pc' := 18) (st' := [.int x2, .int x3, .int x1, .ref 411]) rfl rfl ?_
      obtain ⟨v5, M4, he3, h⟩ := zC1_inv h
      refine y_callV (pc' := 21) (y := zmS_areMarkedAlike) (a' := [.int x1, .int x3, .int x2]) (st' := []) rfl rfl rfl rfl rfl (zrecv_o (o := 5) zc_411 rfl) rfl he3 rfl rfl ?_
      rcases zif_inv h with ⟨hc6, h⟩ | ⟨hc6, h⟩
      · refine y_cnd (pc' := 26) rfl rfl (zc_eqT hc6) rfl ?_
        refine y_pure (pc' := 29) (ls' := [(0, .ref 411), (1, .int x1), (2, .int x2), (3, .int (x3 + (nI 1)))]) (st' := []) rfl rfl ?_
        refine y_pure (pc' := 2) rfl rfl ?_
        refine zEx_sub ?_ h
        exact ⟨rfl, rfl, rfl, rfl, trivial⟩
      · refine y_cnd (pc' := 24) rfl rfl (zc_eqF hc6) rfl ?_
        refine y_pure (pc' := 25) (st' := [.int (nI 1)]) rfl rfl ?_
        exact y_retZ rfl rfl (by decide) h
    · refine y_cmp (pc' := 32) rfl rfl (zc_geT hc2) rfl ?_
      refine y_pure (pc' := 33) (st' := [.int (nI 0)]) rfl rfl ?_
      exact y_retZ rfl rfl (by decide) h
theorem e_S_hasFailedAlike {d : Nat} {x1 : Int32} {x2 : Int32} {M : ZM} {r : ZR}  (h : h_S_hasFailedAlike_2 d x1 x2 (nI 1) M = some r) : zEv (d + 1) zmS_hasFailedAlike [.ref 411, .int x1, .int x2] M = some r := by
  rw [zEv_succ]
  show zEx0 (zEv d) zmS_hasFailedAlike (0, [(0, .ref 411), (1, .int x1), (2, .int x2)], [], M) = some r
  refine y_pure (pc' := 1) (st' := [.int (nI 1)]) rfl rfl ?_
  refine y_pure (pc' := 2) (ls' := [(0, .ref 411), (1, .int x1), (2, .int x2), (3, .int (nI 1))]) (st' := []) rfl rfl ?_
  refine zEx_sub ?_ h
  exact ⟨rfl, rfl, rfl, rfl, trivial⟩
noncomputable def h_S_areMarkedAlike_3 (d : Nat) (x1 : Int32) (x2 : Int32) (x3 : Int32) (x4 : Int32) (M : ZM) : Option ZR := zEx0 (zEv d) zmS_areMarkedAlike (3, [(0, .ref 411), (1, .int x1), (2, .int x2), (3, .int x3), (4, .int x4)], [], M)
theorem e_S_areMarkedAlike_3 {d : Nat} {x1 : Int32} {x2 : Int32} {x3 : Int32} {x4 : Int32} {M : ZM} {r : ZR}  (h : (if x4 < (M.1 411 1) then (if zin x1 17 = true then (if zin x4 16 = true then (if zin (M.1 544 (Int32.toNatClampNeg x4)) 36 = true then zL (M.1 (547 + (Int32.toNatClampNeg x1)) (Int32.toNatClampNeg (M.1 544 (Int32.toNatClampNeg x4)))) (fun y5 => zC1 (zEv d zmJI_bitCount [.int y5] M) (fun v9 M8 => (if (nI 1) < v9 then (if zin (M8.1 544 (Int32.toNatClampNeg x4)) 36 = true then (if (M8.1 545 (Int32.toNatClampNeg (M8.1 544 (Int32.toNatClampNeg x4)))) = (nI 0) then h_S_areMarkedAlike_3 d x1 x2 x3 (x4 + (nI 1)) M8 else (if ((y5 >>> (x2 &&& 31)) &&& (nI 1)) = ((y5 >>> (x3 &&& 31)) &&& (nI 1)) then h_S_areMarkedAlike_3 d x1 x2 x3 (x4 + (nI 1)) M8 else some (some (.int (nI 0)), M8))) else none) else h_S_areMarkedAlike_3 d x1 x2 x3 (x4 + (nI 1)) M8))) else none) else none) else none) else some (some (.int (nI 1)), M)) = some r) : h_S_areMarkedAlike_3 d x1 x2 x3 x4 M = some r := by
  show zEx0 (zEv d) zmS_areMarkedAlike (3, [(0, .ref 411), (1, .int x1), (2, .int x2), (3, .int x3), (4, .int x4)], [], M) = some r
  refine y_pure (pc' := 5) (st' := [.int x4]) rfl rfl ?_
  refine y_pure (pc' := 6) (st' := [.ref 411, .int x4]) rfl rfl ?_
  refine y_getf (pc' := 9) (v := .int (M.1 411 1)) rfl rfl rfl zc_411 rfl rfl ?_
  rcases zif_inv h with ⟨hc1, h⟩ | ⟨hc1, h⟩
  · refine y_cmp (pc' := 12) rfl rfl (zc_geF hc1) rfl ?_
    refine y_pure (pc' := 13) (st' := [.ref 411]) rfl rfl ?_
    refine y_getf (pc' := 16) (v := .ref 546) rfl rfl rfl zc_411 rfl rfl ?_
    refine y_pure (pc' := 17) (st' := [.int x1, .ref 546]) rfl rfl ?_
    obtain ⟨hi2, h⟩ := zg_inv h
    refine y_aald (pc' := 18) (q' := 547 + (Int32.toNatClampNeg x1)) rfl zc_546 hi2 (congrArg (HAdd.hAdd (547)) (Nat.one_mul _)) rfl ?_
    refine y_pure (pc' := 19) (st' := [.ref 411, .ref (547 + (Int32.toNatClampNeg x1))]) rfl rfl ?_
    refine y_getf (pc' := 22) (v := .ref 544) rfl rfl rfl zc_411 rfl rfl ?_
    refine y_pure (pc' := 24) (st' := [.int x4, .ref 544, .ref (547 + (Int32.toNatClampNeg x1))]) rfl rfl ?_
    obtain ⟨hi3, h⟩ := zg_inv h
    refine y_iald (pc' := 25) rfl zc_544 hi3 rfl ?_
    obtain ⟨hi4, h⟩ := zg_inv h
    refine y_iald (pc' := 26) rfl (zl_4 zc_546 hi2) hi4 rfl ?_
    obtain ⟨y5, e6, h⟩ := zL_inv h
    refine zT_gen e6 ?_
    refine y_pure (pc' := 28) (ls' := [(0, .ref 411), (1, .int x1), (2, .int x2), (3, .int x3), (4, .int x4), (5, .int y5)]) (st' := []) rfl rfl ?_
    refine y_pure (pc' := 30) (st' := [.int y5]) rfl rfl ?_
    obtain ⟨v9, M8, he7, h⟩ := zC1_inv h
    refine y_callS (pc' := 33) (y := zmJI_bitCount) (a := [.int y5]) (st' := []) rfl rfl rfl rfl rfl rfl he7 rfl rfl ?_
    refine y_pure (pc' := 34) (st' := [.int (nI 1), .int v9]) rfl rfl ?_
    rcases zif_inv h with ⟨hc10, h⟩ | ⟨hc10, h⟩
    · refine y_cmp (pc' := 37) rfl rfl (zc_leF hc10) rfl ?_
      refine y_pure (pc' := 38) (st' := [.ref 411]) rfl rfl ?_
      refine y_getf (pc' := 41) (v := .ref 545) rfl rfl rfl zc_411 rfl rfl ?_
      refine y_pure (pc' := 42) (st' := [.ref 411, .ref 545]) rfl rfl ?_
      refine y_getf (pc' := 45) (v := .ref 544) rfl rfl rfl zc_411 rfl rfl ?_
      refine y_pure (pc' := 47) (st' := [.int x4, .ref 544, .ref 545]) rfl rfl ?_
      refine y_iald (pc' := 48) rfl zc_544 hi3 rfl ?_
      obtain ⟨hi11, h⟩ := zg_inv h
      refine y_iald (pc' := 49) rfl zc_545 hi11 rfl ?_
      rcases zif_inv h with ⟨hc12, h⟩ | ⟨hc12, h⟩
      · refine y_cnd (pc' := 69) rfl rfl (zc_eqT hc12) rfl ?_
        refine y_pure (pc' := 72) (ls' := [(0, .ref 411), (1, .int x1), (2, .int x2), (3, .int x3), (4, .int (x4 + (nI 1))), (5, .int y5)]) (st' := []) rfl rfl ?_
        refine y_pure (pc' := 3) rfl rfl ?_
        refine zEx_sub ?_ h
        exact ⟨rfl, rfl, rfl, rfl, rfl, trivial⟩
      · refine y_cnd (pc' := 52) rfl rfl (zc_eqF hc12) rfl ?_
        refine y_pure (pc' := 54) (st' := [.int y5]) rfl rfl ?_
        refine y_pure (pc' := 55) (st' := [.int x2, .int y5]) rfl rfl ?_
        refine y_pure (pc' := 56) (st' := [.int (y5 >>> (x2 &&& 31))]) rfl rfl ?_
        refine y_pure (pc' := 57) (st' := [.int (nI 1), .int (y5 >>> (x2 &&& 31))]) rfl rfl ?_
        refine y_pure (pc' := 58) (st' := [.int ((y5 >>> (x2 &&& 31)) &&& (nI 1))]) rfl rfl ?_
        refine y_pure (pc' := 60) (st' := [.int y5, .int ((y5 >>> (x2 &&& 31)) &&& (nI 1))]) rfl rfl ?_
        refine y_pure (pc' := 61) (st' := [.int x3, .int y5, .int ((y5 >>> (x2 &&& 31)) &&& (nI 1))]) rfl rfl ?_
        refine y_pure (pc' := 62) (st' := [.int (y5 >>> (x3 &&& 31)), .int ((y5 >>> (x2 &&& 31)) &&& (nI 1))]) rfl rfl ?_
        refine y_pure (pc' := 63) (st' := [.int (nI 1), .int (y5 >>> (x3 &&& 31)), .int ((y5 >>> (x2 &&& 31)) &&& (nI 1))]) rfl rfl ?_
        refine y_pure (pc' := 64) (st' := [.int ((y5 >>> (x3 &&& 31)) &&& (nI 1)), .int ((y5 >>> (x2 &&& 31)) &&& (nI 1))]) rfl rfl ?_
        rcases zif_inv h with ⟨hc13, h⟩ | ⟨hc13, h⟩
        · refine y_cmp (pc' := 69) rfl rfl (zc_eqT hc13) rfl ?_
          refine y_pure (pc' := 72) (ls' := [(0, .ref 411), (1, .int x1), (2, .int x2), (3, .int x3), (4, .int (x4 + (nI 1))), (5, .int y5)]) (st' := []) rfl rfl ?_
          refine y_pure (pc' := 3) rfl rfl ?_
          refine zEx_sub ?_ h
          exact ⟨rfl, rfl, rfl, rfl, rfl, trivial⟩
        · refine y_cmp (pc' := 67) rfl rfl (zc_eqF hc13) rfl ?_
          refine y_pure (pc' := 68) (st' := [.int (nI 0)]) rfl rfl ?_
          exact y_retZ rfl rfl (by decide) h
    · refine y_cmp (pc' := 69) rfl rfl (zc_leT hc10) rfl ?_
      refine y_pure (pc' := 72) (ls' := [(0, .ref 411), (1, .int x1), (2, .int x2), (3, .int x3), (4, .int (x4 + (nI 1))), (5, .int y5)]) (st' := []) rfl rfl ?_
      refine y_pure (pc' := 3) rfl rfl ?_
      refine zEx_sub ?_ h
      exact ⟨rfl, rfl, rfl, rfl, rfl, trivial⟩
  · refine y_cmp (pc' := 75) rfl rfl (zc_geT hc1) rfl ?_
    refine y_pure (pc' := 76) (st' := [.int (nI 1)]) rfl rfl ?_
    exact y_retZ rfl rfl (by decide) h
theorem e_S_areMarkedAlike {d : Nat} {x1 : Int32} {x2 : Int32} {x3 : Int32} {M : ZM} {r : ZR}  (h : h_S_areMarkedAlike_3 d x1 x2 x3 (nI 0) M = some r) : zEv (d + 1) zmS_areMarkedAlike [.ref 411, .int x1, .int x2, .int x3] M = some r := by
  rw [zEv_succ]
  show zEx0 (zEv d) zmS_areMarkedAlike (0, [(0, .ref 411), (1, .int x1), (2, .int x2), (3, .int x3)], [], M) = some r
  refine y_pure (pc' := 1) (st' := [.int (nI 0)]) rfl rfl ?_
  refine y_pure (pc' := 3) (ls' := [(0, .ref 411), (1, .int x1), (2, .int x2), (3, .int x3), (4, .int (nI 0))]) (st' := []) rfl rfl ?_
  refine zEx_sub ?_ h
  exact ⟨rfl, rfl, rfl, rfl, rfl, trivial⟩
theorem e_S_enter {d : Nat} {x1 : Int32} {x2 : Int32} {x3 : Int32} {M : ZM} {r : ZR}  (h : (if zin x1 17 = true then (if zin x2 36 = true then (if (((M.1 (547 + (Int32.toNatClampNeg x1)) (Int32.toNatClampNeg x2)) >>> (x3 &&& 31)) &&& (nI 1)) = (nI 0) then some (some (.int (nI 0)), M) else (if zin (x1 + (nI 1)) 17 = true then (if 547 + (Int32.toNatClampNeg x1) ≠ 547 + (Int32.toNatClampNeg (x1 + (nI 1))) then zL (zsi M (547 + (Int32.toNatClampNeg (x1 + (nI 1)))) (va_cpy (M.1 (547 + (Int32.toNatClampNeg x1))) (M.1 (547 + (Int32.toNatClampNeg (x1 + (nI 1))))) (0) (0) (36))) (fun M6 => some (some (.int (nI 1)), (zpi M6 (547 + (Int32.toNatClampNeg (x1 + (nI 1)))) (Int32.toNatClampNeg x2) ((nI 1) <<< (x3 &&& 31))))) else none) else none)) else none) else none) = some r) : zEv (d + 1) zmS_enter [.ref 411, .int x1, .int x2, .int x3] M = some r := by
  rw [zEv_succ]
  show zEx0 (zEv d) zmS_enter (0, [(0, .ref 411), (1, .int x1), (2, .int x2), (3, .int x3)], [], M) = some r
  refine y_pure (pc' := 1) (st' := [.ref 411]) rfl rfl ?_
  refine y_getf (pc' := 4) (v := .ref 546) rfl rfl rfl zc_411 rfl rfl ?_
  refine y_pure (pc' := 5) (st' := [.int x1, .ref 546]) rfl rfl ?_
  obtain ⟨hi1, h⟩ := zg_inv h
  refine y_aald (pc' := 6) (q' := 547 + (Int32.toNatClampNeg x1)) rfl zc_546 hi1 (congrArg (HAdd.hAdd (547)) (Nat.one_mul _)) rfl ?_
  refine y_pure (pc' := 7) (st' := [.int x2, .ref (547 + (Int32.toNatClampNeg x1))]) rfl rfl ?_
  obtain ⟨hi2, h⟩ := zg_inv h
  refine y_iald (pc' := 8) rfl (zl_4 zc_546 hi1) hi2 rfl ?_
  refine y_pure (pc' := 9) (st' := [.int x3, .int (M.1 (547 + (Int32.toNatClampNeg x1)) (Int32.toNatClampNeg x2))]) rfl rfl ?_
  refine y_pure (pc' := 10) (st' := [.int ((M.1 (547 + (Int32.toNatClampNeg x1)) (Int32.toNatClampNeg x2)) >>> (x3 &&& 31))]) rfl rfl ?_
  refine y_pure (pc' := 11) (st' := [.int (nI 1), .int ((M.1 (547 + (Int32.toNatClampNeg x1)) (Int32.toNatClampNeg x2)) >>> (x3 &&& 31))]) rfl rfl ?_
  refine y_pure (pc' := 12) (st' := [.int (((M.1 (547 + (Int32.toNatClampNeg x1)) (Int32.toNatClampNeg x2)) >>> (x3 &&& 31)) &&& (nI 1))]) rfl rfl ?_
  rcases zif_inv h with ⟨hc3, h⟩ | ⟨hc3, h⟩
  · refine y_cnd (pc' := 15) rfl rfl (zc_neF hc3) rfl ?_
    refine y_pure (pc' := 16) (st' := [.int (nI 0)]) rfl rfl ?_
    exact y_retZ rfl rfl (by decide) h
  · refine y_cnd (pc' := 17) rfl rfl (zc_neT hc3) rfl ?_
    refine y_pure (pc' := 18) (st' := [.ref 411]) rfl rfl ?_
    refine y_getf (pc' := 21) (v := .ref 546) rfl rfl rfl zc_411 rfl rfl ?_
    refine y_pure (pc' := 22) (st' := [.int x1, .ref 546]) rfl rfl ?_
    refine y_aald (pc' := 23) (q' := 547 + (Int32.toNatClampNeg x1)) rfl zc_546 hi1 (congrArg (HAdd.hAdd (547)) (Nat.one_mul _)) rfl ?_
    refine y_pure (pc' := 24) (st' := [.int (nI 0), .ref (547 + (Int32.toNatClampNeg x1))]) rfl rfl ?_
    refine y_pure (pc' := 25) (st' := [.ref 411, .int (nI 0), .ref (547 + (Int32.toNatClampNeg x1))]) rfl rfl ?_
    refine y_getf (pc' := 28) (v := .ref 546) rfl rfl rfl zc_411 rfl rfl ?_
    refine y_pure (pc' := 29) (st' := [.int x1, .ref 546, .int (nI 0), .ref (547 + (Int32.toNatClampNeg x1))]) rfl rfl ?_
    refine y_pure (pc' := 30) (st' := [.int (nI 1), .int x1, .ref 546, .int (nI 0), .ref (547 + (Int32.toNatClampNeg x1))]) rfl rfl ?_
    refine y_pure (pc' := 31) (st' := [.int (x1 + (nI 1)), .ref 546, .int (nI 0), .ref (547 + (Int32.toNatClampNeg x1))]) rfl rfl ?_
    obtain ⟨hi4, h⟩ := zg_inv h
    refine y_aald (pc' := 32) (q' := 547 + (Int32.toNatClampNeg (x1 + (nI 1)))) rfl zc_546 hi4 (congrArg (HAdd.hAdd (547)) (Nat.one_mul _)) rfl ?_
    refine y_pure (pc' := 33) (st' := [.int (nI 0), .ref (547 + (Int32.toNatClampNeg (x1 + (nI 1)))), .int (nI 0), .ref (547 + (Int32.toNatClampNeg x1))]) rfl rfl ?_
    refine y_pure (pc' := 35) (st' := [.int (nI 36), .int (nI 0), .ref (547 + (Int32.toNatClampNeg (x1 + (nI 1)))), .int (nI 0), .ref (547 + (Int32.toNatClampNeg x1))]) rfl rfl ?_
    obtain ⟨hg5, h⟩ := zg_inv h
    refine y_copyI (pc' := 38) rfl rfl rfl (zl_4 zc_546 hi1) (zl_4 zc_546 hi4) hg5 (by decide) rfl ?_
    obtain ⟨M6, e7, h⟩ := zL_inv h
    refine zM_gen e7 ?_
    refine y_pure (pc' := 39) (st' := [.ref 411]) rfl rfl ?_
    refine y_getf (pc' := 42) (v := .ref 546) rfl rfl rfl zc_411 rfl rfl ?_
    refine y_pure (pc' := 43) (st' := [.int x1, .ref 546]) rfl rfl ?_
    refine y_pure (pc' := 44) (st' := [.int (nI 1), .int x1, .ref 546]) rfl rfl ?_
    refine y_pure (pc' := 45) (st' := [.int (x1 + (nI 1)), .ref 546]) rfl rfl ?_
    refine y_aald (pc' := 46) (q' := 547 + (Int32.toNatClampNeg (x1 + (nI 1)))) rfl zc_546 hi4 (congrArg (HAdd.hAdd (547)) (Nat.one_mul _)) rfl ?_
    refine y_pure (pc' := 47) (st' := [.int x2, .ref (547 + (Int32.toNatClampNeg (x1 + (nI 1))))]) rfl rfl ?_
    refine y_pure (pc' := 48) (st' := [.int (nI 1), .int x2, .ref (547 + (Int32.toNatClampNeg (x1 + (nI 1))))]) rfl rfl ?_
    refine y_pure (pc' := 49) (st' := [.int x3, .int (nI 1), .int x2, .ref (547 + (Int32.toNatClampNeg (x1 + (nI 1))))]) rfl rfl ?_
    refine y_pure (pc' := 50) (st' := [.int ((nI 1) <<< (x3 &&& 31)), .int x2, .ref (547 + (Int32.toNatClampNeg (x1 + (nI 1))))]) rfl rfl ?_
    refine y_iast (pc' := 51) rfl (zl_4 zc_546 hi4) hi2 rfl ?_
    refine y_pure (pc' := 52) (st' := [.int (nI 1)]) rfl rfl ?_
    exact y_retZ rfl rfl (by decide) h
noncomputable def h_S_firstUnsure_2 (d : Nat) (x1 : Int32) (x2 : Int32) (M : ZM) : Option ZR := zEx0 (zEv d) zmS_firstUnsure (2, [(0, .ref 411), (1, .int x1), (2, .int x2)], [], M)
theorem e_S_firstUnsure_2 {d : Nat} {x1 : Int32} {x2 : Int32} {M : ZM} {r : ZR}  (h : (if x2 < (M.1 411 1) then (if zin x1 17 = true then (if zin x2 16 = true then (if zin (M.1 544 (Int32.toNatClampNeg x2)) 36 = true then zC1 (zEv d zmJI_bitCount [.int (M.1 (547 + (Int32.toNatClampNeg x1)) (Int32.toNatClampNeg (M.1 544 (Int32.toNatClampNeg x2))))] M) (fun v7 M6 => (if (nI 1) < v7 then some (some (.int (M6.1 544 (Int32.toNatClampNeg x2))), M6) else h_S_firstUnsure_2 d x1 (x2 + (nI 1)) M6)) else none) else none) else none) else some (some (.int (-1 : Int32)), M)) = some r) : h_S_firstUnsure_2 d x1 x2 M = some r := by
  show zEx0 (zEv d) zmS_firstUnsure (2, [(0, .ref 411), (1, .int x1), (2, .int x2)], [], M) = some r
  refine y_pure (pc' := 3) (st' := [.int x2]) rfl rfl ?_
  refine y_pure (pc' := 4) (st' := [.ref 411, .int x2]) rfl rfl ?_
  refine y_getf (pc' := 7) (v := .int (M.1 411 1)) rfl rfl rfl zc_411 rfl rfl ?_
  rcases zif_inv h with ⟨hc1, h⟩ | ⟨hc1, h⟩
  · refine y_cmp (pc' := 10) rfl rfl (zc_geF hc1) rfl ?_
    refine y_pure (pc' := 11) (st' := [.ref 411]) rfl rfl ?_
    refine y_getf (pc' := 14) (v := .ref 546) rfl rfl rfl zc_411 rfl rfl ?_
    refine y_pure (pc' := 15) (st' := [.int x1, .ref 546]) rfl rfl ?_
    obtain ⟨hi2, h⟩ := zg_inv h
    refine y_aald (pc' := 16) (q' := 547 + (Int32.toNatClampNeg x1)) rfl zc_546 hi2 (congrArg (HAdd.hAdd (547)) (Nat.one_mul _)) rfl ?_
    refine y_pure (pc' := 17) (st' := [.ref 411, .ref (547 + (Int32.toNatClampNeg x1))]) rfl rfl ?_
    refine y_getf (pc' := 20) (v := .ref 544) rfl rfl rfl zc_411 rfl rfl ?_
    refine y_pure (pc' := 21) (st' := [.int x2, .ref 544, .ref (547 + (Int32.toNatClampNeg x1))]) rfl rfl ?_
    obtain ⟨hi3, h⟩ := zg_inv h
    refine y_iald (pc' := 22) rfl zc_544 hi3 rfl ?_
    obtain ⟨hi4, h⟩ := zg_inv h
    refine y_iald (pc' := 23) rfl (zl_4 zc_546 hi2) hi4 rfl ?_
    obtain ⟨v7, M6, he5, h⟩ := zC1_inv h
    refine y_callS (pc' := 26) (y := zmJI_bitCount) (a := [.int (M.1 (547 + (Int32.toNatClampNeg x1)) (Int32.toNatClampNeg (M.1 544 (Int32.toNatClampNeg x2))))]) (st' := []) rfl rfl rfl rfl rfl rfl he5 rfl rfl ?_
    refine y_pure (pc' := 27) (st' := [.int (nI 1), .int v7]) rfl rfl ?_
    rcases zif_inv h with ⟨hc8, h⟩ | ⟨hc8, h⟩
    · refine y_cmp (pc' := 30) rfl rfl (zc_leF hc8) rfl ?_
      refine y_pure (pc' := 31) (st' := [.ref 411]) rfl rfl ?_
      refine y_getf (pc' := 34) (v := .ref 544) rfl rfl rfl zc_411 rfl rfl ?_
      refine y_pure (pc' := 35) (st' := [.int x2, .ref 544]) rfl rfl ?_
      refine y_iald (pc' := 36) rfl zc_544 hi3 rfl ?_
      exact y_ret rfl rfl rfl rfl h
    · refine y_cmp (pc' := 37) rfl rfl (zc_leT hc8) rfl ?_
      refine y_pure (pc' := 40) (ls' := [(0, .ref 411), (1, .int x1), (2, .int (x2 + (nI 1)))]) (st' := []) rfl rfl ?_
      refine y_pure (pc' := 2) rfl rfl ?_
      refine zEx_sub ?_ h
      exact ⟨rfl, rfl, rfl, trivial⟩
  · refine y_cmp (pc' := 43) rfl rfl (zc_geT hc1) rfl ?_
    refine y_pure (pc' := 44) (st' := [.int (-1 : Int32)]) rfl rfl ?_
    exact y_ret rfl rfl rfl rfl h
theorem e_S_firstUnsure {d : Nat} {x1 : Int32} {M : ZM} {r : ZR}  (h : h_S_firstUnsure_2 d x1 (nI 0) M = some r) : zEv (d + 1) zmS_firstUnsure [.ref 411, .int x1] M = some r := by
  rw [zEv_succ]
  show zEx0 (zEv d) zmS_firstUnsure (0, [(0, .ref 411), (1, .int x1)], [], M) = some r
  refine y_pure (pc' := 1) (st' := [.int (nI 0)]) rfl rfl ?_
  refine y_pure (pc' := 2) (ls' := [(0, .ref 411), (1, .int x1), (2, .int (nI 0))]) (st' := []) rfl rfl ?_
  refine zEx_sub ?_ h
  exact ⟨rfl, rfl, rfl, trivial⟩
noncomputable def h_S_tightest_10 (d : Nat) (x1 : Int32) (x2 : Int32) (x3 : Int32) (x4 : Int32) (x5 : Int32) (M : ZM) : Option ZR := zEx0 (zEv d) zmS_tightest (10, [(0, .ref 411), (1, .int x1), (2, .int x2), (3, .int x3), (4, .int x4), (5, .int x5)], [], M)
theorem e_S_tightest_10 {d : Nat} {x1 : Int32} {x2 : Int32} {x3 : Int32} {x4 : Int32} {x5 : Int32} {M : ZM} {r : ZR}  (h : (if x5 < (M.1 411 1) then (if zin x1 17 = true then (if zin x5 16 = true then (if zin (M.1 544 (Int32.toNatClampNeg x5)) 36 = true then zC1 (zEv d zmJI_bitCount [.int (M.1 (547 + (Int32.toNatClampNeg x1)) (Int32.toNatClampNeg (M.1 544 (Int32.toNatClampNeg x5))))] M) (fun v7 M6 => (if zin (M6.1 544 (Int32.toNatClampNeg x5)) 36 = true then zC1 (zEv d zmJI_bitCount [.int (M6.1 545 (Int32.toNatClampNeg (M6.1 544 (Int32.toNatClampNeg x5))))] M6) (fun v11 M10 => (if (nI 1) < v7 then (if (nI 0) < v11 then (if x2 = (-1 : Int32) then h_S_tightest_10 d x1 (M10.1 544 (Int32.toNatClampNeg x5)) v7 v11 (x5 + (nI 1)) M10 else (if (v7 * x4) < (x3 * v11) then h_S_tightest_10 d x1 (M10.1 544 (Int32.toNatClampNeg x5)) v7 v11 (x5 + (nI 1)) M10 else h_S_tightest_10 d x1 x2 x3 x4 (x5 + (nI 1)) M10)) else h_S_tightest_10 d x1 x2 x3 x4 (x5 + (nI 1)) M10) else h_S_tightest_10 d x1 x2 x3 x4 (x5 + (nI 1)) M10)) else none)) else none) else none) else none) else some (some (.int x2), M)) = some r) : h_S_tightest_10 d x1 x2 x3 x4 x5 M = some r := by
  show zEx0 (zEv d) zmS_tightest (10, [(0, .ref 411), (1, .int x1), (2, .int x2), (3, .int x3), (4, .int x4), (5, .int x5)], [], M) = some r
  refine y_pure (pc' := 12) (st' := [.int x5]) rfl rfl ?_
  refine y_pure (pc' := 13) (st' := [.ref 411, .int x5]) rfl rfl ?_
  refine y_getf (pc' := 16) (v := .int (M.1 411 1)) rfl rfl rfl zc_411 rfl rfl ?_
  rcases zif_inv h with ⟨hc1, h⟩ | ⟨hc1, h⟩
  · refine y_cmp (pc' := 19) rfl rfl (zc_geF hc1) rfl ?_
    refine y_pure (pc' := 20) (st' := [.ref 411]) rfl rfl ?_
    refine y_getf (pc' := 23) (v := .ref 546) rfl rfl rfl zc_411 rfl rfl ?_
    refine y_pure (pc' := 24) (st' := [.int x1, .ref 546]) rfl rfl ?_
    obtain ⟨hi2, h⟩ := zg_inv h
    refine y_aald (pc' := 25) (q' := 547 + (Int32.toNatClampNeg x1)) rfl zc_546 hi2 (congrArg (HAdd.hAdd (547)) (Nat.one_mul _)) rfl ?_
    refine y_pure (pc' := 26) (st' := [.ref 411, .ref (547 + (Int32.toNatClampNeg x1))]) rfl rfl ?_
    refine y_getf (pc' := 29) (v := .ref 544) rfl rfl rfl zc_411 rfl rfl ?_
    refine y_pure (pc' := 31) (st' := [.int x5, .ref 544, .ref (547 + (Int32.toNatClampNeg x1))]) rfl rfl ?_
    obtain ⟨hi3, h⟩ := zg_inv h
    refine y_iald (pc' := 32) rfl zc_544 hi3 rfl ?_
    obtain ⟨hi4, h⟩ := zg_inv h
    refine y_iald (pc' := 33) rfl (zl_4 zc_546 hi2) hi4 rfl ?_
    obtain ⟨v7, M6, he5, h⟩ := zC1_inv h
    refine y_callS (pc' := 36) (y := zmJI_bitCount) (a := [.int (M.1 (547 + (Int32.toNatClampNeg x1)) (Int32.toNatClampNeg (M.1 544 (Int32.toNatClampNeg x5))))]) (st' := []) rfl rfl rfl rfl rfl rfl he5 rfl rfl ?_
    refine y_pure (pc' := 38) (ls' := [(0, .ref 411), (1, .int x1), (2, .int x2), (3, .int x3), (4, .int x4), (5, .int x5), (6, .int v7)]) (st' := []) rfl rfl ?_
    refine y_pure (pc' := 39) (st' := [.ref 411]) rfl rfl ?_
    refine y_getf (pc' := 42) (v := .ref 545) rfl rfl rfl zc_411 rfl rfl ?_
    refine y_pure (pc' := 43) (st' := [.ref 411, .ref 545]) rfl rfl ?_
    refine y_getf (pc' := 46) (v := .ref 544) rfl rfl rfl zc_411 rfl rfl ?_
    refine y_pure (pc' := 48) (st' := [.int x5, .ref 544, .ref 545]) rfl rfl ?_
    refine y_iald (pc' := 49) rfl zc_544 hi3 rfl ?_
    obtain ⟨hi8, h⟩ := zg_inv h
    refine y_iald (pc' := 50) rfl zc_545 hi8 rfl ?_
    obtain ⟨v11, M10, he9, h⟩ := zC1_inv h
    refine y_callS (pc' := 53) (y := zmJI_bitCount) (a := [.int (M6.1 545 (Int32.toNatClampNeg (M6.1 544 (Int32.toNatClampNeg x5))))]) (st' := []) rfl rfl rfl rfl rfl rfl he9 rfl rfl ?_
    refine y_pure (pc' := 55) (ls' := [(0, .ref 411), (1, .int x1), (2, .int x2), (3, .int x3), (4, .int x4), (5, .int x5), (6, .int v7), (7, .int v11)]) (st' := []) rfl rfl ?_
    refine y_pure (pc' := 57) (st' := [.int v7]) rfl rfl ?_
    refine y_pure (pc' := 58) (st' := [.int (nI 1), .int v7]) rfl rfl ?_
    rcases zif_inv h with ⟨hc12, h⟩ | ⟨hc12, h⟩
    · refine y_cmp (pc' := 61) rfl rfl (zc_leF hc12) rfl ?_
      refine y_pure (pc' := 63) (st' := [.int v11]) rfl rfl ?_
      rcases zif_inv h with ⟨hc13, h⟩ | ⟨hc13, h⟩
      · refine y_cnd (pc' := 66) rfl rfl (zc_leF hc13) rfl ?_
        refine y_pure (pc' := 67) (st' := [.int x2]) rfl rfl ?_
        refine y_pure (pc' := 68) (st' := [.int (-1 : Int32), .int x2]) rfl rfl ?_
        rcases zif_inv h with ⟨hc14, h⟩ | ⟨hc14, h⟩
        · refine y_cmp (pc' := 83) rfl rfl (zc_eqT hc14) rfl ?_
          refine y_pure (pc' := 84) (st' := [.ref 411]) rfl rfl ?_
          refine y_getf (pc' := 87) (v := .ref 544) rfl rfl rfl zc_411 rfl rfl ?_
          refine y_pure (pc' := 89) (st' := [.int x5, .ref 544]) rfl rfl ?_
          refine y_iald (pc' := 90) rfl zc_544 hi3 rfl ?_
          refine y_pure (pc' := 91) (ls' := [(0, .ref 411), (1, .int x1), (2, .int (M10.1 544 (Int32.toNatClampNeg x5))), (3, .int x3), (4, .int x4), (5, .int x5), (6, .int v7), (7, .int v11)]) (st' := []) rfl rfl ?_
          refine y_pure (pc' := 93) (st' := [.int v7]) rfl rfl ?_
          refine y_pure (pc' := 94) (ls' := [(0, .ref 411), (1, .int x1), (2, .int (M10.1 544 (Int32.toNatClampNeg x5))), (3, .int v7), (4, .int x4), (5, .int x5), (6, .int v7), (7, .int v11)]) (st' := []) rfl rfl ?_
          refine y_pure (pc' := 96) (st' := [.int v11]) rfl rfl ?_
          refine y_pure (pc' := 98) (ls' := [(0, .ref 411), (1, .int x1), (2, .int (M10.1 544 (Int32.toNatClampNeg x5))), (3, .int v7), (4, .int v11), (5, .int x5), (6, .int v7), (7, .int v11)]) (st' := []) rfl rfl ?_
          refine y_pure (pc' := 101) (ls' := [(0, .ref 411), (1, .int x1), (2, .int (M10.1 544 (Int32.toNatClampNeg x5))), (3, .int v7), (4, .int v11), (5, .int (x5 + (nI 1))), (6, .int v7), (7, .int v11)]) (st' := []) rfl rfl ?_
          refine y_pure (pc' := 10) rfl rfl ?_
          refine zEx_sub ?_ h
          exact ⟨rfl, rfl, rfl, rfl, rfl, rfl, trivial⟩
        · refine y_cmp (pc' := 71) rfl rfl (zc_eqF hc14) rfl ?_
          refine y_pure (pc' := 73) (st' := [.int v7]) rfl rfl ?_
          refine y_pure (pc' := 75) (st' := [.int x4, .int v7]) rfl rfl ?_
          refine y_pure (pc' := 76) (st' := [.int (v7 * x4)]) rfl rfl ?_
          refine y_pure (pc' := 77) (st' := [.int x3, .int (v7 * x4)]) rfl rfl ?_
          refine y_pure (pc' := 79) (st' := [.int v11, .int x3, .int (v7 * x4)]) rfl rfl ?_
          refine y_pure (pc' := 80) (st' := [.int (x3 * v11), .int (v7 * x4)]) rfl rfl ?_
          rcases zif_inv h with ⟨hc15, h⟩ | ⟨hc15, h⟩
          · refine y_cmp (pc' := 83) rfl rfl (zc_geF hc15) rfl ?_
            refine y_pure (pc' := 84) (st' := [.ref 411]) rfl rfl ?_
            refine y_getf (pc' := 87) (v := .ref 544) rfl rfl rfl zc_411 rfl rfl ?_
            refine y_pure (pc' := 89) (st' := [.int x5, .ref 544]) rfl rfl ?_
            refine y_iald (pc' := 90) rfl zc_544 hi3 rfl ?_
            refine y_pure (pc' := 91) (ls' := [(0, .ref 411), (1, .int x1), (2, .int (M10.1 544 (Int32.toNatClampNeg x5))), (3, .int x3), (4, .int x4), (5, .int x5), (6, .int v7), (7, .int v11)]) (st' := []) rfl rfl ?_
            refine y_pure (pc' := 93) (st' := [.int v7]) rfl rfl ?_
            refine y_pure (pc' := 94) (ls' := [(0, .ref 411), (1, .int x1), (2, .int (M10.1 544 (Int32.toNatClampNeg x5))), (3, .int v7), (4, .int x4), (5, .int x5), (6, .int v7), (7, .int v11)]) (st' := []) rfl rfl ?_
            refine y_pure (pc' := 96) (st' := [.int v11]) rfl rfl ?_
            refine y_pure (pc' := 98) (ls' := [(0, .ref 411), (1, .int x1), (2, .int (M10.1 544 (Int32.toNatClampNeg x5))), (3, .int v7), (4, .int v11), (5, .int x5), (6, .int v7), (7, .int v11)]) (st' := []) rfl rfl ?_
            refine y_pure (pc' := 101) (ls' := [(0, .ref 411), (1, .int x1), (2, .int (M10.1 544 (Int32.toNatClampNeg x5))), (3, .int v7), (4, .int v11), (5, .int (x5 + (nI 1))), (6, .int v7), (7, .int v11)]) (st' := []) rfl rfl ?_
            refine y_pure (pc' := 10) rfl rfl ?_
            refine zEx_sub ?_ h
            exact ⟨rfl, rfl, rfl, rfl, rfl, rfl, trivial⟩
          · refine y_cmp (pc' := 98) rfl rfl (zc_geT hc15) rfl ?_
            refine y_pure (pc' := 101) (ls' := [(0, .ref 411), (1, .int x1), (2, .int x2), (3, .int x3), (4, .int x4), (5, .int (x5 + (nI 1))), (6, .int v7), (7, .int v11)]) (st' := []) rfl rfl ?_
            refine y_pure (pc' := 10) rfl rfl ?_
            refine zEx_sub ?_ h
            exact ⟨rfl, rfl, rfl, rfl, rfl, rfl, trivial⟩
      · refine y_cnd (pc' := 98) rfl rfl (zc_leT hc13) rfl ?_
        refine y_pure (pc' := 101) (ls' := [(0, .ref 411), (1, .int x1), (2, .int x2), (3, .int x3), (4, .int x4), (5, .int (x5 + (nI 1))), (6, .int v7), (7, .int v11)]) (st' := []) rfl rfl ?_
        refine y_pure (pc' := 10) rfl rfl ?_
        refine zEx_sub ?_ h
        exact ⟨rfl, rfl, rfl, rfl, rfl, rfl, trivial⟩
    · refine y_cmp (pc' := 98) rfl rfl (zc_leT hc12) rfl ?_
      refine y_pure (pc' := 101) (ls' := [(0, .ref 411), (1, .int x1), (2, .int x2), (3, .int x3), (4, .int x4), (5, .int (x5 + (nI 1))), (6, .int v7), (7, .int v11)]) (st' := []) rfl rfl ?_
      refine y_pure (pc' := 10) rfl rfl ?_
      refine zEx_sub ?_ h
      exact ⟨rfl, rfl, rfl, rfl, rfl, rfl, trivial⟩
  · refine y_cmp (pc' := 104) rfl rfl (zc_geT hc1) rfl ?_
    refine y_pure (pc' := 105) (st' := [.int x2]) rfl rfl ?_
    exact y_ret rfl rfl rfl rfl h
theorem e_S_tightest {d : Nat} {x1 : Int32} {M : ZM} {r : ZR}  (h : h_S_tightest_10 d x1 (-1 : Int32) (nI 0) (nI 0) (nI 0) M = some r) : zEv (d + 1) zmS_tightest [.ref 411, .int x1] M = some r := by
  rw [zEv_succ]
  show zEx0 (zEv d) zmS_tightest (0, [(0, .ref 411), (1, .int x1)], [], M) = some r
  refine y_pure (pc' := 1) (st' := [.int (-1 : Int32)]) rfl rfl ?_
  refine y_pure (pc' := 2) (ls' := [(0, .ref 411), (1, .int x1), (2, .int (-1 : Int32))]) (st' := []) rfl rfl ?_
  refine y_pure (pc' := 3) (st' := [.int (nI 0)]) rfl rfl ?_
  refine y_pure (pc' := 4) (ls' := [(0, .ref 411), (1, .int x1), (2, .int (-1 : Int32)), (3, .int (nI 0))]) (st' := []) rfl rfl ?_
  refine y_pure (pc' := 5) (st' := [.int (nI 0)]) rfl rfl ?_
  refine y_pure (pc' := 7) (ls' := [(0, .ref 411), (1, .int x1), (2, .int (-1 : Int32)), (3, .int (nI 0)), (4, .int (nI 0))]) (st' := []) rfl rfl ?_
  refine y_pure (pc' := 8) (st' := [.int (nI 0)]) rfl rfl ?_
  refine y_pure (pc' := 10) (ls' := [(0, .ref 411), (1, .int x1), (2, .int (-1 : Int32)), (3, .int (nI 0)), (4, .int (nI 0)), (5, .int (nI 0))]) (st' := []) rfl rfl ?_
  refine zEx_sub ?_ h
  exact ⟨rfl, rfl, rfl, rfl, rfl, rfl, trivial⟩
noncomputable def h_S_store_18 (d : Nat) (x1 : Int32) (x2 : Int32) (M : ZM) : Option ZR := zEx0 (zEv d) zmS_store (18, [(0, .ref 411), (1, .int x1), (2, .int x2)], [], M)
theorem e_S_store_18 {d : Nat} {x1 : Int32} {x2 : Int32} {M : ZM} {r : ZR}  (h : (if x2 < (M.1 411 1) then (if zin (M.1 411 10) 50 = true then (if zin x1 17 = true then (if zin x2 16 = true then (if zin (M.1 544 (Int32.toNatClampNeg x2)) 36 = true then zC1 (zEv d zmC_leastDigit [.int (M.1 (547 + (Int32.toNatClampNeg x1)) (Int32.toNatClampNeg (M.1 544 (Int32.toNatClampNeg x2))))] M) (fun v8 M7 => h_S_store_18 d x1 (x2 + (nI 1)) (zpi M7 (578 + (Int32.toNatClampNeg (M.1 411 10))) (Int32.toNatClampNeg x2) v8)) else none) else none) else none) else none) else some (none, (zpi M 411 10 ((M.1 411 10) + (nI 1))))) = some r) : h_S_store_18 d x1 x2 M = some r := by
  show zEx0 (zEv d) zmS_store (18, [(0, .ref 411), (1, .int x1), (2, .int x2)], [], M) = some r
  refine y_pure (pc' := 19) (st' := [.int x2]) rfl rfl ?_
  refine y_pure (pc' := 20) (st' := [.ref 411, .int x2]) rfl rfl ?_
  refine y_getf (pc' := 23) (v := .int (M.1 411 1)) rfl rfl rfl zc_411 rfl rfl ?_
  rcases zif_inv h with ⟨hc1, h⟩ | ⟨hc1, h⟩
  · refine y_cmp (pc' := 26) rfl rfl (zc_geF hc1) rfl ?_
    refine y_pure (pc' := 27) (st' := [.ref 411]) rfl rfl ?_
    refine y_getf (pc' := 30) (v := .ref 577) rfl rfl rfl zc_411 rfl rfl ?_
    refine y_pure (pc' := 31) (st' := [.ref 411, .ref 577]) rfl rfl ?_
    refine y_getf (pc' := 34) (v := .int (M.1 411 10)) rfl rfl rfl zc_411 rfl rfl ?_
    obtain ⟨hi2, h⟩ := zg_inv h
    refine y_aald (pc' := 35) (q' := 578 + (Int32.toNatClampNeg (M.1 411 10))) rfl zc_577 hi2 (congrArg (HAdd.hAdd (578)) (Nat.one_mul _)) rfl ?_
    refine y_pure (pc' := 36) (st' := [.int x2, .ref (578 + (Int32.toNatClampNeg (M.1 411 10)))]) rfl rfl ?_
    refine y_pure (pc' := 37) (st' := [.ref 411, .int x2, .ref (578 + (Int32.toNatClampNeg (M.1 411 10)))]) rfl rfl ?_
    refine y_getf (pc' := 40) (v := .ref 546) rfl rfl rfl zc_411 rfl rfl ?_
    refine y_pure (pc' := 41) (st' := [.int x1, .ref 546, .int x2, .ref (578 + (Int32.toNatClampNeg (M.1 411 10)))]) rfl rfl ?_
    obtain ⟨hi3, h⟩ := zg_inv h
    refine y_aald (pc' := 42) (q' := 547 + (Int32.toNatClampNeg x1)) rfl zc_546 hi3 (congrArg (HAdd.hAdd (547)) (Nat.one_mul _)) rfl ?_
    refine y_pure (pc' := 43) (st' := [.ref 411, .ref (547 + (Int32.toNatClampNeg x1)), .int x2, .ref (578 + (Int32.toNatClampNeg (M.1 411 10)))]) rfl rfl ?_
    refine y_getf (pc' := 46) (v := .ref 544) rfl rfl rfl zc_411 rfl rfl ?_
    refine y_pure (pc' := 47) (st' := [.int x2, .ref 544, .ref (547 + (Int32.toNatClampNeg x1)), .int x2, .ref (578 + (Int32.toNatClampNeg (M.1 411 10)))]) rfl rfl ?_
    obtain ⟨hi4, h⟩ := zg_inv h
    refine y_iald (pc' := 48) rfl zc_544 hi4 rfl ?_
    obtain ⟨hi5, h⟩ := zg_inv h
    refine y_iald (pc' := 49) rfl (zl_4 zc_546 hi3) hi5 rfl ?_
    obtain ⟨v8, M7, he6, h⟩ := zC1_inv h
    refine y_callS (pc' := 52) (y := zmC_leastDigit) (a := [.int (M.1 (547 + (Int32.toNatClampNeg x1)) (Int32.toNatClampNeg (M.1 544 (Int32.toNatClampNeg x2))))]) (st' := [.int x2, .ref (578 + (Int32.toNatClampNeg (M.1 411 10)))]) rfl rfl rfl rfl rfl rfl he6 rfl rfl ?_
    refine y_iast (pc' := 53) rfl (zl_6 zc_577 hi2) hi4 rfl ?_
    refine y_pure (pc' := 56) (ls' := [(0, .ref 411), (1, .int x1), (2, .int (x2 + (nI 1)))]) (st' := []) rfl rfl ?_
    refine y_pure (pc' := 18) rfl rfl ?_
    refine zEx_sub ?_ h
    exact ⟨rfl, rfl, rfl, trivial⟩
  · refine y_cmp (pc' := 59) rfl rfl (zc_geT hc1) rfl ?_
    refine y_pure (pc' := 60) (st' := [.ref 411]) rfl rfl ?_
    refine y_pure (pc' := 61) (st' := [.ref 411, .ref 411]) rfl rfl ?_
    refine y_getf (pc' := 64) (v := .int (M.1 411 10)) rfl rfl rfl zc_411 rfl rfl ?_
    refine y_pure (pc' := 65) (st' := [.int (nI 1), .int (M.1 411 10), .ref 411]) rfl rfl ?_
    refine y_pure (pc' := 66) (st' := [.int ((M.1 411 10) + (nI 1)), .ref 411]) rfl rfl ?_
    refine y_putI (pc' := 69) rfl rfl zc_411 rfl ?_
    exact y_ret rfl rfl rfl rfl h
theorem e_S_store {d : Nat} {x1 : Int32} {M : ZM} {r : ZR}  (h : (if (M.1 411 10) < (nI 0) then some (none, M) else (if (M.1 411 10) < (nI 50) then h_S_store_18 d x1 (nI 0) M else some (none, M))) = some r) : zEv (d + 1) zmS_store [.ref 411, .int x1] M = some r := by
  rw [zEv_succ]
  show zEx0 (zEv d) zmS_store (0, [(0, .ref 411), (1, .int x1)], [], M) = some r
  refine y_pure (pc' := 1) (st' := [.ref 411]) rfl rfl ?_
  refine y_getf (pc' := 4) (v := .int (M.1 411 10)) rfl rfl rfl zc_411 rfl rfl ?_
  rcases zif_inv h with ⟨hc1, h⟩ | ⟨hc1, h⟩
  · refine y_cnd (pc' := 69) rfl rfl (zc_ltT hc1) rfl ?_
    exact y_ret rfl rfl rfl rfl h
  · refine y_cnd (pc' := 7) rfl rfl (zc_ltF hc1) rfl ?_
    refine y_pure (pc' := 8) (st' := [.ref 411]) rfl rfl ?_
    refine y_getf (pc' := 11) (v := .int (M.1 411 10)) rfl rfl rfl zc_411 rfl rfl ?_
    refine y_pure (pc' := 13) (st' := [.int (nI 50), .int (M.1 411 10)]) rfl rfl ?_
    rcases zif_inv h with ⟨hc2, h⟩ | ⟨hc2, h⟩
    · refine y_cmp (pc' := 16) rfl rfl (zc_geF hc2) rfl ?_
      refine y_pure (pc' := 17) (st' := [.int (nI 0)]) rfl rfl ?_
      refine y_pure (pc' := 18) (ls' := [(0, .ref 411), (1, .int x1), (2, .int (nI 0))]) (st' := []) rfl rfl ?_
      refine zEx_sub ?_ h
      exact ⟨rfl, rfl, rfl, trivial⟩
    · refine y_cmp (pc' := 69) rfl rfl (zc_geT hc2) rfl ?_
      exact y_ret rfl rfl rfl rfl h
noncomputable def h_S_lowKey_5 (d : Nat) (x1 : Nat) (x2 : Int32) (x3 : Int64) (x5 : Int32) (M : ZM) : Option ZR := zEx0 (zEv d) zmS_lowKey (5, [(0, .ref 411), (1, .ref x1), (2, .int x2), (3, .long x3), (5, .int x5)], [], M)
theorem e_S_lowKey_5 {d : Nat} {x1 : Nat} {x2 : Int32} {x3 : Int64} {x5 : Int32} {M : ZM} {r : ZR} (hk1 : zkd x1 = (10, 0)) (h : (if x5 < (M.1 x1 3) then (if x5 < (nI 9) then (if zin x5 12 = true then (if zin x2 17 = true then zC1 (zEv d zmR_stateBy [.ref (424 + 10 * (Int32.toNatClampNeg x5)), .ref (547 + (Int32.toNatClampNeg x2)), .ref (x1 + 7 + (Int32.toNatClampNeg x5))] M) (fun v7 M6 => zL ((x3 <<< (Int32.toInt64 (nI 7) &&& 63)) ||| (Int32.toInt64 v7)) (fun y8 => h_S_lowKey_5 d x1 x2 y8 (x5 + (nI 1)) M6)) else none) else none) else some (some (.long x3), M)) else some (some (.long x3), M)) = some r) : h_S_lowKey_5 d x1 x2 x3 x5 M = some r := by
  show zEx0 (zEv d) zmS_lowKey (5, [(0, .ref 411), (1, .ref x1), (2, .int x2), (3, .long x3), (5, .int x5)], [], M) = some r
  refine y_pure (pc' := 7) (st' := [.int x5]) rfl rfl ?_
  refine y_pure (pc' := 8) (st' := [.ref x1, .int x5]) rfl rfl ?_
  refine y_getf (pc' := 11) (v := .int (M.1 x1 3)) rfl rfl rfl hk1 rfl rfl ?_
  rcases zif_inv h with ⟨hc1, h⟩ | ⟨hc1, h⟩
  · refine y_cmp (pc' := 14) rfl rfl (zc_geF hc1) rfl ?_
    refine y_pure (pc' := 16) (st' := [.int x5]) rfl rfl ?_
    refine y_pure (pc' := 18) (st' := [.int (nI 9), .int x5]) rfl rfl ?_
    rcases zif_inv h with ⟨hc2, h⟩ | ⟨hc2, h⟩
    · refine y_cmp (pc' := 21) rfl rfl (zc_geF hc2) rfl ?_
      refine y_pure (pc' := 22) (st' := [.long x3]) rfl rfl ?_
      refine y_pure (pc' := 24) (st' := [.int (nI 7), .long x3]) rfl rfl ?_
      refine y_pure (pc' := 25) (st' := [.long (x3 <<< (Int32.toInt64 (nI 7) &&& 63))]) rfl rfl ?_
      refine y_pure (pc' := 26) (st' := [.ref 411, .long (x3 <<< (Int32.toInt64 (nI 7) &&& 63))]) rfl rfl ?_
      refine y_getf (pc' := 29) (v := .ref 412) rfl rfl rfl zc_411 rfl rfl ?_
      refine y_getf (pc' := 32) (v := .ref 413) rfl rfl rfl zc_412 rfl rfl ?_
      refine y_pure (pc' := 34) (st' := [.int x5, .ref 413, .long (x3 <<< (Int32.toInt64 (nI 7) &&& 63))]) rfl rfl ?_
      obtain ⟨hi3, h⟩ := zg_inv h
      refine y_aald (pc' := 35) (q' := 424 + 10 * (Int32.toNatClampNeg x5)) rfl zc_413 hi3 (by show 413 + 11 + 10 * (Int32.toNatClampNeg x5) = _; omega) rfl ?_
      refine y_pure (pc' := 36) (st' := [.ref 411, .ref (424 + 10 * (Int32.toNatClampNeg x5)), .long (x3 <<< (Int32.toInt64 (nI 7) &&& 63))]) rfl rfl ?_
      refine y_getf (pc' := 39) (v := .ref 546) rfl rfl rfl zc_411 rfl rfl ?_
      refine y_pure (pc' := 40) (st' := [.int x2, .ref 546, .ref (424 + 10 * (Int32.toNatClampNeg x5)), .long (x3 <<< (Int32.toInt64 (nI 7) &&& 63))]) rfl rfl ?_
      obtain ⟨hi4, h⟩ := zg_inv h
      refine y_aald (pc' := 41) (q' := 547 + (Int32.toNatClampNeg x2)) rfl zc_546 hi4 (congrArg (HAdd.hAdd (547)) (Nat.one_mul _)) rfl ?_
      refine y_pure (pc' := 42) (st' := [.ref x1, .ref (547 + (Int32.toNatClampNeg x2)), .ref (424 + 10 * (Int32.toNatClampNeg x5)), .long (x3 <<< (Int32.toInt64 (nI 7) &&& 63))]) rfl rfl ?_
      refine y_getf (pc' := 45) (v := .ref (x1 + 6)) rfl rfl rfl hk1 rfl rfl ?_
      refine y_pure (pc' := 47) (st' := [.int x5, .ref (x1 + 6), .ref (547 + (Int32.toNatClampNeg x2)), .ref (424 + 10 * (Int32.toNatClampNeg x5)), .long (x3 <<< (Int32.toInt64 (nI 7) &&& 63))]) rfl rfl ?_
      refine y_aald (pc' := 48) (q' := x1 + 7 + (Int32.toNatClampNeg x5)) rfl (zf_0_13 hk1) hi3 (congrArg (HAdd.hAdd (x1 + 7)) (Nat.one_mul _)) rfl ?_
      obtain ⟨v7, M6, he5, h⟩ := zC1_inv h
      refine y_callV (pc' := 51) (y := zmR_stateBy) (a' := [.ref (547 + (Int32.toNatClampNeg x2)), .ref (x1 + 7 + (Int32.toNatClampNeg x5))]) (st' := [.long (x3 <<< (Int32.toInt64 (nI 7) &&& 63))]) rfl rfl rfl rfl rfl (zrecv_o (o := 3) (zl_3 zc_413 hi3) rfl) rfl he5 rfl rfl ?_
      refine y_pure (pc' := 52) (st' := [.long (Int32.toInt64 v7), .long (x3 <<< (Int32.toInt64 (nI 7) &&& 63))]) rfl rfl ?_
      refine y_pure (pc' := 53) (st' := [.long ((x3 <<< (Int32.toInt64 (nI 7) &&& 63)) ||| (Int32.toInt64 v7))]) rfl rfl ?_
      obtain ⟨y8, e9, h⟩ := zL_inv h
      refine zT_genL e9 ?_
      refine y_pure (pc' := 54) (ls' := [(0, .ref 411), (1, .ref x1), (2, .int x2), (3, .long y8), (5, .int x5)]) (st' := []) rfl rfl ?_
      refine y_pure (pc' := 57) (ls' := [(0, .ref 411), (1, .ref x1), (2, .int x2), (3, .long y8), (5, .int (x5 + (nI 1)))]) (st' := []) rfl rfl ?_
      refine y_pure (pc' := 5) rfl rfl ?_
      refine zEx_sub ?_ h
      exact ⟨rfl, rfl, rfl, rfl, rfl, trivial⟩
    · refine y_cmp (pc' := 60) rfl rfl (zc_geT hc2) rfl ?_
      refine y_pure (pc' := 61) (st' := [.long x3]) rfl rfl ?_
      exact y_ret rfl rfl rfl rfl h
  · refine y_cmp (pc' := 60) rfl rfl (zc_geT hc1) rfl ?_
    refine y_pure (pc' := 61) (st' := [.long x3]) rfl rfl ?_
    exact y_ret rfl rfl rfl rfl h
theorem e_S_lowKey {d : Nat} {x1 : Nat} {x2 : Int32} {M : ZM} {r : ZR} (hk1 : zkd x1 = (10, 0)) (h : h_S_lowKey_5 d x1 x2 (nJ 0) (nI 0) M = some r) : zEv (d + 1) zmS_lowKey [.ref 411, .ref x1, .int x2] M = some r := by
  rw [zEv_succ]
  show zEx0 (zEv d) zmS_lowKey (0, [(0, .ref 411), (1, .ref x1), (2, .int x2)], [], M) = some r
  refine y_pure (pc' := 1) (st' := [.long (nJ 0)]) rfl rfl ?_
  refine y_pure (pc' := 2) (ls' := [(0, .ref 411), (1, .ref x1), (2, .int x2), (3, .long (nJ 0))]) (st' := []) rfl rfl ?_
  refine y_pure (pc' := 3) (st' := [.int (nI 0)]) rfl rfl ?_
  refine y_pure (pc' := 5) (ls' := [(0, .ref 411), (1, .ref x1), (2, .int x2), (3, .long (nJ 0)), (5, .int (nI 0))]) (st' := []) rfl rfl ?_
  refine zEx_sub ?_ h
  exact ⟨rfl, rfl, rfl, rfl, rfl, trivial⟩
noncomputable def h_S_highKey_8 (d : Nat) (x1 : Nat) (x2 : Int32) (x3 : Int64) (x5 : Int32) (M : ZM) : Option ZR := zEx0 (zEv d) zmS_highKey (8, [(0, .ref 411), (1, .ref x1), (2, .int x2), (3, .long x3), (5, .int x5)], [], M)
noncomputable def h_S_highKey_78 (d : Nat) (x1 : Nat) (x2 : Int32) (x3 : Int64) (x5 : Int32) (M : ZM) : Option ZR := zEx0 (zEv d) zmS_highKey (78, [(0, .ref 411), (1, .ref x1), (2, .int x2), (3, .long x3), (5, .int x5)], [], M)
theorem e_S_highKey_8 {d : Nat} {x1 : Nat} {x2 : Int32} {x3 : Int64} {x5 : Int32} {M : ZM} {r : ZR} (hk1 : zkd x1 = (10, 0)) (h : (if x5 < (nI 16) then (if x5 < (M.1 411 1) then (if zin x2 17 = true then (if zin x5 16 = true then (if zin (M.1 544 (Int32.toNatClampNeg x5)) 36 = true then zC1 (zEv d zmJI_bitCount [.int (M.1 (547 + (Int32.toNatClampNeg x2)) (Int32.toNatClampNeg (M.1 544 (Int32.toNatClampNeg x5))))] M) (fun v8 M7 => (if v8 = (nI 1) then zL ((x3 <<< (Int32.toInt64 (nI 1) &&& 63)) ||| (Int32.toInt64 (nI 1))) (fun y11 => h_S_highKey_8 d x1 x2 y11 (x5 + (nI 1)) M7) else zL ((x3 <<< (Int32.toInt64 (nI 1) &&& 63)) ||| (Int32.toInt64 (nI 0))) (fun y14 => h_S_highKey_8 d x1 x2 y14 (x5 + (nI 1)) M7))) else none) else none) else none) else zL ((x3 <<< (Int32.toInt64 (nI 1) &&& 63)) ||| (Int32.toInt64 (nI 0))) (fun y17 => h_S_highKey_8 d x1 x2 y17 (x5 + (nI 1)) M)) else h_S_highKey_78 d x1 x2 x3 (nI 9) M) = some r) : h_S_highKey_8 d x1 x2 x3 x5 M = some r := by
  show zEx0 (zEv d) zmS_highKey (8, [(0, .ref 411), (1, .ref x1), (2, .int x2), (3, .long x3), (5, .int x5)], [], M) = some r
  refine y_pure (pc' := 10) (st' := [.int x5]) rfl rfl ?_
  refine y_pure (pc' := 12) (st' := [.int (nI 16), .int x5]) rfl rfl ?_
  rcases zif_inv h with ⟨hc1, h⟩ | ⟨hc1, h⟩
  · refine y_cmp (pc' := 15) rfl rfl (zc_geF hc1) rfl ?_
    refine y_pure (pc' := 17) (st' := [.int x5]) rfl rfl ?_
    refine y_pure (pc' := 18) (st' := [.ref 411, .int x5]) rfl rfl ?_
    refine y_getf (pc' := 21) (v := .int (M.1 411 1)) rfl rfl rfl zc_411 rfl rfl ?_
    rcases zif_inv h with ⟨hc2, h⟩ | ⟨hc2, h⟩
    · refine y_cmp (pc' := 24) rfl rfl (zc_geF hc2) rfl ?_
      refine y_pure (pc' := 25) (st' := [.ref 411]) rfl rfl ?_
      refine y_getf (pc' := 28) (v := .ref 546) rfl rfl rfl zc_411 rfl rfl ?_
      refine y_pure (pc' := 29) (st' := [.int x2, .ref 546]) rfl rfl ?_
      obtain ⟨hi3, h⟩ := zg_inv h
      refine y_aald (pc' := 30) (q' := 547 + (Int32.toNatClampNeg x2)) rfl zc_546 hi3 (congrArg (HAdd.hAdd (547)) (Nat.one_mul _)) rfl ?_
      refine y_pure (pc' := 31) (st' := [.ref 411, .ref (547 + (Int32.toNatClampNeg x2))]) rfl rfl ?_
      refine y_getf (pc' := 34) (v := .ref 544) rfl rfl rfl zc_411 rfl rfl ?_
      refine y_pure (pc' := 36) (st' := [.int x5, .ref 544, .ref (547 + (Int32.toNatClampNeg x2))]) rfl rfl ?_
      obtain ⟨hi4, h⟩ := zg_inv h
      refine y_iald (pc' := 37) rfl zc_544 hi4 rfl ?_
      obtain ⟨hi5, h⟩ := zg_inv h
      refine y_iald (pc' := 38) rfl (zl_4 zc_546 hi3) hi5 rfl ?_
      obtain ⟨v8, M7, he6, h⟩ := zC1_inv h
      refine y_callS (pc' := 41) (y := zmJI_bitCount) (a := [.int (M.1 (547 + (Int32.toNatClampNeg x2)) (Int32.toNatClampNeg (M.1 544 (Int32.toNatClampNeg x5))))]) (st' := []) rfl rfl rfl rfl rfl rfl he6 rfl rfl ?_
      refine y_pure (pc' := 42) (st' := [.int (nI 1), .int v8]) rfl rfl ?_
      rcases zif_inv h with ⟨hc9, h⟩ | ⟨hc9, h⟩
      · refine y_cmp (pc' := 45) rfl rfl (zc_neF hc9) rfl ?_
        refine y_pure (pc' := 46) (st' := [.int (nI 1)]) rfl rfl ?_
        refine y_pure (pc' := 50) rfl rfl ?_
        refine y_pure (pc' := 52) (ls' := [(0, .ref 411), (1, .ref x1), (2, .int x2), (3, .long x3), (5, .int x5), (6, .int (nI 1))]) (st' := []) rfl rfl ?_
        refine y_pure (pc' := 53) (st' := [.long x3]) rfl rfl ?_
        refine y_pure (pc' := 54) (st' := [.int (nI 1), .long x3]) rfl rfl ?_
        refine y_pure (pc' := 55) (st' := [.long (x3 <<< (Int32.toInt64 (nI 1) &&& 63))]) rfl rfl ?_
        refine y_pure (pc' := 57) (st' := [.int (nI 1), .long (x3 <<< (Int32.toInt64 (nI 1) &&& 63))]) rfl rfl ?_
        refine y_cnd (pc' := 60) rfl rfl (zc_eqF (by decide)) rfl ?_
        refine y_pure (pc' := 61) (st' := [.int (nI 1), .long (x3 <<< (Int32.toInt64 (nI 1) &&& 63))]) rfl rfl ?_
        refine y_pure (pc' := 65) rfl rfl ?_
        refine y_pure (pc' := 66) (st' := [.long (Int32.toInt64 (nI 1)), .long (x3 <<< (Int32.toInt64 (nI 1) &&& 63))]) rfl rfl ?_
        refine y_pure (pc' := 67) (st' := [.long ((x3 <<< (Int32.toInt64 (nI 1) &&& 63)) ||| (Int32.toInt64 (nI 1)))]) rfl rfl ?_
        obtain ⟨y11, e12, h⟩ := zL_inv h
        refine zT_genL e12 ?_
        refine y_pure (pc' := 68) (ls' := [(0, .ref 411), (1, .ref x1), (2, .int x2), (3, .long y11), (5, .int x5), (6, .int (nI 1))]) (st' := []) rfl rfl ?_
        refine y_pure (pc' := 71) (ls' := [(0, .ref 411), (1, .ref x1), (2, .int x2), (3, .long y11), (5, .int (x5 + (nI 1))), (6, .int (nI 1))]) (st' := []) rfl rfl ?_
        refine y_pure (pc' := 8) rfl rfl ?_
        refine zEx_sub ?_ h
        exact ⟨rfl, rfl, rfl, rfl, rfl, trivial⟩
      · refine y_cmp (pc' := 49) rfl rfl (zc_neT hc9) rfl ?_
        refine y_pure (pc' := 50) (st' := [.int (nI 0)]) rfl rfl ?_
        refine y_pure (pc' := 52) (ls' := [(0, .ref 411), (1, .ref x1), (2, .int x2), (3, .long x3), (5, .int x5), (6, .int (nI 0))]) (st' := []) rfl rfl ?_
        refine y_pure (pc' := 53) (st' := [.long x3]) rfl rfl ?_
        refine y_pure (pc' := 54) (st' := [.int (nI 1), .long x3]) rfl rfl ?_
        refine y_pure (pc' := 55) (st' := [.long (x3 <<< (Int32.toInt64 (nI 1) &&& 63))]) rfl rfl ?_
        refine y_pure (pc' := 57) (st' := [.int (nI 0), .long (x3 <<< (Int32.toInt64 (nI 1) &&& 63))]) rfl rfl ?_
        refine y_cnd (pc' := 64) rfl rfl (zc_eqT (by decide)) rfl ?_
        refine y_pure (pc' := 65) (st' := [.int (nI 0), .long (x3 <<< (Int32.toInt64 (nI 1) &&& 63))]) rfl rfl ?_
        refine y_pure (pc' := 66) (st' := [.long (Int32.toInt64 (nI 0)), .long (x3 <<< (Int32.toInt64 (nI 1) &&& 63))]) rfl rfl ?_
        refine y_pure (pc' := 67) (st' := [.long ((x3 <<< (Int32.toInt64 (nI 1) &&& 63)) ||| (Int32.toInt64 (nI 0)))]) rfl rfl ?_
        obtain ⟨y14, e15, h⟩ := zL_inv h
        refine zT_genL e15 ?_
        refine y_pure (pc' := 68) (ls' := [(0, .ref 411), (1, .ref x1), (2, .int x2), (3, .long y14), (5, .int x5), (6, .int (nI 0))]) (st' := []) rfl rfl ?_
        refine y_pure (pc' := 71) (ls' := [(0, .ref 411), (1, .ref x1), (2, .int x2), (3, .long y14), (5, .int (x5 + (nI 1))), (6, .int (nI 0))]) (st' := []) rfl rfl ?_
        refine y_pure (pc' := 8) rfl rfl ?_
        refine zEx_sub ?_ h
        exact ⟨rfl, rfl, rfl, rfl, rfl, trivial⟩
    · refine y_cmp (pc' := 49) rfl rfl (zc_geT hc2) rfl ?_
      refine y_pure (pc' := 50) (st' := [.int (nI 0)]) rfl rfl ?_
      refine y_pure (pc' := 52) (ls' := [(0, .ref 411), (1, .ref x1), (2, .int x2), (3, .long x3), (5, .int x5), (6, .int (nI 0))]) (st' := []) rfl rfl ?_
      refine y_pure (pc' := 53) (st' := [.long x3]) rfl rfl ?_
      refine y_pure (pc' := 54) (st' := [.int (nI 1), .long x3]) rfl rfl ?_
      refine y_pure (pc' := 55) (st' := [.long (x3 <<< (Int32.toInt64 (nI 1) &&& 63))]) rfl rfl ?_
      refine y_pure (pc' := 57) (st' := [.int (nI 0), .long (x3 <<< (Int32.toInt64 (nI 1) &&& 63))]) rfl rfl ?_
      refine y_cnd (pc' := 64) rfl rfl (zc_eqT (by decide)) rfl ?_
      refine y_pure (pc' := 65) (st' := [.int (nI 0), .long (x3 <<< (Int32.toInt64 (nI 1) &&& 63))]) rfl rfl ?_
      refine y_pure (pc' := 66) (st' := [.long (Int32.toInt64 (nI 0)), .long (x3 <<< (Int32.toInt64 (nI 1) &&& 63))]) rfl rfl ?_
      refine y_pure (pc' := 67) (st' := [.long ((x3 <<< (Int32.toInt64 (nI 1) &&& 63)) ||| (Int32.toInt64 (nI 0)))]) rfl rfl ?_
      obtain ⟨y17, e18, h⟩ := zL_inv h
      refine zT_genL e18 ?_
      refine y_pure (pc' := 68) (ls' := [(0, .ref 411), (1, .ref x1), (2, .int x2), (3, .long y17), (5, .int x5), (6, .int (nI 0))]) (st' := []) rfl rfl ?_
      refine y_pure (pc' := 71) (ls' := [(0, .ref 411), (1, .ref x1), (2, .int x2), (3, .long y17), (5, .int (x5 + (nI 1))), (6, .int (nI 0))]) (st' := []) rfl rfl ?_
      refine y_pure (pc' := 8) rfl rfl ?_
      refine zEx_sub ?_ h
      exact ⟨rfl, rfl, rfl, rfl, rfl, trivial⟩
  · refine y_cmp (pc' := 74) rfl rfl (zc_geT hc1) rfl ?_
    refine y_pure (pc' := 76) (st' := [.int (nI 9)]) rfl rfl ?_
    refine y_pure (pc' := 78) (ls' := [(0, .ref 411), (1, .ref x1), (2, .int x2), (3, .long x3), (5, .int (nI 9))]) (st' := []) rfl rfl ?_
    refine zEx_sub ?_ h
    exact ⟨rfl, rfl, rfl, rfl, rfl, trivial⟩
theorem e_S_highKey_78 {d : Nat} {x1 : Nat} {x2 : Int32} {x3 : Int64} {x5 : Int32} {M : ZM} {r : ZR} (hk1 : zkd x1 = (10, 0)) (h : (if x5 < (nI 12) then (if x5 < (M.1 x1 3) then (if zin x5 12 = true then (if zin x2 17 = true then zC1 (zEv d zmR_stateBy [.ref (424 + 10 * (Int32.toNatClampNeg x5)), .ref (547 + (Int32.toNatClampNeg x2)), .ref (x1 + 7 + (Int32.toNatClampNeg x5))] M) (fun v7 M6 => zL ((x3 <<< (Int32.toInt64 (nI 7) &&& 63)) ||| (Int32.toInt64 v7)) (fun y8 => h_S_highKey_78 d x1 x2 y8 (x5 + (nI 1)) M6)) else none) else none) else zL ((x3 <<< (Int32.toInt64 (nI 7) &&& 63)) ||| (Int32.toInt64 (nI 0))) (fun y10 => h_S_highKey_78 d x1 x2 y10 (x5 + (nI 1)) M)) else some (some (.long x3), M)) = some r) : h_S_highKey_78 d x1 x2 x3 x5 M = some r := by
  show zEx0 (zEv d) zmS_highKey (78, [(0, .ref 411), (1, .ref x1), (2, .int x2), (3, .long x3), (5, .int x5)], [], M) = some r
  refine y_pure (pc' := 80) (st' := [.int x5]) rfl rfl ?_
  refine y_pure (pc' := 82) (st' := [.int (nI 12), .int x5]) rfl rfl ?_
  rcases zif_inv h with ⟨hc1, h⟩ | ⟨hc1, h⟩
  · refine y_cmp (pc' := 85) rfl rfl (zc_geF hc1) rfl ?_
    refine y_pure (pc' := 86) (st' := [.long x3]) rfl rfl ?_
    refine y_pure (pc' := 88) (st' := [.int (nI 7), .long x3]) rfl rfl ?_
    refine y_pure (pc' := 89) (st' := [.long (x3 <<< (Int32.toInt64 (nI 7) &&& 63))]) rfl rfl ?_
    refine y_pure (pc' := 91) (st' := [.int x5, .long (x3 <<< (Int32.toInt64 (nI 7) &&& 63))]) rfl rfl ?_
    refine y_pure (pc' := 92) (st' := [.ref x1, .int x5, .long (x3 <<< (Int32.toInt64 (nI 7) &&& 63))]) rfl rfl ?_
    refine y_getf (pc' := 95) (v := .int (M.1 x1 3)) rfl rfl rfl hk1 rfl rfl ?_
    rcases zif_inv h with ⟨hc2, h⟩ | ⟨hc2, h⟩
    · refine y_cmp (pc' := 98) rfl rfl (zc_geF hc2) rfl ?_
      refine y_pure (pc' := 99) (st' := [.ref 411, .long (x3 <<< (Int32.toInt64 (nI 7) &&& 63))]) rfl rfl ?_
      refine y_getf (pc' := 102) (v := .ref 412) rfl rfl rfl zc_411 rfl rfl ?_
      refine y_getf (pc' := 105) (v := .ref 413) rfl rfl rfl zc_412 rfl rfl ?_
      refine y_pure (pc' := 107) (st' := [.int x5, .ref 413, .long (x3 <<< (Int32.toInt64 (nI 7) &&& 63))]) rfl rfl ?_
      obtain ⟨hi3, h⟩ := zg_inv h
      refine y_aald (pc' := 108) (q' := 424 + 10 * (Int32.toNatClampNeg x5)) rfl zc_413 hi3 (by show 413 + 11 + 10 * (Int32.toNatClampNeg x5) = _; omega) rfl ?_
      refine y_pure (pc' := 109) (st' := [.ref 411, .ref (424 + 10 * (Int32.toNatClampNeg x5)), .long (x3 <<< (Int32.toInt64 (nI 7) &&& 63))]) rfl rfl ?_
      refine y_getf (pc' := 112) (v := .ref 546) rfl rfl rfl zc_411 rfl rfl ?_
      refine y_pure (pc' := 113) (st' := [.int x2, .ref 546, .ref (424 + 10 * (Int32.toNatClampNeg x5)), .long (x3 <<< (Int32.toInt64 (nI 7) &&& 63))]) rfl rfl ?_
      obtain ⟨hi4, h⟩ := zg_inv h
      refine y_aald (pc' := 114) (q' := 547 + (Int32.toNatClampNeg x2)) rfl zc_546 hi4 (congrArg (HAdd.hAdd (547)) (Nat.one_mul _)) rfl ?_
      refine y_pure (pc' := 115) (st' := [.ref x1, .ref (547 + (Int32.toNatClampNeg x2)), .ref (424 + 10 * (Int32.toNatClampNeg x5)), .long (x3 <<< (Int32.toInt64 (nI 7) &&& 63))]) rfl rfl ?_
      refine y_getf (pc' := 118) (v := .ref (x1 + 6)) rfl rfl rfl hk1 rfl rfl ?_
      refine y_pure (pc' := 120) (st' := [.int x5, .ref (x1 + 6), .ref (547 + (Int32.toNatClampNeg x2)), .ref (424 + 10 * (Int32.toNatClampNeg x5)), .long (x3 <<< (Int32.toInt64 (nI 7) &&& 63))]) rfl rfl ?_
      refine y_aald (pc' := 121) (q' := x1 + 7 + (Int32.toNatClampNeg x5)) rfl (zf_0_13 hk1) hi3 (congrArg (HAdd.hAdd (x1 + 7)) (Nat.one_mul _)) rfl ?_
      obtain ⟨v7, M6, he5, h⟩ := zC1_inv h
      refine y_callV (pc' := 124) (y := zmR_stateBy) (a' := [.ref (547 + (Int32.toNatClampNeg x2)), .ref (x1 + 7 + (Int32.toNatClampNeg x5))]) (st' := [.long (x3 <<< (Int32.toInt64 (nI 7) &&& 63))]) rfl rfl rfl rfl rfl (zrecv_o (o := 3) (zl_3 zc_413 hi3) rfl) rfl he5 rfl rfl ?_
      refine y_pure (pc' := 128) rfl rfl ?_
      refine y_pure (pc' := 129) (st' := [.long (Int32.toInt64 v7), .long (x3 <<< (Int32.toInt64 (nI 7) &&& 63))]) rfl rfl ?_
      refine y_pure (pc' := 130) (st' := [.long ((x3 <<< (Int32.toInt64 (nI 7) &&& 63)) ||| (Int32.toInt64 v7))]) rfl rfl ?_
      obtain ⟨y8, e9, h⟩ := zL_inv h
      refine zT_genL e9 ?_
      refine y_pure (pc' := 131) (ls' := [(0, .ref 411), (1, .ref x1), (2, .int x2), (3, .long y8), (5, .int x5)]) (st' := []) rfl rfl ?_
      refine y_pure (pc' := 134) (ls' := [(0, .ref 411), (1, .ref x1), (2, .int x2), (3, .long y8), (5, .int (x5 + (nI 1)))]) (st' := []) rfl rfl ?_
      refine y_pure (pc' := 78) rfl rfl ?_
      refine zEx_sub ?_ h
      exact ⟨rfl, rfl, rfl, rfl, rfl, trivial⟩
    · refine y_cmp (pc' := 127) rfl rfl (zc_geT hc2) rfl ?_
      refine y_pure (pc' := 128) (st' := [.int (nI 0), .long (x3 <<< (Int32.toInt64 (nI 7) &&& 63))]) rfl rfl ?_
      refine y_pure (pc' := 129) (st' := [.long (Int32.toInt64 (nI 0)), .long (x3 <<< (Int32.toInt64 (nI 7) &&& 63))]) rfl rfl ?_
      refine y_pure (pc' := 130) (st' := [.long ((x3 <<< (Int32.toInt64 (nI 7) &&& 63)) ||| (Int32.toInt64 (nI 0)))]) rfl rfl ?_
      obtain ⟨y10, e11, h⟩ := zL_inv h
      refine zT_genL e11 ?_
      refine y_pure (pc' := 131) (ls' := [(0, .ref 411), (1, .ref x1), (2, .int x2), (3, .long y10), (5, .int x5)]) (st' := []) rfl rfl ?_
      refine y_pure (pc' := 134) (ls' := [(0, .ref 411), (1, .ref x1), (2, .int x2), (3, .long y10), (5, .int (x5 + (nI 1)))]) (st' := []) rfl rfl ?_
      refine y_pure (pc' := 78) rfl rfl ?_
      refine zEx_sub ?_ h
      exact ⟨rfl, rfl, rfl, rfl, rfl, trivial⟩
  · refine y_cmp (pc' := 137) rfl rfl (zc_geT hc1) rfl ?_
    refine y_pure (pc' := 138) (st' := [.long x3]) rfl rfl ?_
    exact y_ret rfl rfl rfl rfl h
theorem e_S_highKey {d : Nat} {x1 : Nat} {x2 : Int32} {M : ZM} {r : ZR} (hk1 : zkd x1 = (10, 0)) (h : h_S_highKey_8 d x1 x2 (M.2 411 11) (nI 0) M = some r) : zEv (d + 1) zmS_highKey [.ref 411, .ref x1, .int x2] M = some r := by
  rw [zEv_succ]
  show zEx0 (zEv d) zmS_highKey (0, [(0, .ref 411), (1, .ref x1), (2, .int x2)], [], M) = some r
  refine y_pure (pc' := 1) (st' := [.ref 411]) rfl rfl ?_
  refine y_getf (pc' := 4) (v := .long (M.2 411 11)) rfl rfl rfl zc_411 rfl rfl ?_
  refine y_pure (pc' := 5) (ls' := [(0, .ref 411), (1, .ref x1), (2, .int x2), (3, .long (M.2 411 11))]) (st' := []) rfl rfl ?_
  refine y_pure (pc' := 6) (st' := [.int (nI 0)]) rfl rfl ?_
  refine y_pure (pc' := 8) (ls' := [(0, .ref 411), (1, .ref x1), (2, .int x2), (3, .long (M.2 411 11)), (5, .int (nI 0))]) (st' := []) rfl rfl ?_
  refine zEx_sub ?_ h
  exact ⟨rfl, rfl, rfl, rfl, rfl, trivial⟩
theorem e_S_slotOf {d : Nat} {x0 : Int64} {x2 : Int64} {M : ZM} {r : ZR}  (h : zL ((x0 ^^^ (x2 * (-7046029254386353131 : Int64))) * (-4658895280553007687 : Int64)) (fun y1 => zL (y1 ^^^ ((Int64.toUInt64 y1 >>> ((Int32.toInt64 (nI 32)).toUInt64 &&& Int64.toUInt64 63)).toInt64)) (fun y3 => some (some (.int ((Int64.toInt32 ((Int64.toUInt64 (y3 * (-7723592293110705685 : Int64)) >>> ((Int32.toInt64 (nI 40)).toUInt64 &&& Int64.toUInt64 63)).toInt64)) &&& (nI 4095))), M))) = some r) : zEv (d + 1) zmS_slotOf [.long x0, .long x2] M = some r := by
  rw [zEv_succ]
  show zEx0 (zEv d) zmS_slotOf (0, [(0, .long x0), (2, .long x2)], [], M) = some r
  refine y_pure (pc' := 1) (st' := [.long x0]) rfl rfl ?_
  refine y_pure (pc' := 2) (st' := [.long x2, .long x0]) rfl rfl ?_
  refine y_pure (pc' := 5) (st' := [.long (-7046029254386353131 : Int64), .long x2, .long x0]) rfl rfl ?_
  refine y_pure (pc' := 6) (st' := [.long (x2 * (-7046029254386353131 : Int64)), .long x0]) rfl rfl ?_
  refine y_pure (pc' := 7) (st' := [.long (x0 ^^^ (x2 * (-7046029254386353131 : Int64)))]) rfl rfl ?_
  refine y_pure (pc' := 10) (st' := [.long (-4658895280553007687 : Int64), .long (x0 ^^^ (x2 * (-7046029254386353131 : Int64)))]) rfl rfl ?_
  refine y_pure (pc' := 11) (st' := [.long ((x0 ^^^ (x2 * (-7046029254386353131 : Int64))) * (-4658895280553007687 : Int64))]) rfl rfl ?_
  obtain ⟨y1, e2, h⟩ := zL_inv h
  refine zT_genL e2 ?_
  refine y_pure (pc' := 13) (ls' := [(0, .long x0), (2, .long x2), (4, .long y1)]) (st' := []) rfl rfl ?_
  refine y_pure (pc' := 15) (st' := [.long y1]) rfl rfl ?_
  refine y_pure (pc' := 17) (st' := [.long y1, .long y1]) rfl rfl ?_
  refine y_pure (pc' := 19) (st' := [.int (nI 32), .long y1, .long y1]) rfl rfl ?_
  refine y_pure (pc' := 20) (st' := [.long ((Int64.toUInt64 y1 >>> ((Int32.toInt64 (nI 32)).toUInt64 &&& Int64.toUInt64 63)).toInt64), .long y1]) rfl rfl ?_
  refine y_pure (pc' := 21) (st' := [.long (y1 ^^^ ((Int64.toUInt64 y1 >>> ((Int32.toInt64 (nI 32)).toUInt64 &&& Int64.toUInt64 63)).toInt64))]) rfl rfl ?_
  obtain ⟨y3, e4, h⟩ := zL_inv h
  refine zT_genL e4 ?_
  refine y_pure (pc' := 23) (ls' := [(0, .long x0), (2, .long x2), (4, .long y3)]) (st' := []) rfl rfl ?_
  refine y_pure (pc' := 25) (st' := [.long y3]) rfl rfl ?_
  refine y_pure (pc' := 28) (st' := [.long (-7723592293110705685 : Int64), .long y3]) rfl rfl ?_
  refine y_pure (pc' := 29) (st' := [.long (y3 * (-7723592293110705685 : Int64))]) rfl rfl ?_
  refine y_pure (pc' := 31) (st' := [.int (nI 40), .long (y3 * (-7723592293110705685 : Int64))]) rfl rfl ?_
  refine y_pure (pc' := 32) (st' := [.long ((Int64.toUInt64 (y3 * (-7723592293110705685 : Int64)) >>> ((Int32.toInt64 (nI 40)).toUInt64 &&& Int64.toUInt64 63)).toInt64)]) rfl rfl ?_
  refine y_pure (pc' := 33) (st' := [.int (Int64.toInt32 ((Int64.toUInt64 (y3 * (-7723592293110705685 : Int64)) >>> ((Int32.toInt64 (nI 40)).toUInt64 &&& Int64.toUInt64 63)).toInt64))]) rfl rfl ?_
  refine y_pure (pc' := 36) (st' := [.int (nI 4095), .int (Int64.toInt32 ((Int64.toUInt64 (y3 * (-7723592293110705685 : Int64)) >>> ((Int32.toInt64 (nI 40)).toUInt64 &&& Int64.toUInt64 63)).toInt64))]) rfl rfl ?_
  refine y_pure (pc' := 37) (st' := [.int ((Int64.toInt32 ((Int64.toUInt64 (y3 * (-7723592293110705685 : Int64)) >>> ((Int32.toInt64 (nI 40)).toUInt64 &&& Int64.toUInt64 63)).toInt64)) &&& (nI 4095))]) rfl rfl ?_
  exact y_ret rfl rfl rfl rfl h
theorem e_S_places {d : Nat}  {M : ZM} {r : ZR}  (h : some (some (.int (M.1 411 1)), M) = some r) : zEv (d + 1) zmS_places [.ref 411] M = some r := by
  rw [zEv_succ]
  show zEx0 (zEv d) zmS_places (0, [(0, .ref 411)], [], M) = some r
  refine y_pure (pc' := 1) (st' := [.ref 411]) rfl rfl ?_
  refine y_getf (pc' := 4) (v := .int (M.1 411 1)) rfl rfl rfl zc_411 rfl rfl ?_
  exact y_ret rfl rfl rfl rfl h
theorem e_S_cellAt {d : Nat} {x1 : Int32} {M : ZM} {r : ZR}  (h : (if x1 < (nI 0) then some (some (.int (-1 : Int32)), M) else (if x1 < (M.1 411 1) then (if x1 < (nI 16) then (if zin x1 16 = true then some (some (.int (M.1 544 (Int32.toNatClampNeg x1))), M) else none) else some (some (.int (-1 : Int32)), M)) else some (some (.int (-1 : Int32)), M))) = some r) : zEv (d + 1) zmS_cellAt [.ref 411, .int x1] M = some r := by
  rw [zEv_succ]
  show zEx0 (zEv d) zmS_cellAt (0, [(0, .ref 411), (1, .int x1)], [], M) = some r
  refine y_pure (pc' := 1) (st' := [.int x1]) rfl rfl ?_
  rcases zif_inv h with ⟨hc1, h⟩ | ⟨hc1, h⟩
  · refine y_cnd (pc' := 27) rfl rfl (zc_ltT hc1) rfl ?_
    refine y_pure (pc' := 28) (st' := [.int (-1 : Int32)]) rfl rfl ?_
    exact y_ret rfl rfl rfl rfl h
  · refine y_cnd (pc' := 4) rfl rfl (zc_ltF hc1) rfl ?_
    refine y_pure (pc' := 5) (st' := [.int x1]) rfl rfl ?_
    refine y_pure (pc' := 6) (st' := [.ref 411, .int x1]) rfl rfl ?_
    refine y_getf (pc' := 9) (v := .int (M.1 411 1)) rfl rfl rfl zc_411 rfl rfl ?_
    rcases zif_inv h with ⟨hc2, h⟩ | ⟨hc2, h⟩
    · refine y_cmp (pc' := 12) rfl rfl (zc_geF hc2) rfl ?_
      refine y_pure (pc' := 13) (st' := [.int x1]) rfl rfl ?_
      refine y_pure (pc' := 15) (st' := [.int (nI 16), .int x1]) rfl rfl ?_
      rcases zif_inv h with ⟨hc3, h⟩ | ⟨hc3, h⟩
      · refine y_cmp (pc' := 18) rfl rfl (zc_geF hc3) rfl ?_
        refine y_pure (pc' := 19) (st' := [.ref 411]) rfl rfl ?_
        refine y_getf (pc' := 22) (v := .ref 544) rfl rfl rfl zc_411 rfl rfl ?_
        refine y_pure (pc' := 23) (st' := [.int x1, .ref 544]) rfl rfl ?_
        obtain ⟨hi4, h⟩ := zg_inv h
        refine y_iald (pc' := 24) rfl zc_544 hi4 rfl ?_
        refine y_pure (pc' := 28) rfl rfl ?_
        exact y_ret rfl rfl rfl rfl h
      · refine y_cmp (pc' := 27) rfl rfl (zc_geT hc3) rfl ?_
        refine y_pure (pc' := 28) (st' := [.int (-1 : Int32)]) rfl rfl ?_
        exact y_ret rfl rfl rfl rfl h
    · refine y_cmp (pc' := 27) rfl rfl (zc_geT hc2) rfl ?_
      refine y_pure (pc' := 28) (st' := [.int (-1 : Int32)]) rfl rfl ?_
      exact y_ret rfl rfl rfl rfl h
theorem e_S_digitAt {d : Nat} {x1 : Int32} {x2 : Int32} {M : ZM} {r : ZR}  (h : (if x1 < (nI 0) then some (some (.int (nI 0)), M) else (if x1 < (M.1 411 10) then (if x1 < (nI 50) then (if x2 < (nI 0) then some (some (.int (nI 0)), M) else (if x2 < (nI 16) then (if zin x1 50 = true then (if zin x2 16 = true then some (some (.int (M.1 (578 + (Int32.toNatClampNeg x1)) (Int32.toNatClampNeg x2))), M) else none) else none) else some (some (.int (nI 0)), M))) else some (some (.int (nI 0)), M)) else some (some (.int (nI 0)), M))) = some r) : zEv (d + 1) zmS_digitAt [.ref 411, .int x1, .int x2] M = some r := by
  rw [zEv_succ]
  show zEx0 (zEv d) zmS_digitAt (0, [(0, .ref 411), (1, .int x1), (2, .int x2)], [], M) = some r
  refine y_pure (pc' := 1) (st' := [.int x1]) rfl rfl ?_
  rcases zif_inv h with ⟨hc1, h⟩ | ⟨hc1, h⟩
  · refine y_cnd (pc' := 39) rfl rfl (zc_ltT hc1) rfl ?_
    refine y_pure (pc' := 40) (st' := [.int (nI 0)]) rfl rfl ?_
    exact y_ret rfl rfl rfl rfl h
  · refine y_cnd (pc' := 4) rfl rfl (zc_ltF hc1) rfl ?_
    refine y_pure (pc' := 5) (st' := [.int x1]) rfl rfl ?_
    refine y_pure (pc' := 6) (st' := [.ref 411, .int x1]) rfl rfl ?_
    refine y_getf (pc' := 9) (v := .int (M.1 411 10)) rfl rfl rfl zc_411 rfl rfl ?_
    rcases zif_inv h with ⟨hc2, h⟩ | ⟨hc2, h⟩
    · refine y_cmp (pc' := 12) rfl rfl (zc_geF hc2) rfl ?_
      refine y_pure (pc' := 13) (st' := [.int x1]) rfl rfl ?_
      refine y_pure (pc' := 15) (st' := [.int (nI 50), .int x1]) rfl rfl ?_
      rcases zif_inv h with ⟨hc3, h⟩ | ⟨hc3, h⟩
      · refine y_cmp (pc' := 18) rfl rfl (zc_geF hc3) rfl ?_
        refine y_pure (pc' := 19) (st' := [.int x2]) rfl rfl ?_
        rcases zif_inv h with ⟨hc4, h⟩ | ⟨hc4, h⟩
        · refine y_cnd (pc' := 39) rfl rfl (zc_ltT hc4) rfl ?_
          refine y_pure (pc' := 40) (st' := [.int (nI 0)]) rfl rfl ?_
          exact y_ret rfl rfl rfl rfl h
        · refine y_cnd (pc' := 22) rfl rfl (zc_ltF hc4) rfl ?_
          refine y_pure (pc' := 23) (st' := [.int x2]) rfl rfl ?_
          refine y_pure (pc' := 25) (st' := [.int (nI 16), .int x2]) rfl rfl ?_
          rcases zif_inv h with ⟨hc5, h⟩ | ⟨hc5, h⟩
          · refine y_cmp (pc' := 28) rfl rfl (zc_geF hc5) rfl ?_
            refine y_pure (pc' := 29) (st' := [.ref 411]) rfl rfl ?_
            refine y_getf (pc' := 32) (v := .ref 577) rfl rfl rfl zc_411 rfl rfl ?_
            refine y_pure (pc' := 33) (st' := [.int x1, .ref 577]) rfl rfl ?_
            obtain ⟨hi6, h⟩ := zg_inv h
            refine y_aald (pc' := 34) (q' := 578 + (Int32.toNatClampNeg x1)) rfl zc_577 hi6 (congrArg (HAdd.hAdd (578)) (Nat.one_mul _)) rfl ?_
            refine y_pure (pc' := 35) (st' := [.int x2, .ref (578 + (Int32.toNatClampNeg x1))]) rfl rfl ?_
            obtain ⟨hi7, h⟩ := zg_inv h
            refine y_iald (pc' := 36) rfl (zl_6 zc_577 hi6) hi7 rfl ?_
            refine y_pure (pc' := 40) rfl rfl ?_
            exact y_ret rfl rfl rfl rfl h
          · refine y_cmp (pc' := 39) rfl rfl (zc_geT hc5) rfl ?_
            refine y_pure (pc' := 40) (st' := [.int (nI 0)]) rfl rfl ?_
            exact y_ret rfl rfl rfl rfl h
      · refine y_cmp (pc' := 39) rfl rfl (zc_geT hc3) rfl ?_
        refine y_pure (pc' := 40) (st' := [.int (nI 0)]) rfl rfl ?_
        exact y_ret rfl rfl rfl rfl h
    · refine y_cmp (pc' := 39) rfl rfl (zc_geT hc2) rfl ?_
      refine y_pure (pc' := 40) (st' := [.int (nI 0)]) rfl rfl ?_
      exact y_ret rfl rfl rfl rfl h
noncomputable def h_S_firstUnlike_2 (d : Nat) (x1 : Int32) (M : ZM) : Option ZR := zEx0 (zEv d) zmS_firstUnlike (2, [(0, .ref 411), (1, .int x1)], [], M)
theorem e_S_firstUnlike_2 {d : Nat} {x1 : Int32} {M : ZM} {r : ZR}  (h : (if x1 < (M.1 411 1) then zC1 (zEv d zmS_digitAt [.ref 411, .int (nI 0), .int x1] M) (fun v4 M3 => zC1 (zEv d zmS_digitAt [.ref 411, .int (nI 1), .int x1] M3) (fun v7 M6 => (if v4 = v7 then h_S_firstUnlike_2 d (x1 + (nI 1)) M6 else some (some (.int x1), M6)))) else some (some (.int (-1 : Int32)), M)) = some r) : h_S_firstUnlike_2 d x1 M = some r := by
  show zEx0 (zEv d) zmS_firstUnlike (2, [(0, .ref 411), (1, .int x1)], [], M) = some r
  refine y_pure (pc' := 3) (st' := [.int x1]) rfl rfl ?_
  refine y_pure (pc' := 4) (st' := [.ref 411, .int x1]) rfl rfl ?_
  refine y_getf (pc' := 7) (v := .int (M.1 411 1)) rfl rfl rfl zc_411 rfl rfl ?_
  rcases zif_inv h with ⟨hc1, h⟩ | ⟨hc1, h⟩
  · refine y_cmp (pc' := 10) rfl rfl (zc_geF hc1) rfl ?_
    refine y_pure (pc' := 11) (st' := [.ref 411]) rfl rfl ?_
    refine y_pure (pc' := 12) (st' := [.int (nI 0), .ref 411]) rfl rfl ?_
    refine y_pure (pc' := 13) (st' := [.int x1, .int (nI 0), .ref 411]) rfl rfl ?_
    obtain ⟨v4, M3, he2, h⟩ := zC1_inv h
    refine y_callV (pc' := 16) (y := zmS_digitAt) (a' := [.int (nI 0), .int x1]) (st' := []) rfl rfl rfl rfl rfl (zrecv_o (o := 5) zc_411 rfl) rfl he2 rfl rfl ?_
    refine y_pure (pc' := 17) (st' := [.ref 411, .int v4]) rfl rfl ?_
    refine y_pure (pc' := 18) (st' := [.int (nI 1), .ref 411, .int v4]) rfl rfl ?_
    refine y_pure (pc' := 19) (st' := [.int x1, .int (nI 1), .ref 411, .int v4]) rfl rfl ?_
    obtain ⟨v7, M6, he5, h⟩ := zC1_inv h
    refine y_callV (pc' := 22) (y := zmS_digitAt) (a' := [.int (nI 1), .int x1]) (st' := [.int v4]) rfl rfl rfl rfl rfl (zrecv_o (o := 5) zc_411 rfl) rfl he5 rfl rfl ?_
    rcases zif_inv h with ⟨hc8, h⟩ | ⟨hc8, h⟩
    · refine y_cmp (pc' := 27) rfl rfl (zc_eqT hc8) rfl ?_
      refine y_pure (pc' := 30) (ls' := [(0, .ref 411), (1, .int (x1 + (nI 1)))]) (st' := []) rfl rfl ?_
      refine y_pure (pc' := 2) rfl rfl ?_
      refine zEx_sub ?_ h
      exact ⟨rfl, rfl, trivial⟩
    · refine y_cmp (pc' := 25) rfl rfl (zc_eqF hc8) rfl ?_
      refine y_pure (pc' := 26) (st' := [.int x1]) rfl rfl ?_
      exact y_ret rfl rfl rfl rfl h
  · refine y_cmp (pc' := 33) rfl rfl (zc_geT hc1) rfl ?_
    refine y_pure (pc' := 34) (st' := [.int (-1 : Int32)]) rfl rfl ?_
    exact y_ret rfl rfl rfl rfl h
theorem e_S_firstUnlike {d : Nat}  {M : ZM} {r : ZR}  (h : h_S_firstUnlike_2 d (nI 0) M = some r) : zEv (d + 1) zmS_firstUnlike [.ref 411] M = some r := by
  rw [zEv_succ]
  show zEx0 (zEv d) zmS_firstUnlike (0, [(0, .ref 411)], [], M) = some r
  refine y_pure (pc' := 1) (st' := [.int (nI 0)]) rfl rfl ?_
  refine y_pure (pc' := 2) (ls' := [(0, .ref 411), (1, .int (nI 0))]) (st' := []) rfl rfl ?_
  refine zEx_sub ?_ h
  exact ⟨rfl, rfl, trivial⟩
theorem e_T_length {d : Nat}  {M : ZM} {r : ZR}  (h : some (some (.int (M.1 65 1)), M) = some r) : zEv (d + 1) zmT_length [.ref 65] M = some r := by
  rw [zEv_succ]
  show zEx0 (zEv d) zmT_length (0, [(0, .ref 65)], [], M) = some r
  refine y_pure (pc' := 1) (st' := [.ref 65]) rfl rfl ?_
  refine y_getf (pc' := 4) (v := .int (M.1 65 1)) rfl rfl rfl zc_65 rfl rfl ?_
  exact y_ret rfl rfl rfl rfl h
theorem e_T_hasRoom {d : Nat} {x1 : Int32} {M : ZM} {r : ZR}  (h : (if (nI 400) < ((M.1 65 1) + x1) then some (some (.int (nI 0)), M) else some (some (.int (nI 1)), M)) = some r) : zEv (d + 1) zmT_hasRoom [.ref 65, .int x1] M = some r := by
  rw [zEv_succ]
  show zEx0 (zEv d) zmT_hasRoom (0, [(0, .ref 65), (1, .int x1)], [], M) = some r
  refine y_pure (pc' := 1) (st' := [.ref 65]) rfl rfl ?_
  refine y_getf (pc' := 4) (v := .int (M.1 65 1)) rfl rfl rfl zc_65 rfl rfl ?_
  refine y_pure (pc' := 5) (st' := [.int x1, .int (M.1 65 1)]) rfl rfl ?_
  refine y_pure (pc' := 6) (st' := [.int ((M.1 65 1) + x1)]) rfl rfl ?_
  refine y_pure (pc' := 9) (st' := [.int (nI 400), .int ((M.1 65 1) + x1)]) rfl rfl ?_
  rcases zif_inv h with ⟨hc1, h⟩ | ⟨hc1, h⟩
  · refine y_cmp (pc' := 16) rfl rfl (zc_gtT hc1) rfl ?_
    refine y_pure (pc' := 17) (st' := [.int (nI 0)]) rfl rfl ?_
    exact y_retZ rfl rfl (by decide) h
  · refine y_cmp (pc' := 12) rfl rfl (zc_gtF hc1) rfl ?_
    refine y_pure (pc' := 13) (st' := [.int (nI 1)]) rfl rfl ?_
    refine y_pure (pc' := 17) rfl rfl ?_
    exact y_retZ rfl rfl (by decide) h
noncomputable def h_T_add_3 (d : Nat) (x1 : Int32) (x2 : Int32) (M : ZM) : Option ZR := zEx0 (zEv d) zmT_add (3, [(0, .ref 65), (1, .int x1), (2, .int x2)], [], M)
theorem e_T_add_3 {d : Nat} {x1 : Int32} {x2 : Int32} {M : ZM} {r : ZR}  (h : (if x2 < (nI 0) then some (none, M) else (if (M.1 65 1) < (nI 0) then h_T_add_3 d x1 (x2 + (-8 : Int32)) M else (if (M.1 65 1) < (nI 400) then (if zin (M.1 65 1) 400 = true then zL (zpi (zpi M 66 (Int32.toNatClampNeg (M.1 65 1)) (((Int32.toUInt32 x1 >>> (Int32.toUInt32 x2 &&& Int32.toUInt32 31)).toInt32) &&& (nI 255))) 65 1 (((zpi M 66 (Int32.toNatClampNeg (M.1 65 1)) (((Int32.toUInt32 x1 >>> (Int32.toUInt32 x2 &&& Int32.toUInt32 31)).toInt32) &&& (nI 255))).1 65 1) + (nI 1))) (fun M5 => h_T_add_3 d x1 (x2 + (-8 : Int32)) M5) else none) else h_T_add_3 d x1 (x2 + (-8 : Int32)) M))) = some r) : h_T_add_3 d x1 x2 M = some r := by
  show zEx0 (zEv d) zmT_add (3, [(0, .ref 65), (1, .int x1), (2, .int x2)], [], M) = some r
  refine y_pure (pc' := 4) (st' := [.int x2]) rfl rfl ?_
  rcases zif_inv h with ⟨hc1, h⟩ | ⟨hc1, h⟩
  · refine y_cnd (pc' := 56) rfl rfl (zc_ltT hc1) rfl ?_
    exact y_ret rfl rfl rfl rfl h
  · refine y_cnd (pc' := 7) rfl rfl (zc_ltF hc1) rfl ?_
    refine y_pure (pc' := 8) (st' := [.ref 65]) rfl rfl ?_
    refine y_getf (pc' := 11) (v := .int (M.1 65 1)) rfl rfl rfl zc_65 rfl rfl ?_
    rcases zif_inv h with ⟨hc2, h⟩ | ⟨hc2, h⟩
    · refine y_cnd (pc' := 50) rfl rfl (zc_ltT hc2) rfl ?_
      refine y_pure (pc' := 53) (ls' := [(0, .ref 65), (1, .int x1), (2, .int (x2 + (-8 : Int32)))]) (st' := []) rfl rfl ?_
      refine y_pure (pc' := 3) rfl rfl ?_
      refine zEx_sub ?_ h
      exact ⟨rfl, rfl, rfl, trivial⟩
    · refine y_cnd (pc' := 14) rfl rfl (zc_ltF hc2) rfl ?_
      refine y_pure (pc' := 15) (st' := [.ref 65]) rfl rfl ?_
      refine y_getf (pc' := 18) (v := .int (M.1 65 1)) rfl rfl rfl zc_65 rfl rfl ?_
      refine y_pure (pc' := 21) (st' := [.int (nI 400), .int (M.1 65 1)]) rfl rfl ?_
      rcases zif_inv h with ⟨hc3, h⟩ | ⟨hc3, h⟩
      · refine y_cmp (pc' := 24) rfl rfl (zc_geF hc3) rfl ?_
        refine y_pure (pc' := 25) (st' := [.ref 65]) rfl rfl ?_
        refine y_getf (pc' := 28) (v := .ref 66) rfl rfl rfl zc_65 rfl rfl ?_
        refine y_pure (pc' := 29) (st' := [.ref 65, .ref 66]) rfl rfl ?_
        refine y_getf (pc' := 32) (v := .int (M.1 65 1)) rfl rfl rfl zc_65 rfl rfl ?_
        refine y_pure (pc' := 33) (st' := [.int x1, .int (M.1 65 1), .ref 66]) rfl rfl ?_
        refine y_pure (pc' := 34) (st' := [.int x2, .int x1, .int (M.1 65 1), .ref 66]) rfl rfl ?_
        refine y_pure (pc' := 35) (st' := [.int ((Int32.toUInt32 x1 >>> (Int32.toUInt32 x2 &&& Int32.toUInt32 31)).toInt32), .int (M.1 65 1), .ref 66]) rfl rfl ?_
        refine y_pure (pc' := 38) (st' := [.int (nI 255), .int ((Int32.toUInt32 x1 >>> (Int32.toUInt32 x2 &&& Int32.toUInt32 31)).toInt32), .int (M.1 65 1), .ref 66]) rfl rfl ?_
        refine y_pure (pc' := 39) (st' := [.int (((Int32.toUInt32 x1 >>> (Int32.toUInt32 x2 &&& Int32.toUInt32 31)).toInt32) &&& (nI 255)), .int (M.1 65 1), .ref 66]) rfl rfl ?_
        obtain ⟨hi4, h⟩ := zg_inv h
        refine y_iast (pc' := 40) rfl zc_66 hi4 rfl ?_
        refine y_pure (pc' := 41) (st' := [.ref 65]) rfl rfl ?_
        refine y_pure (pc' := 42) (st' := [.ref 65, .ref 65]) rfl rfl ?_
        refine y_getf (pc' := 45) (v := .int ((zpi M 66 (Int32.toNatClampNeg (M.1 65 1)) (((Int32.toUInt32 x1 >>> (Int32.toUInt32 x2 &&& Int32.toUInt32 31)).toInt32) &&& (nI 255))).1 65 1)) rfl rfl rfl zc_65 rfl rfl ?_
        refine y_pure (pc' := 46) (st' := [.int (nI 1), .int ((zpi M 66 (Int32.toNatClampNeg (M.1 65 1)) (((Int32.toUInt32 x1 >>> (Int32.toUInt32 x2 &&& Int32.toUInt32 31)).toInt32) &&& (nI 255))).1 65 1), .ref 65]) rfl rfl ?_
        refine y_pure (pc' := 47) (st' := [.int (((zpi M 66 (Int32.toNatClampNeg (M.1 65 1)) (((Int32.toUInt32 x1 >>> (Int32.toUInt32 x2 &&& Int32.toUInt32 31)).toInt32) &&& (nI 255))).1 65 1) + (nI 1)), .ref 65]) rfl rfl ?_
        refine y_putI (pc' := 50) rfl rfl zc_65 rfl ?_
        obtain ⟨M5, e6, h⟩ := zL_inv h
        refine zM_gen e6 ?_
        refine y_pure (pc' := 53) (ls' := [(0, .ref 65), (1, .int x1), (2, .int (x2 + (-8 : Int32)))]) (st' := []) rfl rfl ?_
        refine y_pure (pc' := 3) rfl rfl ?_
        refine zEx_sub ?_ h
        exact ⟨rfl, rfl, rfl, trivial⟩
      · refine y_cmp (pc' := 50) rfl rfl (zc_geT hc3) rfl ?_
        refine y_pure (pc' := 53) (ls' := [(0, .ref 65), (1, .int x1), (2, .int (x2 + (-8 : Int32)))]) (st' := []) rfl rfl ?_
        refine y_pure (pc' := 3) rfl rfl ?_
        refine zEx_sub ?_ h
        exact ⟨rfl, rfl, rfl, trivial⟩
theorem e_T_add {d : Nat} {x1 : Int32} {M : ZM} {r : ZR}  (h : h_T_add_3 d x1 (nI 24) M = some r) : zEv (d + 1) zmT_add [.ref 65, .int x1] M = some r := by
  rw [zEv_succ]
  show zEx0 (zEv d) zmT_add (0, [(0, .ref 65), (1, .int x1)], [], M) = some r
  refine y_pure (pc' := 2) (st' := [.int (nI 24)]) rfl rfl ?_
  refine y_pure (pc' := 3) (ls' := [(0, .ref 65), (1, .int x1), (2, .int (nI 24))]) (st' := []) rfl rfl ?_
  refine zEx_sub ?_ h
  exact ⟨rfl, rfl, rfl, trivial⟩
theorem e_T_cut {d : Nat} {x1 : Int32} {M : ZM} {r : ZR}  (h : (if x1 < (nI 0) then some (some (.int (nI 0)), M) else (if (M.1 65 1) < x1 then some (some (.int (nI 0)), M) else some (some (.int (nI 1)), (zpi M 65 1 x1)))) = some r) : zEv (d + 1) zmT_cut [.ref 65, .int x1] M = some r := by
  rw [zEv_succ]
  show zEx0 (zEv d) zmT_cut (0, [(0, .ref 65), (1, .int x1)], [], M) = some r
  refine y_pure (pc' := 1) (st' := [.int x1]) rfl rfl ?_
  rcases zif_inv h with ⟨hc1, h⟩ | ⟨hc1, h⟩
  · refine y_cnd (pc' := 12) rfl rfl (zc_ltT hc1) rfl ?_
    refine y_pure (pc' := 13) (st' := [.int (nI 0)]) rfl rfl ?_
    exact y_retZ rfl rfl (by decide) h
  · refine y_cnd (pc' := 4) rfl rfl (zc_ltF hc1) rfl ?_
    refine y_pure (pc' := 5) (st' := [.int x1]) rfl rfl ?_
    refine y_pure (pc' := 6) (st' := [.ref 65, .int x1]) rfl rfl ?_
    refine y_getf (pc' := 9) (v := .int (M.1 65 1)) rfl rfl rfl zc_65 rfl rfl ?_
    rcases zif_inv h with ⟨hc2, h⟩ | ⟨hc2, h⟩
    · refine y_cmp (pc' := 12) rfl rfl (zc_leF hc2) rfl ?_
      refine y_pure (pc' := 13) (st' := [.int (nI 0)]) rfl rfl ?_
      exact y_retZ rfl rfl (by decide) h
    · refine y_cmp (pc' := 14) rfl rfl (zc_leT hc2) rfl ?_
      refine y_pure (pc' := 15) (st' := [.ref 65]) rfl rfl ?_
      refine y_pure (pc' := 16) (st' := [.int x1, .ref 65]) rfl rfl ?_
      refine y_putI (pc' := 19) rfl rfl zc_65 rfl ?_
      refine y_pure (pc' := 20) (st' := [.int (nI 1)]) rfl rfl ?_
      exact y_retZ rfl rfl (by decide) h
noncomputable def h_T_readBoard_16 (d : Nat) (x1 : Int32) (M : ZM) : Option ZR := zEx0 (zEv d) zmT_readBoard (16, [(0, .ref 65), (1, .int x1)], [], M)
noncomputable def h_T_readBoard_84 (d : Nat) (M : ZM) : Option ZR := zEx0 (zEv d) zmT_readBoard (84, [(0, .ref 65)], [], M)
theorem e_T_readBoard_16 {d : Nat} {x1 : Int32} {M : ZM} {r : ZR}  (h : (if x1 < (nI 400) then (if (M.1 65 4) = (-1 : Int32) then zC1 (zEv d zmT_isEnd [.ref 65] M) (fun v5 M4 => (if v5 = (nI 0) then (if zin (M4.1 65 3) 400 = true then (if (M4.1 66 (Int32.toNatClampNeg (M4.1 65 3))) = (nI 59) then zC0 (zEv d zmT_readPart [.ref 65] (zpi M4 65 3 ((M4.1 65 3) + (nI 1)))) (fun M10 => h_T_readBoard_16 d (x1 + (nI 1)) M10) else zC0 (zEv d zmT_fail [.ref 65, .int (M4.1 65 3), .int (nI 1)] M4) (fun M12 => h_T_readBoard_16 d (x1 + (nI 1)) M12)) else none) else h_T_readBoard_84 d  M4)) else h_T_readBoard_84 d  M) else h_T_readBoard_84 d  M) = some r) : h_T_readBoard_16 d x1 M = some r := by
  show zEx0 (zEv d) zmT_readBoard (16, [(0, .ref 65), (1, .int x1)], [], M) = some r
  refine y_pure (pc' := 17) (st' := [.int x1]) rfl rfl ?_
  refine y_pure (pc' := 20) (st' := [.int (nI 400), .int x1]) rfl rfl ?_
  rcases zif_inv h with ⟨hc1, h⟩ | ⟨hc1, h⟩
  · refine y_cmp (pc' := 23) rfl rfl (zc_geF hc1) rfl ?_
    refine y_pure (pc' := 24) (st' := [.ref 65]) rfl rfl ?_
    refine y_getf (pc' := 27) (v := .int (M.1 65 4)) rfl rfl rfl zc_65 rfl rfl ?_
    refine y_pure (pc' := 28) (st' := [.int (-1 : Int32), .int (M.1 65 4)]) rfl rfl ?_
    rcases zif_inv h with ⟨hc2, h⟩ | ⟨hc2, h⟩
    · refine y_cmp (pc' := 31) rfl rfl (zc_neF hc2) rfl ?_
      refine y_pure (pc' := 32) (st' := [.ref 65]) rfl rfl ?_
      obtain ⟨v5, M4, he3, h⟩ := zC1_inv h
      refine y_callV (pc' := 35) (y := zmT_isEnd) (a' := []) (st' := []) rfl rfl rfl rfl rfl (zrecv_o (o := 6) zc_65 rfl) rfl he3 rfl rfl ?_
      rcases zif_inv h with ⟨hc6, h⟩ | ⟨hc6, h⟩
      · refine y_cnd (pc' := 38) rfl rfl (zc_neF hc6) rfl ?_
        refine y_pure (pc' := 39) (st' := [.ref 65]) rfl rfl ?_
        refine y_getf (pc' := 42) (v := .ref 66) rfl rfl rfl zc_65 rfl rfl ?_
        refine y_pure (pc' := 43) (st' := [.ref 65, .ref 66]) rfl rfl ?_
        refine y_getf (pc' := 46) (v := .int (M4.1 65 3)) rfl rfl rfl zc_65 rfl rfl ?_
        obtain ⟨hi7, h⟩ := zg_inv h
        refine y_iald (pc' := 47) rfl zc_66 hi7 rfl ?_
        refine y_pure (pc' := 49) (st' := [.int (nI 59), .int (M4.1 66 (Int32.toNatClampNeg (M4.1 65 3)))]) rfl rfl ?_
        rcases zif_inv h with ⟨hc8, h⟩ | ⟨hc8, h⟩
        · refine y_cmp (pc' := 64) rfl rfl (zc_eqT hc8) rfl ?_
          refine y_pure (pc' := 65) (st' := [.ref 65]) rfl rfl ?_
          refine y_pure (pc' := 66) (st' := [.ref 65, .ref 65]) rfl rfl ?_
          refine y_getf (pc' := 69) (v := .int (M4.1 65 3)) rfl rfl rfl zc_65 rfl rfl ?_
          refine y_pure (pc' := 70) (st' := [.int (nI 1), .int (M4.1 65 3), .ref 65]) rfl rfl ?_
          refine y_pure (pc' := 71) (st' := [.int ((M4.1 65 3) + (nI 1)), .ref 65]) rfl rfl ?_
          refine y_putI (pc' := 74) rfl rfl zc_65 rfl ?_
          refine y_pure (pc' := 75) (st' := [.ref 65]) rfl rfl ?_
          obtain ⟨M10, he9, h⟩ := zC0_inv h
          refine y_callV (pc' := 78) (y := zmT_readPart) (a' := []) (st' := []) rfl rfl rfl rfl rfl (zrecv_o (o := 6) zc_65 rfl) rfl he9 rfl rfl ?_
          refine y_pure (pc' := 81) (ls' := [(0, .ref 65), (1, .int (x1 + (nI 1)))]) (st' := []) rfl rfl ?_
          refine y_pure (pc' := 16) rfl rfl ?_
          refine zEx_sub ?_ h
          exact ⟨rfl, rfl, trivial⟩
        · refine y_cmp (pc' := 52) rfl rfl (zc_eqF hc8) rfl ?_
          refine y_pure (pc' := 53) (st' := [.ref 65]) rfl rfl ?_
          refine y_pure (pc' := 54) (st' := [.ref 65, .ref 65]) rfl rfl ?_
          refine y_getf (pc' := 57) (v := .int (M4.1 65 3)) rfl rfl rfl zc_65 rfl rfl ?_
          refine y_pure (pc' := 58) (st' := [.int (nI 1), .int (M4.1 65 3), .ref 65]) rfl rfl ?_
          obtain ⟨M12, he11, h⟩ := zC0_inv h
          refine y_callV (pc' := 61) (y := zmT_fail) (a' := [.int (M4.1 65 3), .int (nI 1)]) (st' := []) rfl rfl rfl rfl rfl (zrecv_o (o := 6) zc_65 rfl) rfl he11 rfl rfl ?_
          refine y_pure (pc' := 78) rfl rfl ?_
          refine y_pure (pc' := 81) (ls' := [(0, .ref 65), (1, .int (x1 + (nI 1)))]) (st' := []) rfl rfl ?_
          refine y_pure (pc' := 16) rfl rfl ?_
          refine zEx_sub ?_ h
          exact ⟨rfl, rfl, trivial⟩
      · refine y_cnd (pc' := 84) rfl rfl (zc_neT hc6) rfl ?_
        refine zEx_sub ?_ h
        exact ⟨rfl, trivial⟩
    · refine y_cmp (pc' := 84) rfl rfl (zc_neT hc2) rfl ?_
      refine zEx_sub ?_ h
      exact ⟨rfl, trivial⟩
  · refine y_cmp (pc' := 84) rfl rfl (zc_geT hc1) rfl ?_
    refine zEx_sub ?_ h
    exact ⟨rfl, trivial⟩
theorem e_T_readBoard_84 {d : Nat} {M : ZM} {r : ZR}  (h : (if (M.1 65 4) = (-1 : Int32) then zC1 (zEv d zmJL_bitCount [.long (M.2 67 4)] M) (fun v4 M3 => (if (nI 16) < v4 then zC0 (zEv d zmT_fail [.ref 65, .int (M3.1 65 1), .int (nI 4)] M3) (fun M7 => some (some (.int (M7.1 65 4)), M7)) else some (some (.int (M3.1 65 4)), M3))) else some (some (.int (M.1 65 4)), M)) = some r) : h_T_readBoard_84 d M = some r := by
  show zEx0 (zEv d) zmT_readBoard (84, [(0, .ref 65)], [], M) = some r
  refine y_pure (pc' := 85) (st' := [.ref 65]) rfl rfl ?_
  refine y_getf (pc' := 88) (v := .int (M.1 65 4)) rfl rfl rfl zc_65 rfl rfl ?_
  refine y_pure (pc' := 89) (st' := [.int (-1 : Int32), .int (M.1 65 4)]) rfl rfl ?_
  rcases zif_inv h with ⟨hc1, h⟩ | ⟨hc1, h⟩
  · refine y_cmp (pc' := 92) rfl rfl (zc_neF hc1) rfl ?_
    refine y_pure (pc' := 93) (st' := [.ref 65]) rfl rfl ?_
    refine y_getf (pc' := 96) (v := .ref 67) rfl rfl rfl zc_65 rfl rfl ?_
    refine y_getf (pc' := 99) (v := .long (M.2 67 4)) rfl rfl rfl zc_67 rfl rfl ?_
    obtain ⟨v4, M3, he2, h⟩ := zC1_inv h
    refine y_callS (pc' := 102) (y := zmJL_bitCount) (a := [.long (M.2 67 4)]) (st' := []) rfl rfl rfl rfl rfl rfl he2 rfl rfl ?_
    refine y_pure (pc' := 104) (st' := [.int (nI 16), .int v4]) rfl rfl ?_
    rcases zif_inv h with ⟨hc5, h⟩ | ⟨hc5, h⟩
    · refine y_cmp (pc' := 107) rfl rfl (zc_leF hc5) rfl ?_
      refine y_pure (pc' := 108) (st' := [.ref 65]) rfl rfl ?_
      refine y_pure (pc' := 109) (st' := [.ref 65, .ref 65]) rfl rfl ?_
      refine y_getf (pc' := 112) (v := .int (M3.1 65 1)) rfl rfl rfl zc_65 rfl rfl ?_
      refine y_pure (pc' := 113) (st' := [.int (nI 4), .int (M3.1 65 1), .ref 65]) rfl rfl ?_
      obtain ⟨M7, he6, h⟩ := zC0_inv h
      refine y_callV (pc' := 116) (y := zmT_fail) (a' := [.int (M3.1 65 1), .int (nI 4)]) (st' := []) rfl rfl rfl rfl rfl (zrecv_o (o := 6) zc_65 rfl) rfl he6 rfl rfl ?_
      refine y_pure (pc' := 117) (st' := [.ref 65]) rfl rfl ?_
      refine y_getf (pc' := 120) (v := .int (M7.1 65 4)) rfl rfl rfl zc_65 rfl rfl ?_
      exact y_ret rfl rfl rfl rfl h
    · refine y_cmp (pc' := 116) rfl rfl (zc_leT hc5) rfl ?_
      refine y_pure (pc' := 117) (st' := [.ref 65]) rfl rfl ?_
      refine y_getf (pc' := 120) (v := .int (M3.1 65 4)) rfl rfl rfl zc_65 rfl rfl ?_
      exact y_ret rfl rfl rfl rfl h
  · refine y_cmp (pc' := 116) rfl rfl (zc_neT hc1) rfl ?_
    refine y_pure (pc' := 117) (st' := [.ref 65]) rfl rfl ?_
    refine y_getf (pc' := 120) (v := .int (M.1 65 4)) rfl rfl rfl zc_65 rfl rfl ?_
    exact y_ret rfl rfl rfl rfl h
theorem e_T_readBoard {d : Nat}  {M : ZM} {r : ZR}  (h : zC0 (zEv d zmT_readSides [.ref 65] (zpi (zpi M 65 3 (nI 0)) 65 4 (-1 : Int32))) (fun M2 => h_T_readBoard_16 d (nI 0) M2) = some r) : zEv (d + 1) zmT_readBoard [.ref 65] M = some r := by
  rw [zEv_succ]
  show zEx0 (zEv d) zmT_readBoard (0, [(0, .ref 65)], [], M) = some r
  refine y_pure (pc' := 1) (st' := [.ref 65]) rfl rfl ?_
  refine y_pure (pc' := 2) (st' := [.int (nI 0), .ref 65]) rfl rfl ?_
  refine y_putI (pc' := 5) rfl rfl zc_65 rfl ?_
  refine y_pure (pc' := 6) (st' := [.ref 65]) rfl rfl ?_
  refine y_pure (pc' := 7) (st' := [.int (-1 : Int32), .ref 65]) rfl rfl ?_
  refine y_putI (pc' := 10) rfl rfl zc_65 rfl ?_
  refine y_pure (pc' := 11) (st' := [.ref 65]) rfl rfl ?_
  obtain ⟨M2, he1, h⟩ := zC0_inv h
  refine y_callV (pc' := 14) (y := zmT_readSides) (a' := []) (st' := []) rfl rfl rfl rfl rfl (zrecv_o (o := 6) zc_65 rfl) rfl he1 rfl rfl ?_
  refine y_pure (pc' := 15) (st' := [.int (nI 0)]) rfl rfl ?_
  refine y_pure (pc' := 16) (ls' := [(0, .ref 65), (1, .int (nI 0))]) (st' := []) rfl rfl ?_
  refine zEx_sub ?_ h
  exact ⟨rfl, rfl, trivial⟩
theorem e_T_readSides {d : Nat}  {M : ZM} {r : ZR}  (h : zC0 (zEv d zmT_expect [.ref 65, .ref 10] M) (fun M2 => zC1 (zEv d zmT_readNumber [.ref 65, .int (nI 1), .int (nI 6)] M2) (fun v5 M4 => zC1 (zEv d zmT_readNumber [.ref 65, .int (nI 1), .int (nI 6)] M4) (fun v8 M7 => zC0 (zEv d zmT_expect [.ref 65, .ref 17] M7) (fun M10 => zC1 (zEv d zmT_readNumber [.ref 65, .int (nI 2), .int (nI 7)] M10) (fun v13 M12 => (if (M12.1 65 4) = (-1 : Int32) then zC0 (zEv d zmB_lay [.ref 67, .int v5, .int v8, .int v13] M12) (fun M16 => some (none, M16)) else some (none, M12))))))) = some r) : zEv (d + 1) zmT_readSides [.ref 65] M = some r := by
  rw [zEv_succ]
  show zEx0 (zEv d) zmT_readSides (0, [(0, .ref 65)], [], M) = some r
  refine y_pure (pc' := 1) (st' := [.ref 65]) rfl rfl ?_
  refine y_ldcX (pc' := 3) (q := 10) rfl rfl rfl rfl ?_
  obtain ⟨M2, he1, h⟩ := zC0_inv h
  refine y_callV (pc' := 6) (y := zmT_expect) (a' := [.ref 10]) (st' := []) rfl rfl rfl rfl rfl (zrecv_o (o := 6) zc_65 rfl) rfl he1 rfl rfl ?_
  refine y_pure (pc' := 7) (st' := [.ref 65]) rfl rfl ?_
  refine y_pure (pc' := 8) (st' := [.int (nI 1), .ref 65]) rfl rfl ?_
  refine y_pure (pc' := 10) (st' := [.int (nI 6), .int (nI 1), .ref 65]) rfl rfl ?_
  obtain ⟨v5, M4, he3, h⟩ := zC1_inv h
  refine y_callV (pc' := 13) (y := zmT_readNumber) (a' := [.int (nI 1), .int (nI 6)]) (st' := []) rfl rfl rfl rfl rfl (zrecv_o (o := 6) zc_65 rfl) rfl he3 rfl rfl ?_
  refine y_pure (pc' := 14) (ls' := [(0, .ref 65), (1, .int v5)]) (st' := []) rfl rfl ?_
  refine y_pure (pc' := 15) (st' := [.ref 65]) rfl rfl ?_
  refine y_pure (pc' := 16) (st' := [.int (nI 1), .ref 65]) rfl rfl ?_
  refine y_pure (pc' := 18) (st' := [.int (nI 6), .int (nI 1), .ref 65]) rfl rfl ?_
  obtain ⟨v8, M7, he6, h⟩ := zC1_inv h
  refine y_callV (pc' := 21) (y := zmT_readNumber) (a' := [.int (nI 1), .int (nI 6)]) (st' := []) rfl rfl rfl rfl rfl (zrecv_o (o := 6) zc_65 rfl) rfl he6 rfl rfl ?_
  refine y_pure (pc' := 22) (ls' := [(0, .ref 65), (1, .int v5), (2, .int v8)]) (st' := []) rfl rfl ?_
  refine y_pure (pc' := 23) (st' := [.ref 65]) rfl rfl ?_
  refine y_ldcX (pc' := 25) (q := 17) rfl rfl rfl rfl ?_
  obtain ⟨M10, he9, h⟩ := zC0_inv h
  refine y_callV (pc' := 28) (y := zmT_expect) (a' := [.ref 17]) (st' := []) rfl rfl rfl rfl rfl (zrecv_o (o := 6) zc_65 rfl) rfl he9 rfl rfl ?_
  refine y_pure (pc' := 29) (st' := [.ref 65]) rfl rfl ?_
  refine y_pure (pc' := 30) (st' := [.int (nI 2), .ref 65]) rfl rfl ?_
  refine y_pure (pc' := 32) (st' := [.int (nI 7), .int (nI 2), .ref 65]) rfl rfl ?_
  obtain ⟨v13, M12, he11, h⟩ := zC1_inv h
  refine y_callV (pc' := 35) (y := zmT_readNumber) (a' := [.int (nI 2), .int (nI 7)]) (st' := []) rfl rfl rfl rfl rfl (zrecv_o (o := 6) zc_65 rfl) rfl he11 rfl rfl ?_
  refine y_pure (pc' := 36) (ls' := [(0, .ref 65), (1, .int v5), (2, .int v8), (3, .int v13)]) (st' := []) rfl rfl ?_
  refine y_pure (pc' := 37) (st' := [.ref 65]) rfl rfl ?_
  refine y_getf (pc' := 40) (v := .int (M12.1 65 4)) rfl rfl rfl zc_65 rfl rfl ?_
  refine y_pure (pc' := 41) (st' := [.int (-1 : Int32), .int (M12.1 65 4)]) rfl rfl ?_
  rcases zif_inv h with ⟨hc14, h⟩ | ⟨hc14, h⟩
  · refine y_cmp (pc' := 44) rfl rfl (zc_neF hc14) rfl ?_
    refine y_pure (pc' := 45) (st' := [.ref 65]) rfl rfl ?_
    refine y_getf (pc' := 48) (v := .ref 67) rfl rfl rfl zc_65 rfl rfl ?_
    refine y_pure (pc' := 49) (st' := [.int v5, .ref 67]) rfl rfl ?_
    refine y_pure (pc' := 50) (st' := [.int v8, .int v5, .ref 67]) rfl rfl ?_
    refine y_pure (pc' := 51) (st' := [.int v13, .int v8, .int v5, .ref 67]) rfl rfl ?_
    obtain ⟨M16, he15, h⟩ := zC0_inv h
    refine y_callV (pc' := 54) (y := zmB_lay) (a' := [.int v5, .int v8, .int v13]) (st' := []) rfl rfl rfl rfl rfl (zrecv_o (o := 0) zc_67 rfl) rfl he15 rfl rfl ?_
    exact y_ret rfl rfl rfl rfl h
  · refine y_cmp (pc' := 54) rfl rfl (zc_neT hc14) rfl ?_
    exact y_ret rfl rfl rfl rfl h
theorem e_T_readPart {d : Nat}  {M : ZM} {r : ZR}  (h : zC0 (zEv d zmT_skipBlanks [.ref 65] M) (fun M2 => zC1 (zEv d zmT_takeWord [.ref 65, .ref 9] M2) (fun v5 M4 => (if v5 = (nI 0) then zC1 (zEv d zmT_takeWord [.ref 65, .ref 13] M4) (fun v9 M8 => (if v9 = (nI 0) then zC1 (zEv d zmT_takeWord [.ref 65, .ref 11] M8) (fun v13 M12 => (if v13 = (nI 0) then zC1 (zEv d zmT_takeWord [.ref 65, .ref 6] M12) (fun v17 M16 => (if v17 = (nI 0) then zC1 (zEv d zmT_takeWord [.ref 65, .ref 12] M16) (fun v21 M20 => (if v21 = (nI 0) then zC0 (zEv d zmT_fail [.ref 65, .int (M2.1 65 3), .int (nI 1)] M20) (fun M24 => some (none, M24)) else zC1 (zEv d zmT_hasRoomForCage [.ref 65, .int (M2.1 65 3)] M20) (fun v27 M26 => (if v27 = (nI 0) then some (none, M26) else zC0 (zEv d zmT_readLine [.ref 65, .int (nI 1)] M26) (fun M30 => some (none, M30)))))) else zC1 (zEv d zmT_hasRoomForCage [.ref 65, .int (M2.1 65 3)] M16) (fun v33 M32 => (if v33 = (nI 0) then some (none, M32) else zC0 (zEv d zmT_readLine [.ref 65, .int (nI 0)] M32) (fun M36 => some (none, M36)))))) else zC1 (zEv d zmT_hasRoomForCage [.ref 65, .int (M2.1 65 3)] M12) (fun v39 M38 => (if v39 = (nI 0) then some (none, M38) else zC0 (zEv d zmT_readCage [.ref 65] M38) (fun M42 => some (none, M42)))))) else zC0 (zEv d zmT_readGiven [.ref 65] M8) (fun M44 => some (none, M44)))) else zC0 (zEv d zmT_readBlocks [.ref 65] M4) (fun M46 => some (none, M46))))) = some r) : zEv (d + 1) zmT_readPart [.ref 65] M = some r := by
  rw [zEv_succ]
  show zEx0 (zEv d) zmT_readPart (0, [(0, .ref 65)], [], M) = some r
  refine y_pure (pc' := 1) (st' := [.ref 65]) rfl rfl ?_
  obtain ⟨M2, he1, h⟩ := zC0_inv h
  refine y_callV (pc' := 4) (y := zmT_skipBlanks) (a' := []) (st' := []) rfl rfl rfl rfl rfl (zrecv_o (o := 6) zc_65 rfl) rfl he1 rfl rfl ?_
  refine y_pure (pc' := 5) (st' := [.ref 65]) rfl rfl ?_
  refine y_getf (pc' := 8) (v := .int (M2.1 65 3)) rfl rfl rfl zc_65 rfl rfl ?_
  refine y_pure (pc' := 9) (ls' := [(0, .ref 65), (1, .int (M2.1 65 3))]) (st' := []) rfl rfl ?_
  refine y_pure (pc' := 10) (st' := [.ref 65]) rfl rfl ?_
  refine y_ldcX (pc' := 12) (q := 9) rfl rfl rfl rfl ?_
  obtain ⟨v5, M4, he3, h⟩ := zC1_inv h
  refine y_callV (pc' := 15) (y := zmT_takeWord) (a' := [.ref 9]) (st' := []) rfl rfl rfl rfl rfl (zrecv_o (o := 6) zc_65 rfl) rfl he3 rfl rfl ?_
  rcases zif_inv h with ⟨hc6, h⟩ | ⟨hc6, h⟩
  · refine y_cnd (pc' := 25) rfl rfl (zc_eqT hc6) rfl ?_
    refine y_pure (pc' := 26) (st' := [.ref 65]) rfl rfl ?_
    refine y_ldcX (pc' := 28) (q := 13) rfl rfl rfl rfl ?_
    obtain ⟨v9, M8, he7, h⟩ := zC1_inv h
    refine y_callV (pc' := 31) (y := zmT_takeWord) (a' := [.ref 13]) (st' := []) rfl rfl rfl rfl rfl (zrecv_o (o := 6) zc_65 rfl) rfl he7 rfl rfl ?_
    rcases zif_inv h with ⟨hc10, h⟩ | ⟨hc10, h⟩
    · refine y_cnd (pc' := 41) rfl rfl (zc_eqT hc10) rfl ?_
      refine y_pure (pc' := 42) (st' := [.ref 65]) rfl rfl ?_
      refine y_ldcX (pc' := 44) (q := 11) rfl rfl rfl rfl ?_
      obtain ⟨v13, M12, he11, h⟩ := zC1_inv h
      refine y_callV (pc' := 47) (y := zmT_takeWord) (a' := [.ref 11]) (st' := []) rfl rfl rfl rfl rfl (zrecv_o (o := 6) zc_65 rfl) rfl he11 rfl rfl ?_
      rcases zif_inv h with ⟨hc14, h⟩ | ⟨hc14, h⟩
      · refine y_cnd (pc' := 65) rfl rfl (zc_eqT hc14) rfl ?_
        refine y_pure (pc' := 66) (st' := [.ref 65]) rfl rfl ?_
        refine y_ldcX (pc' := 68) (q := 6) rfl rfl rfl rfl ?_
        obtain ⟨v17, M16, he15, h⟩ := zC1_inv h
        refine y_callV (pc' := 71) (y := zmT_takeWord) (a' := [.ref 6]) (st' := []) rfl rfl rfl rfl rfl (zrecv_o (o := 6) zc_65 rfl) rfl he15 rfl rfl ?_
        rcases zif_inv h with ⟨hc18, h⟩ | ⟨hc18, h⟩
        · refine y_cnd (pc' := 90) rfl rfl (zc_eqT hc18) rfl ?_
          refine y_pure (pc' := 91) (st' := [.ref 65]) rfl rfl ?_
          refine y_ldcX (pc' := 93) (q := 12) rfl rfl rfl rfl ?_
          obtain ⟨v21, M20, he19, h⟩ := zC1_inv h
          refine y_callV (pc' := 96) (y := zmT_takeWord) (a' := [.ref 12]) (st' := []) rfl rfl rfl rfl rfl (zrecv_o (o := 6) zc_65 rfl) rfl he19 rfl rfl ?_
          rcases zif_inv h with ⟨hc22, h⟩ | ⟨hc22, h⟩
          · refine y_cnd (pc' := 115) rfl rfl (zc_eqT hc22) rfl ?_
            refine y_pure (pc' := 116) (st' := [.ref 65]) rfl rfl ?_
            refine y_pure (pc' := 117) (st' := [.int (M2.1 65 3), .ref 65]) rfl rfl ?_
            refine y_pure (pc' := 118) (st' := [.int (nI 1), .int (M2.1 65 3), .ref 65]) rfl rfl ?_
            obtain ⟨M24, he23, h⟩ := zC0_inv h
            refine y_callV (pc' := 121) (y := zmT_fail) (a' := [.int (M2.1 65 3), .int (nI 1)]) (st' := []) rfl rfl rfl rfl rfl (zrecv_o (o := 6) zc_65 rfl) rfl he23 rfl rfl ?_
            exact y_ret rfl rfl rfl rfl h
          · refine y_cnd (pc' := 99) rfl rfl (zc_eqF hc22) rfl ?_
            refine y_pure (pc' := 100) (st' := [.ref 65]) rfl rfl ?_
            refine y_pure (pc' := 101) (st' := [.int (M2.1 65 3), .ref 65]) rfl rfl ?_
            obtain ⟨v27, M26, he25, h⟩ := zC1_inv h
            refine y_callV (pc' := 104) (y := zmT_hasRoomForCage) (a' := [.int (M2.1 65 3)]) (st' := []) rfl rfl rfl rfl rfl (zrecv_o (o := 6) zc_65 rfl) rfl he25 rfl rfl ?_
            rcases zif_inv h with ⟨hc28, h⟩ | ⟨hc28, h⟩
            · refine y_cnd (pc' := 121) rfl rfl (zc_eqT hc28) rfl ?_
              exact y_ret rfl rfl rfl rfl h
            · refine y_cnd (pc' := 107) rfl rfl (zc_eqF hc28) rfl ?_
              refine y_pure (pc' := 108) (st' := [.ref 65]) rfl rfl ?_
              refine y_pure (pc' := 109) (st' := [.int (nI 1), .ref 65]) rfl rfl ?_
              obtain ⟨M30, he29, h⟩ := zC0_inv h
              refine y_callV (pc' := 112) (y := zmT_readLine) (a' := [.int (nI 1)]) (st' := []) rfl rfl rfl rfl rfl (zrecv_o (o := 6) zc_65 rfl) rfl he29 rfl rfl ?_
              refine y_pure (pc' := 121) rfl rfl ?_
              exact y_ret rfl rfl rfl rfl h
        · refine y_cnd (pc' := 74) rfl rfl (zc_eqF hc18) rfl ?_
          refine y_pure (pc' := 75) (st' := [.ref 65]) rfl rfl ?_
          refine y_pure (pc' := 76) (st' := [.int (M2.1 65 3), .ref 65]) rfl rfl ?_
          obtain ⟨v33, M32, he31, h⟩ := zC1_inv h
          refine y_callV (pc' := 79) (y := zmT_hasRoomForCage) (a' := [.int (M2.1 65 3)]) (st' := []) rfl rfl rfl rfl rfl (zrecv_o (o := 6) zc_65 rfl) rfl he31 rfl rfl ?_
          rcases zif_inv h with ⟨hc34, h⟩ | ⟨hc34, h⟩
          · refine y_cnd (pc' := 121) rfl rfl (zc_eqT hc34) rfl ?_
            exact y_ret rfl rfl rfl rfl h
          · refine y_cnd (pc' := 82) rfl rfl (zc_eqF hc34) rfl ?_
            refine y_pure (pc' := 83) (st' := [.ref 65]) rfl rfl ?_
            refine y_pure (pc' := 84) (st' := [.int (nI 0), .ref 65]) rfl rfl ?_
            obtain ⟨M36, he35, h⟩ := zC0_inv h
            refine y_callV (pc' := 87) (y := zmT_readLine) (a' := [.int (nI 0)]) (st' := []) rfl rfl rfl rfl rfl (zrecv_o (o := 6) zc_65 rfl) rfl he35 rfl rfl ?_
            refine y_pure (pc' := 121) rfl rfl ?_
            exact y_ret rfl rfl rfl rfl h
      · refine y_cnd (pc' := 50) rfl rfl (zc_eqF hc14) rfl ?_
        refine y_pure (pc' := 51) (st' := [.ref 65]) rfl rfl ?_
        refine y_pure (pc' := 52) (st' := [.int (M2.1 65 3), .ref 65]) rfl rfl ?_
        obtain ⟨v39, M38, he37, h⟩ := zC1_inv h
        refine y_callV (pc' := 55) (y := zmT_hasRoomForCage) (a' := [.int (M2.1 65 3)]) (st' := []) rfl rfl rfl rfl rfl (zrecv_o (o := 6) zc_65 rfl) rfl he37 rfl rfl ?_
        rcases zif_inv h with ⟨hc40, h⟩ | ⟨hc40, h⟩
        · refine y_cnd (pc' := 121) rfl rfl (zc_eqT hc40) rfl ?_
          exact y_ret rfl rfl rfl rfl h
        · refine y_cnd (pc' := 58) rfl rfl (zc_eqF hc40) rfl ?_
          refine y_pure (pc' := 59) (st' := [.ref 65]) rfl rfl ?_
          obtain ⟨M42, he41, h⟩ := zC0_inv h
          refine y_callV (pc' := 62) (y := zmT_readCage) (a' := []) (st' := []) rfl rfl rfl rfl rfl (zrecv_o (o := 6) zc_65 rfl) rfl he41 rfl rfl ?_
          refine y_pure (pc' := 121) rfl rfl ?_
          exact y_ret rfl rfl rfl rfl h
    · refine y_cnd (pc' := 34) rfl rfl (zc_eqF hc10) rfl ?_
      refine y_pure (pc' := 35) (st' := [.ref 65]) rfl rfl ?_
      obtain ⟨M44, he43, h⟩ := zC0_inv h
      refine y_callV (pc' := 38) (y := zmT_readGiven) (a' := []) (st' := []) rfl rfl rfl rfl rfl (zrecv_o (o := 6) zc_65 rfl) rfl he43 rfl rfl ?_
      refine y_pure (pc' := 121) rfl rfl ?_
      exact y_ret rfl rfl rfl rfl h
  · refine y_cnd (pc' := 18) rfl rfl (zc_eqF hc6) rfl ?_
    refine y_pure (pc' := 19) (st' := [.ref 65]) rfl rfl ?_
    obtain ⟨M46, he45, h⟩ := zC0_inv h
    refine y_callV (pc' := 22) (y := zmT_readBlocks) (a' := []) (st' := []) rfl rfl rfl rfl rfl (zrecv_o (o := 6) zc_65 rfl) rfl he45 rfl rfl ?_
    refine y_pure (pc' := 121) rfl rfl ?_
    exact y_ret rfl rfl rfl rfl h
theorem e_T_hasRoomForCage {d : Nat} {x1 : Int32} {M : ZM} {r : ZR}  (h : (if (M.1 67 3) < (nI 12) then (if (M.1 65 4) = (-1 : Int32) then some (some (.int (nI 1)), M) else some (some (.int (nI 0)), M)) else zC0 (zEv d zmT_fail [.ref 65, .int x1, .int (nI 3)] M) (fun M4 => (if (M4.1 65 4) = (-1 : Int32) then some (some (.int (nI 1)), M4) else some (some (.int (nI 0)), M4)))) = some r) : zEv (d + 1) zmT_hasRoomForCage [.ref 65, .int x1] M = some r := by
  rw [zEv_succ]
  show zEx0 (zEv d) zmT_hasRoomForCage (0, [(0, .ref 65), (1, .int x1)], [], M) = some r
  refine y_pure (pc' := 1) (st' := [.ref 65]) rfl rfl ?_
  refine y_getf (pc' := 4) (v := .ref 67) rfl rfl rfl zc_65 rfl rfl ?_
  refine y_getf (pc' := 7) (v := .int (M.1 67 3)) rfl rfl rfl zc_67 rfl rfl ?_
  refine y_pure (pc' := 9) (st' := [.int (nI 12), .int (M.1 67 3)]) rfl rfl ?_
  rcases zif_inv h with ⟨hc1, h⟩ | ⟨hc1, h⟩
  · refine y_cmp (pc' := 18) rfl rfl (zc_ltT hc1) rfl ?_
    refine y_pure (pc' := 19) (st' := [.ref 65]) rfl rfl ?_
    refine y_getf (pc' := 22) (v := .int (M.1 65 4)) rfl rfl rfl zc_65 rfl rfl ?_
    refine y_pure (pc' := 23) (st' := [.int (-1 : Int32), .int (M.1 65 4)]) rfl rfl ?_
    rcases zif_inv h with ⟨hc2, h⟩ | ⟨hc2, h⟩
    · refine y_cmp (pc' := 26) rfl rfl (zc_neF hc2) rfl ?_
      refine y_pure (pc' := 27) (st' := [.int (nI 1)]) rfl rfl ?_
      refine y_pure (pc' := 31) rfl rfl ?_
      exact y_retZ rfl rfl (by decide) h
    · refine y_cmp (pc' := 30) rfl rfl (zc_neT hc2) rfl ?_
      refine y_pure (pc' := 31) (st' := [.int (nI 0)]) rfl rfl ?_
      exact y_retZ rfl rfl (by decide) h
  · refine y_cmp (pc' := 12) rfl rfl (zc_ltF hc1) rfl ?_
    refine y_pure (pc' := 13) (st' := [.ref 65]) rfl rfl ?_
    refine y_pure (pc' := 14) (st' := [.int x1, .ref 65]) rfl rfl ?_
    refine y_pure (pc' := 15) (st' := [.int (nI 3), .int x1, .ref 65]) rfl rfl ?_
    obtain ⟨M4, he3, h⟩ := zC0_inv h
    refine y_callV (pc' := 18) (y := zmT_fail) (a' := [.int x1, .int (nI 3)]) (st' := []) rfl rfl rfl rfl rfl (zrecv_o (o := 6) zc_65 rfl) rfl he3 rfl rfl ?_
    refine y_pure (pc' := 19) (st' := [.ref 65]) rfl rfl ?_
    refine y_getf (pc' := 22) (v := .int (M4.1 65 4)) rfl rfl rfl zc_65 rfl rfl ?_
    refine y_pure (pc' := 23) (st' := [.int (-1 : Int32), .int (M4.1 65 4)]) rfl rfl ?_
    rcases zif_inv h with ⟨hc5, h⟩ | ⟨hc5, h⟩
    · refine y_cmp (pc' := 26) rfl rfl (zc_neF hc5) rfl ?_
      refine y_pure (pc' := 27) (st' := [.int (nI 1)]) rfl rfl ?_
      refine y_pure (pc' := 31) rfl rfl ?_
      exact y_retZ rfl rfl (by decide) h
    · refine y_cmp (pc' := 30) rfl rfl (zc_neT hc5) rfl ?_
      refine y_pure (pc' := 31) (st' := [.int (nI 0)]) rfl rfl ?_
      exact y_retZ rfl rfl (by decide) h
noncomputable def h_T_readBlocks_2 (d : Nat) (x1 : Int32) (M : ZM) : Option ZR := zEx0 (zEv d) zmT_readBlocks (2, [(0, .ref 65), (1, .int x1)], [], M)
noncomputable def h_T_readBlocks_61 (d : Nat) (x1 : Int32) (x2 : Int32) (M : ZM) : Option ZR := zEx0 (zEv d) zmT_readBlocks (61, [(0, .ref 65), (1, .int x1), (2, .int x2)], [], M)
theorem e_T_readBlocks_2 {d : Nat} {x1 : Int32} {M : ZM} {r : ZR}  (h : (if x1 < (nI 400) then (if (M.1 65 4) = (-1 : Int32) then zC1 (zEv d zmT_readOpenCell [.ref 65] M) (fun v5 M4 => (if (M4.1 65 4) = (-1 : Int32) then zC1 (zEv d zmB_cagesOf [.ref 67, .int v5] M4) (fun v9 M8 => (if v9 = (nI 0) then zC1 (zEv d zmB_isGiven [.ref 67, .int v5] M8) (fun v13 M12 => (if v13 = (nI 0) then h_T_readBlocks_61 d x1 v5 M12 else zC0 (zEv d zmT_fail [.ref 65, .int (M12.1 65 5), .int (nI 2)] M12) (fun M16 => h_T_readBlocks_61 d x1 v5 M16))) else zC0 (zEv d zmT_fail [.ref 65, .int (M8.1 65 5), .int (nI 2)] M8) (fun M18 => h_T_readBlocks_61 d x1 v5 M18))) else h_T_readBlocks_61 d x1 v5 M4)) else some (none, M)) else some (none, M)) = some r) : h_T_readBlocks_2 d x1 M = some r := by
  show zEx0 (zEv d) zmT_readBlocks (2, [(0, .ref 65), (1, .int x1)], [], M) = some r
  refine y_pure (pc' := 3) (st' := [.int x1]) rfl rfl ?_
  refine y_pure (pc' := 6) (st' := [.int (nI 400), .int x1]) rfl rfl ?_
  rcases zif_inv h with ⟨hc1, h⟩ | ⟨hc1, h⟩
  · refine y_cmp (pc' := 9) rfl rfl (zc_geF hc1) rfl ?_
    refine y_pure (pc' := 10) (st' := [.ref 65]) rfl rfl ?_
    refine y_getf (pc' := 13) (v := .int (M.1 65 4)) rfl rfl rfl zc_65 rfl rfl ?_
    refine y_pure (pc' := 14) (st' := [.int (-1 : Int32), .int (M.1 65 4)]) rfl rfl ?_
    rcases zif_inv h with ⟨hc2, h⟩ | ⟨hc2, h⟩
    · refine y_cmp (pc' := 17) rfl rfl (zc_neF hc2) rfl ?_
      refine y_pure (pc' := 18) (st' := [.ref 65]) rfl rfl ?_
      obtain ⟨v5, M4, he3, h⟩ := zC1_inv h
      refine y_callV (pc' := 21) (y := zmT_readOpenCell) (a' := []) (st' := []) rfl rfl rfl rfl rfl (zrecv_o (o := 6) zc_65 rfl) rfl he3 rfl rfl ?_
      refine y_pure (pc' := 22) (ls' := [(0, .ref 65), (1, .int x1), (2, .int v5)]) (st' := []) rfl rfl ?_
      refine y_pure (pc' := 23) (st' := [.ref 65]) rfl rfl ?_
      refine y_getf (pc' := 26) (v := .int (M4.1 65 4)) rfl rfl rfl zc_65 rfl rfl ?_
      refine y_pure (pc' := 27) (st' := [.int (-1 : Int32), .int (M4.1 65 4)]) rfl rfl ?_
      rcases zif_inv h with ⟨hc6, h⟩ | ⟨hc6, h⟩
      · refine y_cmp (pc' := 30) rfl rfl (zc_neF hc6) rfl ?_
        refine y_pure (pc' := 31) (st' := [.ref 65]) rfl rfl ?_
        refine y_getf (pc' := 34) (v := .ref 67) rfl rfl rfl zc_65 rfl rfl ?_
        refine y_pure (pc' := 35) (st' := [.int v5, .ref 67]) rfl rfl ?_
        obtain ⟨v9, M8, he7, h⟩ := zC1_inv h
        refine y_callV (pc' := 38) (y := zmB_cagesOf) (a' := [.int v5]) (st' := []) rfl rfl rfl rfl rfl (zrecv_o (o := 0) zc_67 rfl) rfl he7 rfl rfl ?_
        rcases zif_inv h with ⟨hc10, h⟩ | ⟨hc10, h⟩
        · refine y_cnd (pc' := 41) rfl rfl (zc_neF hc10) rfl ?_
          refine y_pure (pc' := 42) (st' := [.ref 65]) rfl rfl ?_
          refine y_getf (pc' := 45) (v := .ref 67) rfl rfl rfl zc_65 rfl rfl ?_
          refine y_pure (pc' := 46) (st' := [.int v5, .ref 67]) rfl rfl ?_
          obtain ⟨v13, M12, he11, h⟩ := zC1_inv h
          refine y_callV (pc' := 49) (y := zmB_isGiven) (a' := [.int v5]) (st' := []) rfl rfl rfl rfl rfl (zrecv_o (o := 0) zc_67 rfl) rfl he11 rfl rfl ?_
          rcases zif_inv h with ⟨hc14, h⟩ | ⟨hc14, h⟩
          · refine y_cnd (pc' := 61) rfl rfl (zc_eqT hc14) rfl ?_
            refine zEx_sub ?_ h
            exact ⟨rfl, rfl, rfl, trivial⟩
          · refine y_cnd (pc' := 52) rfl rfl (zc_eqF hc14) rfl ?_
            refine y_pure (pc' := 53) (st' := [.ref 65]) rfl rfl ?_
            refine y_pure (pc' := 54) (st' := [.ref 65, .ref 65]) rfl rfl ?_
            refine y_getf (pc' := 57) (v := .int (M12.1 65 5)) rfl rfl rfl zc_65 rfl rfl ?_
            refine y_pure (pc' := 58) (st' := [.int (nI 2), .int (M12.1 65 5), .ref 65]) rfl rfl ?_
            obtain ⟨M16, he15, h⟩ := zC0_inv h
            refine y_callV (pc' := 61) (y := zmT_fail) (a' := [.int (M12.1 65 5), .int (nI 2)]) (st' := []) rfl rfl rfl rfl rfl (zrecv_o (o := 6) zc_65 rfl) rfl he15 rfl rfl ?_
            refine zEx_sub ?_ h
            exact ⟨rfl, rfl, rfl, trivial⟩
        · refine y_cnd (pc' := 52) rfl rfl (zc_neT hc10) rfl ?_
          refine y_pure (pc' := 53) (st' := [.ref 65]) rfl rfl ?_
          refine y_pure (pc' := 54) (st' := [.ref 65, .ref 65]) rfl rfl ?_
          refine y_getf (pc' := 57) (v := .int (M8.1 65 5)) rfl rfl rfl zc_65 rfl rfl ?_
          refine y_pure (pc' := 58) (st' := [.int (nI 2), .int (M8.1 65 5), .ref 65]) rfl rfl ?_
          obtain ⟨M18, he17, h⟩ := zC0_inv h
          refine y_callV (pc' := 61) (y := zmT_fail) (a' := [.int (M8.1 65 5), .int (nI 2)]) (st' := []) rfl rfl rfl rfl rfl (zrecv_o (o := 6) zc_65 rfl) rfl he17 rfl rfl ?_
          refine zEx_sub ?_ h
          exact ⟨rfl, rfl, rfl, trivial⟩
      · refine y_cmp (pc' := 61) rfl rfl (zc_neT hc6) rfl ?_
        refine zEx_sub ?_ h
        exact ⟨rfl, rfl, rfl, trivial⟩
    · refine y_cmp (pc' := 91) rfl rfl (zc_neT hc2) rfl ?_
      exact y_ret rfl rfl rfl rfl h
  · refine y_cmp (pc' := 91) rfl rfl (zc_geT hc1) rfl ?_
    exact y_ret rfl rfl rfl rfl h
theorem e_T_readBlocks_61 {d : Nat} {x1 : Int32} {x2 : Int32} {M : ZM} {r : ZR}  (h : (if (M.1 65 4) = (-1 : Int32) then zC0 (zEv d zmB_block [.ref 67, .int x2] M) (fun M3 => zC1 (zEv d zmT_isPartEnd [.ref 65] M3) (fun v6 M5 => (if v6 = (nI 0) then h_T_readBlocks_2 d (x1 + (nI 1)) M5 else some (none, M5)))) else zC1 (zEv d zmT_isPartEnd [.ref 65] M) (fun v10 M9 => (if v10 = (nI 0) then h_T_readBlocks_2 d (x1 + (nI 1)) M9 else some (none, M9)))) = some r) : h_T_readBlocks_61 d x1 x2 M = some r := by
  show zEx0 (zEv d) zmT_readBlocks (61, [(0, .ref 65), (1, .int x1), (2, .int x2)], [], M) = some r
  refine y_pure (pc' := 62) (st' := [.ref 65]) rfl rfl ?_
  refine y_getf (pc' := 65) (v := .int (M.1 65 4)) rfl rfl rfl zc_65 rfl rfl ?_
  refine y_pure (pc' := 66) (st' := [.int (-1 : Int32), .int (M.1 65 4)]) rfl rfl ?_
  rcases zif_inv h with ⟨hc1, h⟩ | ⟨hc1, h⟩
  · refine y_cmp (pc' := 69) rfl rfl (zc_neF hc1) rfl ?_
    refine y_pure (pc' := 70) (st' := [.ref 65]) rfl rfl ?_
    refine y_getf (pc' := 73) (v := .ref 67) rfl rfl rfl zc_65 rfl rfl ?_
    refine y_pure (pc' := 74) (st' := [.int x2, .ref 67]) rfl rfl ?_
    obtain ⟨M3, he2, h⟩ := zC0_inv h
    refine y_callV (pc' := 77) (y := zmB_block) (a' := [.int x2]) (st' := []) rfl rfl rfl rfl rfl (zrecv_o (o := 0) zc_67 rfl) rfl he2 rfl rfl ?_
    refine y_pure (pc' := 78) (st' := [.ref 65]) rfl rfl ?_
    obtain ⟨v6, M5, he4, h⟩ := zC1_inv h
    refine y_callV (pc' := 81) (y := zmT_isPartEnd) (a' := []) (st' := []) rfl rfl rfl rfl rfl (zrecv_o (o := 6) zc_65 rfl) rfl he4 rfl rfl ?_
    rcases zif_inv h with ⟨hc7, h⟩ | ⟨hc7, h⟩
    · refine y_cnd (pc' := 85) rfl rfl (zc_eqT hc7) rfl ?_
      refine y_pure (pc' := 88) (ls' := [(0, .ref 65), (1, .int (x1 + (nI 1))), (2, .int x2)]) (st' := []) rfl rfl ?_
      refine y_pure (pc' := 2) rfl rfl ?_
      refine zEx_sub ?_ h
      exact ⟨rfl, rfl, trivial⟩
    · refine y_cnd (pc' := 84) rfl rfl (zc_eqF hc7) rfl ?_
      exact y_ret rfl rfl rfl rfl h
  · refine y_cmp (pc' := 77) rfl rfl (zc_neT hc1) rfl ?_
    refine y_pure (pc' := 78) (st' := [.ref 65]) rfl rfl ?_
    obtain ⟨v10, M9, he8, h⟩ := zC1_inv h
    refine y_callV (pc' := 81) (y := zmT_isPartEnd) (a' := []) (st' := []) rfl rfl rfl rfl rfl (zrecv_o (o := 6) zc_65 rfl) rfl he8 rfl rfl ?_
    rcases zif_inv h with ⟨hc11, h⟩ | ⟨hc11, h⟩
    · refine y_cnd (pc' := 85) rfl rfl (zc_eqT hc11) rfl ?_
      refine y_pure (pc' := 88) (ls' := [(0, .ref 65), (1, .int (x1 + (nI 1))), (2, .int x2)]) (st' := []) rfl rfl ?_
      refine y_pure (pc' := 2) rfl rfl ?_
      refine zEx_sub ?_ h
      exact ⟨rfl, rfl, trivial⟩
    · refine y_cnd (pc' := 84) rfl rfl (zc_eqF hc11) rfl ?_
      exact y_ret rfl rfl rfl rfl h
theorem e_T_readBlocks {d : Nat}  {M : ZM} {r : ZR}  (h : h_T_readBlocks_2 d (nI 0) M = some r) : zEv (d + 1) zmT_readBlocks [.ref 65] M = some r := by
  rw [zEv_succ]
  show zEx0 (zEv d) zmT_readBlocks (0, [(0, .ref 65)], [], M) = some r
  refine y_pure (pc' := 1) (st' := [.int (nI 0)]) rfl rfl ?_
  refine y_pure (pc' := 2) (ls' := [(0, .ref 65), (1, .int (nI 0))]) (st' := []) rfl rfl ?_
  refine zEx_sub ?_ h
  exact ⟨rfl, rfl, trivial⟩
noncomputable def h_T_readGiven_33 (d : Nat) (x1 : Int32) (M : ZM) : Option ZR := zEx0 (zEv d) zmT_readGiven (33, [(0, .ref 65), (1, .int x1)], [], M)
theorem e_T_readGiven_33 {d : Nat} {x1 : Int32} {M : ZM} {r : ZR}  (h : zC1 (zEv d zmT_readNumber [.ref 65, .int (nI 1), .int (M.1 67 2)] M) (fun v3 M2 => (if (M2.1 65 4) = (-1 : Int32) then zC0 (zEv d zmB_giveDigit [.ref 67, .int x1, .int v3] M2) (fun M6 => some (none, M6)) else some (none, M2))) = some r) : h_T_readGiven_33 d x1 M = some r := by
  show zEx0 (zEv d) zmT_readGiven (33, [(0, .ref 65), (1, .int x1)], [], M) = some r
  refine y_pure (pc' := 34) (st' := [.ref 65]) rfl rfl ?_
  refine y_pure (pc' := 35) (st' := [.int (nI 1), .ref 65]) rfl rfl ?_
  refine y_pure (pc' := 36) (st' := [.ref 65, .int (nI 1), .ref 65]) rfl rfl ?_
  refine y_getf (pc' := 39) (v := .ref 67) rfl rfl rfl zc_65 rfl rfl ?_
  refine y_getf (pc' := 42) (v := .int (M.1 67 2)) rfl rfl rfl zc_67 rfl rfl ?_
  obtain ⟨v3, M2, he1, h⟩ := zC1_inv h
  refine y_callV (pc' := 45) (y := zmT_readNumber) (a' := [.int (nI 1), .int (M.1 67 2)]) (st' := []) rfl rfl rfl rfl rfl (zrecv_o (o := 6) zc_65 rfl) rfl he1 rfl rfl ?_
  refine y_pure (pc' := 46) (ls' := [(0, .ref 65), (1, .int x1), (2, .int v3)]) (st' := []) rfl rfl ?_
  refine y_pure (pc' := 47) (st' := [.ref 65]) rfl rfl ?_
  refine y_getf (pc' := 50) (v := .int (M2.1 65 4)) rfl rfl rfl zc_65 rfl rfl ?_
  refine y_pure (pc' := 51) (st' := [.int (-1 : Int32), .int (M2.1 65 4)]) rfl rfl ?_
  rcases zif_inv h with ⟨hc4, h⟩ | ⟨hc4, h⟩
  · refine y_cmp (pc' := 54) rfl rfl (zc_neF hc4) rfl ?_
    refine y_pure (pc' := 55) (st' := [.ref 65]) rfl rfl ?_
    refine y_getf (pc' := 58) (v := .ref 67) rfl rfl rfl zc_65 rfl rfl ?_
    refine y_pure (pc' := 59) (st' := [.int x1, .ref 67]) rfl rfl ?_
    refine y_pure (pc' := 60) (st' := [.int v3, .int x1, .ref 67]) rfl rfl ?_
    obtain ⟨M6, he5, h⟩ := zC0_inv h
    refine y_callV (pc' := 63) (y := zmB_giveDigit) (a' := [.int x1, .int v3]) (st' := []) rfl rfl rfl rfl rfl (zrecv_o (o := 0) zc_67 rfl) rfl he5 rfl rfl ?_
    exact y_ret rfl rfl rfl rfl h
  · refine y_cmp (pc' := 63) rfl rfl (zc_neT hc4) rfl ?_
    exact y_ret rfl rfl rfl rfl h
theorem e_T_readGiven {d : Nat}  {M : ZM} {r : ZR}  (h : zC1 (zEv d zmT_readOpenCell [.ref 65] M) (fun v3 M2 => (if (M2.1 65 4) = (-1 : Int32) then zC1 (zEv d zmB_isGiven [.ref 67, .int v3] M2) (fun v7 M6 => (if v7 = (nI 0) then h_T_readGiven_33 d v3 M6 else zC0 (zEv d zmT_fail [.ref 65, .int (M6.1 65 5), .int (nI 2)] M6) (fun M10 => h_T_readGiven_33 d v3 M10))) else h_T_readGiven_33 d v3 M2)) = some r) : zEv (d + 1) zmT_readGiven [.ref 65] M = some r := by
  rw [zEv_succ]
  show zEx0 (zEv d) zmT_readGiven (0, [(0, .ref 65)], [], M) = some r
  refine y_pure (pc' := 1) (st' := [.ref 65]) rfl rfl ?_
  obtain ⟨v3, M2, he1, h⟩ := zC1_inv h
  refine y_callV (pc' := 4) (y := zmT_readOpenCell) (a' := []) (st' := []) rfl rfl rfl rfl rfl (zrecv_o (o := 6) zc_65 rfl) rfl he1 rfl rfl ?_
  refine y_pure (pc' := 5) (ls' := [(0, .ref 65), (1, .int v3)]) (st' := []) rfl rfl ?_
  refine y_pure (pc' := 6) (st' := [.ref 65]) rfl rfl ?_
  refine y_getf (pc' := 9) (v := .int (M2.1 65 4)) rfl rfl rfl zc_65 rfl rfl ?_
  refine y_pure (pc' := 10) (st' := [.int (-1 : Int32), .int (M2.1 65 4)]) rfl rfl ?_
  rcases zif_inv h with ⟨hc4, h⟩ | ⟨hc4, h⟩
  · refine y_cmp (pc' := 13) rfl rfl (zc_neF hc4) rfl ?_
    refine y_pure (pc' := 14) (st' := [.ref 65]) rfl rfl ?_
    refine y_getf (pc' := 17) (v := .ref 67) rfl rfl rfl zc_65 rfl rfl ?_
    refine y_pure (pc' := 18) (st' := [.int v3, .ref 67]) rfl rfl ?_
    obtain ⟨v7, M6, he5, h⟩ := zC1_inv h
    refine y_callV (pc' := 21) (y := zmB_isGiven) (a' := [.int v3]) (st' := []) rfl rfl rfl rfl rfl (zrecv_o (o := 0) zc_67 rfl) rfl he5 rfl rfl ?_
    rcases zif_inv h with ⟨hc8, h⟩ | ⟨hc8, h⟩
    · refine y_cnd (pc' := 33) rfl rfl (zc_eqT hc8) rfl ?_
      refine zEx_sub ?_ h
      exact ⟨rfl, rfl, trivial⟩
    · refine y_cnd (pc' := 24) rfl rfl (zc_eqF hc8) rfl ?_
      refine y_pure (pc' := 25) (st' := [.ref 65]) rfl rfl ?_
      refine y_pure (pc' := 26) (st' := [.ref 65, .ref 65]) rfl rfl ?_
      refine y_getf (pc' := 29) (v := .int (M6.1 65 5)) rfl rfl rfl zc_65 rfl rfl ?_
      refine y_pure (pc' := 30) (st' := [.int (nI 2), .int (M6.1 65 5), .ref 65]) rfl rfl ?_
      obtain ⟨M10, he9, h⟩ := zC0_inv h
      refine y_callV (pc' := 33) (y := zmT_fail) (a' := [.int (M6.1 65 5), .int (nI 2)]) (st' := []) rfl rfl rfl rfl rfl (zrecv_o (o := 6) zc_65 rfl) rfl he9 rfl rfl ?_
      refine zEx_sub ?_ h
      exact ⟨rfl, rfl, trivial⟩
  · refine y_cmp (pc' := 33) rfl rfl (zc_neT hc4) rfl ?_
    refine zEx_sub ?_ h
    exact ⟨rfl, rfl, trivial⟩
noncomputable def h_T_readCage_16 (d : Nat) (x1 : Int32) (x2 : Int64) (x4 : Int32) (M : ZM) : Option ZR := zEx0 (zEv d) zmT_readCage (16, [(0, .ref 65), (1, .int x1), (2, .long x2), (4, .int x4)], [], M)
noncomputable def h_T_readCage_55 (d : Nat) (x1 : Int32) (x2 : Int64) (x4 : Int32) (M : ZM) : Option ZR := zEx0 (zEv d) zmT_readCage (55, [(0, .ref 65), (1, .int x1), (2, .long x2), (4, .int x4)], [], M)
noncomputable def h_T_readCage_124 (d : Nat) (x1 : Int32) (x2 : Int64) (M : ZM) : Option ZR := zEx0 (zEv d) zmT_readCage (124, [(0, .ref 65), (1, .int x1), (2, .long x2)], [], M)
noncomputable def h_T_readCage_89 (d : Nat) (x1 : Int32) (x2 : Int64) (x4 : Int32) (x5 : Int32) (M : ZM) : Option ZR := zEx0 (zEv d) zmT_readCage (89, [(0, .ref 65), (1, .int x1), (2, .long x2), (4, .int x4), (5, .int x5)], [], M)
theorem e_T_readCage_16 {d : Nat} {x1 : Int32} {x2 : Int64} {x4 : Int32} {M : ZM} {r : ZR}  (h : (if x4 < (nI 400) then (if (M.1 65 4) = (-1 : Int32) then (if x4 < (nI 6) then h_T_readCage_55 d x1 x2 x4 M else zC1 (zEv d zmT_isColumn [.ref 65] M) (fun v6 M5 => (if v6 = (nI 0) then h_T_readCage_55 d x1 x2 x4 M5 else zC0 (zEv d zmT_fail [.ref 65, .int (M5.1 65 3), .int (nI 3)] M5) (fun M9 => h_T_readCage_55 d x1 x2 x4 M9)))) else h_T_readCage_124 d x1 x2 M) else h_T_readCage_124 d x1 x2 M) = some r) : h_T_readCage_16 d x1 x2 x4 M = some r := by
  show zEx0 (zEv d) zmT_readCage (16, [(0, .ref 65), (1, .int x1), (2, .long x2), (4, .int x4)], [], M) = some r
  refine y_pure (pc' := 18) (st' := [.int x4]) rfl rfl ?_
  refine y_pure (pc' := 21) (st' := [.int (nI 400), .int x4]) rfl rfl ?_
  rcases zif_inv h with ⟨hc1, h⟩ | ⟨hc1, h⟩
  · refine y_cmp (pc' := 24) rfl rfl (zc_geF hc1) rfl ?_
    refine y_pure (pc' := 25) (st' := [.ref 65]) rfl rfl ?_
    refine y_getf (pc' := 28) (v := .int (M.1 65 4)) rfl rfl rfl zc_65 rfl rfl ?_
    refine y_pure (pc' := 29) (st' := [.int (-1 : Int32), .int (M.1 65 4)]) rfl rfl ?_
    rcases zif_inv h with ⟨hc2, h⟩ | ⟨hc2, h⟩
    · refine y_cmp (pc' := 32) rfl rfl (zc_neF hc2) rfl ?_
      refine y_pure (pc' := 34) (st' := [.int x4]) rfl rfl ?_
      refine y_pure (pc' := 36) (st' := [.int (nI 6), .int x4]) rfl rfl ?_
      rcases zif_inv h with ⟨hc3, h⟩ | ⟨hc3, h⟩
      · refine y_cmp (pc' := 55) rfl rfl (zc_ltT hc3) rfl ?_
        refine zEx_sub ?_ h
        exact ⟨rfl, rfl, rfl, rfl, trivial⟩
      · refine y_cmp (pc' := 39) rfl rfl (zc_ltF hc3) rfl ?_
        refine y_pure (pc' := 40) (st' := [.ref 65]) rfl rfl ?_
        obtain ⟨v6, M5, he4, h⟩ := zC1_inv h
        refine y_callV (pc' := 43) (y := zmT_isColumn) (a' := []) (st' := []) rfl rfl rfl rfl rfl (zrecv_o (o := 6) zc_65 rfl) rfl he4 rfl rfl ?_
        rcases zif_inv h with ⟨hc7, h⟩ | ⟨hc7, h⟩
        · refine y_cnd (pc' := 55) rfl rfl (zc_eqT hc7) rfl ?_
          refine zEx_sub ?_ h
          exact ⟨rfl, rfl, rfl, rfl, trivial⟩
        · refine y_cnd (pc' := 46) rfl rfl (zc_eqF hc7) rfl ?_
          refine y_pure (pc' := 47) (st' := [.ref 65]) rfl rfl ?_
          refine y_pure (pc' := 48) (st' := [.ref 65, .ref 65]) rfl rfl ?_
          refine y_getf (pc' := 51) (v := .int (M5.1 65 3)) rfl rfl rfl zc_65 rfl rfl ?_
          refine y_pure (pc' := 52) (st' := [.int (nI 3), .int (M5.1 65 3), .ref 65]) rfl rfl ?_
          obtain ⟨M9, he8, h⟩ := zC0_inv h
          refine y_callV (pc' := 55) (y := zmT_fail) (a' := [.int (M5.1 65 3), .int (nI 3)]) (st' := []) rfl rfl rfl rfl rfl (zrecv_o (o := 6) zc_65 rfl) rfl he8 rfl rfl ?_
          refine zEx_sub ?_ h
          exact ⟨rfl, rfl, rfl, rfl, trivial⟩
    · refine y_cmp (pc' := 124) rfl rfl (zc_neT hc2) rfl ?_
      refine zEx_sub ?_ h
      exact ⟨rfl, rfl, rfl, trivial⟩
  · refine y_cmp (pc' := 124) rfl rfl (zc_geT hc1) rfl ?_
    refine zEx_sub ?_ h
    exact ⟨rfl, rfl, rfl, trivial⟩
theorem e_T_readCage_55 {d : Nat} {x1 : Int32} {x2 : Int64} {x4 : Int32} {M : ZM} {r : ZR}  (h : zC1 (zEv d zmT_readOpenCell [.ref 65] M) (fun v3 M2 => (if (M2.1 65 4) = (-1 : Int32) then (if (lg_cmp ((x2 >>> (Int32.toInt64 v3 &&& 63)) &&& (nJ 1)) (nJ 1)) = (nI 0) then zC0 (zEv d zmT_fail [.ref 65, .int (M2.1 65 5), .int (nI 2)] M2) (fun M7 => h_T_readCage_89 d x1 x2 x4 v3 M7) else h_T_readCage_89 d x1 x2 x4 v3 M2) else h_T_readCage_89 d x1 x2 x4 v3 M2)) = some r) : h_T_readCage_55 d x1 x2 x4 M = some r := by
  show zEx0 (zEv d) zmT_readCage (55, [(0, .ref 65), (1, .int x1), (2, .long x2), (4, .int x4)], [], M) = some r
  refine y_pure (pc' := 56) (st' := [.ref 65]) rfl rfl ?_
  obtain ⟨v3, M2, he1, h⟩ := zC1_inv h
  refine y_callV (pc' := 59) (y := zmT_readOpenCell) (a' := []) (st' := []) rfl rfl rfl rfl rfl (zrecv_o (o := 6) zc_65 rfl) rfl he1 rfl rfl ?_
  refine y_pure (pc' := 61) (ls' := [(0, .ref 65), (1, .int x1), (2, .long x2), (4, .int x4), (5, .int v3)]) (st' := []) rfl rfl ?_
  refine y_pure (pc' := 62) (st' := [.ref 65]) rfl rfl ?_
  refine y_getf (pc' := 65) (v := .int (M2.1 65 4)) rfl rfl rfl zc_65 rfl rfl ?_
  refine y_pure (pc' := 66) (st' := [.int (-1 : Int32), .int (M2.1 65 4)]) rfl rfl ?_
  rcases zif_inv h with ⟨hc4, h⟩ | ⟨hc4, h⟩
  · refine y_cmp (pc' := 69) rfl rfl (zc_neF hc4) rfl ?_
    refine y_pure (pc' := 70) (st' := [.long x2]) rfl rfl ?_
    refine y_pure (pc' := 72) (st' := [.int v3, .long x2]) rfl rfl ?_
    refine y_pure (pc' := 73) (st' := [.long (x2 >>> (Int32.toInt64 v3 &&& 63))]) rfl rfl ?_
    refine y_pure (pc' := 74) (st' := [.long (nJ 1), .long (x2 >>> (Int32.toInt64 v3 &&& 63))]) rfl rfl ?_
    refine y_pure (pc' := 75) (st' := [.long ((x2 >>> (Int32.toInt64 v3 &&& 63)) &&& (nJ 1))]) rfl rfl ?_
    refine y_pure (pc' := 76) (st' := [.long (nJ 1), .long ((x2 >>> (Int32.toInt64 v3 &&& 63)) &&& (nJ 1))]) rfl rfl ?_
    refine y_pure (pc' := 77) (st' := [.int (lg_cmp ((x2 >>> (Int32.toInt64 v3 &&& 63)) &&& (nJ 1)) (nJ 1))]) rfl rfl ?_
    rcases zif_inv h with ⟨hc5, h⟩ | ⟨hc5, h⟩
    · refine y_cnd (pc' := 80) rfl rfl (zc_neF hc5) rfl ?_
      refine y_pure (pc' := 81) (st' := [.ref 65]) rfl rfl ?_
      refine y_pure (pc' := 82) (st' := [.ref 65, .ref 65]) rfl rfl ?_
      refine y_getf (pc' := 85) (v := .int (M2.1 65 5)) rfl rfl rfl zc_65 rfl rfl ?_
      refine y_pure (pc' := 86) (st' := [.int (nI 2), .int (M2.1 65 5), .ref 65]) rfl rfl ?_
      obtain ⟨M7, he6, h⟩ := zC0_inv h
      refine y_callV (pc' := 89) (y := zmT_fail) (a' := [.int (M2.1 65 5), .int (nI 2)]) (st' := []) rfl rfl rfl rfl rfl (zrecv_o (o := 6) zc_65 rfl) rfl he6 rfl rfl ?_
      refine zEx_sub ?_ h
      exact ⟨rfl, rfl, rfl, rfl, rfl, trivial⟩
    · refine y_cnd (pc' := 89) rfl rfl (zc_neT hc5) rfl ?_
      refine zEx_sub ?_ h
      exact ⟨rfl, rfl, rfl, rfl, rfl, trivial⟩
  · refine y_cmp (pc' := 89) rfl rfl (zc_neT hc4) rfl ?_
    refine zEx_sub ?_ h
    exact ⟨rfl, rfl, rfl, rfl, rfl, trivial⟩
theorem e_T_readCage_124 {d : Nat} {x1 : Int32} {x2 : Int64} {M : ZM} {r : ZR}  (h : (if (M.1 65 4) = (-1 : Int32) then zC0 (zEv d zmB_addCage [.ref 67, .int (M.1 65 6), .int (M.1 65 7), .int x1, .long x2] M) (fun M3 => some (none, M3)) else some (none, M)) = some r) : h_T_readCage_124 d x1 x2 M = some r := by
  show zEx0 (zEv d) zmT_readCage (124, [(0, .ref 65), (1, .int x1), (2, .long x2)], [], M) = some r
  refine y_pure (pc' := 125) (st' := [.ref 65]) rfl rfl ?_
  refine y_getf (pc' := 128) (v := .int (M.1 65 4)) rfl rfl rfl zc_65 rfl rfl ?_
  refine y_pure (pc' := 129) (st' := [.int (-1 : Int32), .int (M.1 65 4)]) rfl rfl ?_
  rcases zif_inv h with ⟨hc1, h⟩ | ⟨hc1, h⟩
  · refine y_cmp (pc' := 132) rfl rfl (zc_neF hc1) rfl ?_
    refine y_pure (pc' := 133) (st' := [.ref 65]) rfl rfl ?_
    refine y_getf (pc' := 136) (v := .ref 67) rfl rfl rfl zc_65 rfl rfl ?_
    refine y_pure (pc' := 137) (st' := [.ref 65, .ref 67]) rfl rfl ?_
    refine y_getf (pc' := 140) (v := .int (M.1 65 6)) rfl rfl rfl zc_65 rfl rfl ?_
    refine y_pure (pc' := 141) (st' := [.ref 65, .int (M.1 65 6), .ref 67]) rfl rfl ?_
    refine y_getf (pc' := 144) (v := .int (M.1 65 7)) rfl rfl rfl zc_65 rfl rfl ?_
    refine y_pure (pc' := 145) (st' := [.int x1, .int (M.1 65 7), .int (M.1 65 6), .ref 67]) rfl rfl ?_
    refine y_pure (pc' := 146) (st' := [.long x2, .int x1, .int (M.1 65 7), .int (M.1 65 6), .ref 67]) rfl rfl ?_
    obtain ⟨M3, he2, h⟩ := zC0_inv h
    refine y_callV (pc' := 149) (y := zmB_addCage) (a' := [.int (M.1 65 6), .int (M.1 65 7), .int x1, .long x2]) (st' := []) rfl rfl rfl rfl rfl (zrecv_o (o := 0) zc_67 rfl) rfl he2 rfl rfl ?_
    exact y_ret rfl rfl rfl rfl h
  · refine y_cmp (pc' := 149) rfl rfl (zc_neT hc1) rfl ?_
    exact y_ret rfl rfl rfl rfl h
theorem e_T_readCage_89 {d : Nat} {x1 : Int32} {x2 : Int64} {x4 : Int32} {x5 : Int32} {M : ZM} {r : ZR}  (h : (if (M.1 65 4) = (-1 : Int32) then zC1 (zEv d zmT_isPartEnd [.ref 65] M) (fun v4 M3 => (if v4 = (nI 0) then h_T_readCage_16 d x1 (x2 ||| ((nJ 1) <<< (Int32.toInt64 x5 &&& 63))) (x4 + (nI 1)) M3 else h_T_readCage_124 d x1 (x2 ||| ((nJ 1) <<< (Int32.toInt64 x5 &&& 63))) M3)) else zC1 (zEv d zmT_isPartEnd [.ref 65] M) (fun v8 M7 => (if v8 = (nI 0) then h_T_readCage_16 d x1 (x2 ||| (nJ 0)) (x4 + (nI 1)) M7 else h_T_readCage_124 d x1 (x2 ||| (nJ 0)) M7))) = some r) : h_T_readCage_89 d x1 x2 x4 x5 M = some r := by
  show zEx0 (zEv d) zmT_readCage (89, [(0, .ref 65), (1, .int x1), (2, .long x2), (4, .int x4), (5, .int x5)], [], M) = some r
  refine y_pure (pc' := 90) (st' := [.long x2]) rfl rfl ?_
  refine y_pure (pc' := 91) (st' := [.ref 65, .long x2]) rfl rfl ?_
  refine y_getf (pc' := 94) (v := .int (M.1 65 4)) rfl rfl rfl zc_65 rfl rfl ?_
  refine y_pure (pc' := 95) (st' := [.int (-1 : Int32), .int (M.1 65 4), .long x2]) rfl rfl ?_
  rcases zif_inv h with ⟨hc1, h⟩ | ⟨hc1, h⟩
  · refine y_cmp (pc' := 98) rfl rfl (zc_neF hc1) rfl ?_
    refine y_pure (pc' := 99) (st' := [.long (nJ 1), .long x2]) rfl rfl ?_
    refine y_pure (pc' := 101) (st' := [.int x5, .long (nJ 1), .long x2]) rfl rfl ?_
    refine y_pure (pc' := 102) (st' := [.long ((nJ 1) <<< (Int32.toInt64 x5 &&& 63)), .long x2]) rfl rfl ?_
    refine y_pure (pc' := 106) rfl rfl ?_
    refine y_pure (pc' := 107) (st' := [.long (x2 ||| ((nJ 1) <<< (Int32.toInt64 x5 &&& 63)))]) rfl rfl ?_
    refine y_pure (pc' := 108) (ls' := [(0, .ref 65), (1, .int x1), (2, .long (x2 ||| ((nJ 1) <<< (Int32.toInt64 x5 &&& 63)))), (4, .int x4), (5, .int x5)]) (st' := []) rfl rfl ?_
    refine y_pure (pc' := 109) (st' := [.ref 65]) rfl rfl ?_
    obtain ⟨v4, M3, he2, h⟩ := zC1_inv h
    refine y_callV (pc' := 112) (y := zmT_isPartEnd) (a' := []) (st' := []) rfl rfl rfl rfl rfl (zrecv_o (o := 6) zc_65 rfl) rfl he2 rfl rfl ?_
    rcases zif_inv h with ⟨hc5, h⟩ | ⟨hc5, h⟩
    · refine y_cnd (pc' := 118) rfl rfl (zc_eqT hc5) rfl ?_
      refine y_pure (pc' := 121) (ls' := [(0, .ref 65), (1, .int x1), (2, .long (x2 ||| ((nJ 1) <<< (Int32.toInt64 x5 &&& 63)))), (4, .int (x4 + (nI 1))), (5, .int x5)]) (st' := []) rfl rfl ?_
      refine y_pure (pc' := 16) rfl rfl ?_
      refine zEx_sub ?_ h
      exact ⟨rfl, rfl, rfl, rfl, trivial⟩
    · refine y_cnd (pc' := 115) rfl rfl (zc_eqF hc5) rfl ?_
      refine y_pure (pc' := 124) rfl rfl ?_
      refine zEx_sub ?_ h
      exact ⟨rfl, rfl, rfl, trivial⟩
  · refine y_cmp (pc' := 105) rfl rfl (zc_neT hc1) rfl ?_
    refine y_pure (pc' := 106) (st' := [.long (nJ 0), .long x2]) rfl rfl ?_
    refine y_pure (pc' := 107) (st' := [.long (x2 ||| (nJ 0))]) rfl rfl ?_
    refine y_pure (pc' := 108) (ls' := [(0, .ref 65), (1, .int x1), (2, .long (x2 ||| (nJ 0))), (4, .int x4), (5, .int x5)]) (st' := []) rfl rfl ?_
    refine y_pure (pc' := 109) (st' := [.ref 65]) rfl rfl ?_
    obtain ⟨v8, M7, he6, h⟩ := zC1_inv h
    refine y_callV (pc' := 112) (y := zmT_isPartEnd) (a' := []) (st' := []) rfl rfl rfl rfl rfl (zrecv_o (o := 6) zc_65 rfl) rfl he6 rfl rfl ?_
    rcases zif_inv h with ⟨hc9, h⟩ | ⟨hc9, h⟩
    · refine y_cnd (pc' := 118) rfl rfl (zc_eqT hc9) rfl ?_
      refine y_pure (pc' := 121) (ls' := [(0, .ref 65), (1, .int x1), (2, .long (x2 ||| (nJ 0))), (4, .int (x4 + (nI 1))), (5, .int x5)]) (st' := []) rfl rfl ?_
      refine y_pure (pc' := 16) rfl rfl ?_
      refine zEx_sub ?_ h
      exact ⟨rfl, rfl, rfl, rfl, trivial⟩
    · refine y_cnd (pc' := 115) rfl rfl (zc_eqF hc9) rfl ?_
      refine y_pure (pc' := 124) rfl rfl ?_
      refine zEx_sub ?_ h
      exact ⟨rfl, rfl, rfl, trivial⟩
theorem e_T_readCage {d : Nat}  {M : ZM} {r : ZR}  (h : zC0 (zEv d zmT_readTotal [.ref 65] M) (fun M2 => zC1 (zEv d zmT_takeWord [.ref 65, .ref 7] M2) (fun v5 M4 => h_T_readCage_16 d v5 (nJ 0) (nI 0) M4)) = some r) : zEv (d + 1) zmT_readCage [.ref 65] M = some r := by
  rw [zEv_succ]
  show zEx0 (zEv d) zmT_readCage (0, [(0, .ref 65)], [], M) = some r
  refine y_pure (pc' := 1) (st' := [.ref 65]) rfl rfl ?_
  obtain ⟨M2, he1, h⟩ := zC0_inv h
  refine y_callV (pc' := 4) (y := zmT_readTotal) (a' := []) (st' := []) rfl rfl rfl rfl rfl (zrecv_o (o := 6) zc_65 rfl) rfl he1 rfl rfl ?_
  refine y_pure (pc' := 5) (st' := [.ref 65]) rfl rfl ?_
  refine y_ldcX (pc' := 7) (q := 7) rfl rfl rfl rfl ?_
  obtain ⟨v5, M4, he3, h⟩ := zC1_inv h
  refine y_callV (pc' := 10) (y := zmT_takeWord) (a' := [.ref 7]) (st' := []) rfl rfl rfl rfl rfl (zrecv_o (o := 6) zc_65 rfl) rfl he3 rfl rfl ?_
  refine y_pure (pc' := 11) (ls' := [(0, .ref 65), (1, .int v5)]) (st' := []) rfl rfl ?_
  refine y_pure (pc' := 12) (st' := [.long (nJ 0)]) rfl rfl ?_
  refine y_pure (pc' := 13) (ls' := [(0, .ref 65), (1, .int v5), (2, .long (nJ 0))]) (st' := []) rfl rfl ?_
  refine y_pure (pc' := 14) (st' := [.int (nI 0)]) rfl rfl ?_
  refine y_pure (pc' := 16) (ls' := [(0, .ref 65), (1, .int v5), (2, .long (nJ 0)), (4, .int (nI 0))]) (st' := []) rfl rfl ?_
  refine zEx_sub ?_ h
  exact ⟨rfl, rfl, rfl, rfl, trivial⟩
theorem e_T_readLine {d : Nat} {x1 : Int32} {M : ZM} {r : ZR}  (h : zC1 (zEv d zmT_readOpenCell [.ref 65] M) (fun v3 M2 => zC0 (zEv d zmT_readTotal [.ref 65] M2) (fun M5 => zC1 (zEv d zmT_takeWord [.ref 65, .ref 7] M5) (fun v8 M7 => (if (M7.1 65 4) = (-1 : Int32) then zC2 (zEv d zmT_lineFrom [.ref 65, .int v3, .int x1] M7) (fun v12 M11 => zC0 (zEv d zmB_addCage [.ref 67, .int (M7.1 65 6), .int (M7.1 65 7), .int v8, .long v12] M11) (fun M14 => some (none, M14))) else some (none, M7))))) = some r) : zEv (d + 1) zmT_readLine [.ref 65, .int x1] M = some r := by
  rw [zEv_succ]
  show zEx0 (zEv d) zmT_readLine (0, [(0, .ref 65), (1, .int x1)], [], M) = some r
  refine y_pure (pc' := 1) (st' := [.ref 65]) rfl rfl ?_
  obtain ⟨v3, M2, he1, h⟩ := zC1_inv h
  refine y_callV (pc' := 4) (y := zmT_readOpenCell) (a' := []) (st' := []) rfl rfl rfl rfl rfl (zrecv_o (o := 6) zc_65 rfl) rfl he1 rfl rfl ?_
  refine y_pure (pc' := 5) (ls' := [(0, .ref 65), (1, .int x1), (2, .int v3)]) (st' := []) rfl rfl ?_
  refine y_pure (pc' := 6) (st' := [.ref 65]) rfl rfl ?_
  obtain ⟨M5, he4, h⟩ := zC0_inv h
  refine y_callV (pc' := 9) (y := zmT_readTotal) (a' := []) (st' := []) rfl rfl rfl rfl rfl (zrecv_o (o := 6) zc_65 rfl) rfl he4 rfl rfl ?_
  refine y_pure (pc' := 10) (st' := [.ref 65]) rfl rfl ?_
  refine y_ldcX (pc' := 12) (q := 7) rfl rfl rfl rfl ?_
  obtain ⟨v8, M7, he6, h⟩ := zC1_inv h
  refine y_callV (pc' := 15) (y := zmT_takeWord) (a' := [.ref 7]) (st' := []) rfl rfl rfl rfl rfl (zrecv_o (o := 6) zc_65 rfl) rfl he6 rfl rfl ?_
  refine y_pure (pc' := 16) (ls' := [(0, .ref 65), (1, .int x1), (2, .int v3), (3, .int v8)]) (st' := []) rfl rfl ?_
  refine y_pure (pc' := 17) (st' := [.ref 65]) rfl rfl ?_
  refine y_getf (pc' := 20) (v := .int (M7.1 65 4)) rfl rfl rfl zc_65 rfl rfl ?_
  refine y_pure (pc' := 21) (st' := [.int (-1 : Int32), .int (M7.1 65 4)]) rfl rfl ?_
  rcases zif_inv h with ⟨hc9, h⟩ | ⟨hc9, h⟩
  · refine y_cmp (pc' := 24) rfl rfl (zc_neF hc9) rfl ?_
    refine y_pure (pc' := 25) (st' := [.ref 65]) rfl rfl ?_
    refine y_getf (pc' := 28) (v := .ref 67) rfl rfl rfl zc_65 rfl rfl ?_
    refine y_pure (pc' := 29) (st' := [.ref 65, .ref 67]) rfl rfl ?_
    refine y_getf (pc' := 32) (v := .int (M7.1 65 6)) rfl rfl rfl zc_65 rfl rfl ?_
    refine y_pure (pc' := 33) (st' := [.ref 65, .int (M7.1 65 6), .ref 67]) rfl rfl ?_
    refine y_getf (pc' := 36) (v := .int (M7.1 65 7)) rfl rfl rfl zc_65 rfl rfl ?_
    refine y_pure (pc' := 37) (st' := [.int v8, .int (M7.1 65 7), .int (M7.1 65 6), .ref 67]) rfl rfl ?_
    refine y_pure (pc' := 38) (st' := [.ref 65, .int v8, .int (M7.1 65 7), .int (M7.1 65 6), .ref 67]) rfl rfl ?_
    refine y_pure (pc' := 39) (st' := [.int v3, .ref 65, .int v8, .int (M7.1 65 7), .int (M7.1 65 6), .ref 67]) rfl rfl ?_
    refine y_pure (pc' := 40) (st' := [.int x1, .int v3, .ref 65, .int v8, .int (M7.1 65 7), .int (M7.1 65 6), .ref 67]) rfl rfl ?_
    obtain ⟨v12, M11, he10, h⟩ := zC2_inv h
    refine y_callV (pc' := 43) (y := zmT_lineFrom) (a' := [.int v3, .int x1]) (st' := [.int v8, .int (M7.1 65 7), .int (M7.1 65 6), .ref 67]) rfl rfl rfl rfl rfl (zrecv_o (o := 6) zc_65 rfl) rfl he10 rfl rfl ?_
    obtain ⟨M14, he13, h⟩ := zC0_inv h
    refine y_callV (pc' := 46) (y := zmB_addCage) (a' := [.int (M7.1 65 6), .int (M7.1 65 7), .int v8, .long v12]) (st' := []) rfl rfl rfl rfl rfl (zrecv_o (o := 0) zc_67 rfl) rfl he13 rfl rfl ?_
    exact y_ret rfl rfl rfl rfl h
  · refine y_cmp (pc' := 46) rfl rfl (zc_neT hc9) rfl ?_
    exact y_ret rfl rfl rfl rfl h
noncomputable def h_T_lineFrom_62 (d : Nat) (x3 : Int64) (x6 : Int32) (x7 : Int32) (x8 : Int32) (M : ZM) : Option ZR := zEx0 (zEv d) zmT_lineFrom (62, [(0, .ref 65), (3, .long x3), (6, .int x6), (7, .int x7), (8, .int x8)], [], M)
theorem e_T_lineFrom_62 {d : Nat} {x3 : Int64} {x6 : Int32} {x7 : Int32} {x8 : Int32} {M : ZM} {r : ZR}  (h : (if x8 < x7 then zC1 (zEv d zmB_isOpen [.ref 67, .int x8] M) (fun v4 M3 => (if v4 = (nI 0) then some (some (.long x3), M3) else h_T_lineFrom_62 d (x3 ||| ((nJ 1) <<< (Int32.toInt64 x8 &&& 63))) x6 x7 (x8 + x6) M3)) else some (some (.long x3), M)) = some r) : h_T_lineFrom_62 d x3 x6 x7 x8 M = some r := by
  show zEx0 (zEv d) zmT_lineFrom (62, [(0, .ref 65), (3, .long x3), (6, .int x6), (7, .int x7), (8, .int x8)], [], M) = some r
  refine y_pure (pc' := 64) (st' := [.int x8]) rfl rfl ?_
  refine y_pure (pc' := 66) (st' := [.int x7, .int x8]) rfl rfl ?_
  rcases zif_inv h with ⟨hc1, h⟩ | ⟨hc1, h⟩
  · refine y_cmp (pc' := 69) rfl rfl (zc_geF hc1) rfl ?_
    refine y_pure (pc' := 70) (st' := [.ref 65]) rfl rfl ?_
    refine y_getf (pc' := 73) (v := .ref 67) rfl rfl rfl zc_65 rfl rfl ?_
    refine y_pure (pc' := 75) (st' := [.int x8, .ref 67]) rfl rfl ?_
    obtain ⟨v4, M3, he2, h⟩ := zC1_inv h
    refine y_callV (pc' := 78) (y := zmB_isOpen) (a' := [.int x8]) (st' := []) rfl rfl rfl rfl rfl (zrecv_o (o := 0) zc_67 rfl) rfl he2 rfl rfl ?_
    rcases zif_inv h with ⟨hc5, h⟩ | ⟨hc5, h⟩
    · refine y_cnd (pc' := 98) rfl rfl (zc_eqT hc5) rfl ?_
      refine y_pure (pc' := 99) (st' := [.long x3]) rfl rfl ?_
      exact y_ret rfl rfl rfl rfl h
    · refine y_cnd (pc' := 81) rfl rfl (zc_eqF hc5) rfl ?_
      refine y_pure (pc' := 82) (st' := [.long x3]) rfl rfl ?_
      refine y_pure (pc' := 83) (st' := [.long (nJ 1), .long x3]) rfl rfl ?_
      refine y_pure (pc' := 85) (st' := [.int x8, .long (nJ 1), .long x3]) rfl rfl ?_
      refine y_pure (pc' := 86) (st' := [.long ((nJ 1) <<< (Int32.toInt64 x8 &&& 63)), .long x3]) rfl rfl ?_
      refine y_pure (pc' := 87) (st' := [.long (x3 ||| ((nJ 1) <<< (Int32.toInt64 x8 &&& 63)))]) rfl rfl ?_
      refine y_pure (pc' := 88) (ls' := [(0, .ref 65), (3, .long (x3 ||| ((nJ 1) <<< (Int32.toInt64 x8 &&& 63)))), (6, .int x6), (7, .int x7), (8, .int x8)]) (st' := []) rfl rfl ?_
      refine y_pure (pc' := 90) (st' := [.int x8]) rfl rfl ?_
      refine y_pure (pc' := 92) (st' := [.int x6, .int x8]) rfl rfl ?_
      refine y_pure (pc' := 93) (st' := [.int (x8 + x6)]) rfl rfl ?_
      refine y_pure (pc' := 95) (ls' := [(0, .ref 65), (3, .long (x3 ||| ((nJ 1) <<< (Int32.toInt64 x8 &&& 63)))), (6, .int x6), (7, .int x7), (8, .int (x8 + x6))]) (st' := []) rfl rfl ?_
      refine y_pure (pc' := 62) rfl rfl ?_
      refine zEx_sub ?_ h
      exact ⟨rfl, rfl, rfl, rfl, rfl, trivial⟩
  · refine y_cmp (pc' := 98) rfl rfl (zc_geT hc1) rfl ?_
    refine y_pure (pc' := 99) (st' := [.long x3]) rfl rfl ?_
    exact y_ret rfl rfl rfl rfl h
theorem e_T_lineFrom {d : Nat} {x1 : Int32} {x2 : Int32} {M : ZM} {r : ZR}  (h : (if (M.1 67 0) < (nI 1) then some (some (.long (nJ 0)), M) else (if x2 = (nI 0) then (if x2 = (nI 0) then (if (M.1 67 0) = nI 0 then none else h_T_lineFrom_62 d (nJ 0) (nI 1) ((x1 - (x1 - x1 / (M.1 67 0) * (M.1 67 0))) + (M.1 67 0)) x1 M) else h_T_lineFrom_62 d (nJ 0) (nI 1) ((M.1 67 0) * (M.1 67 1)) x1 M) else (if x2 = (nI 0) then (if (M.1 67 0) = nI 0 then none else h_T_lineFrom_62 d (nJ 0) (M.1 67 0) ((x1 - (x1 - x1 / (M.1 67 0) * (M.1 67 0))) + (M.1 67 0)) x1 M) else h_T_lineFrom_62 d (nJ 0) (M.1 67 0) ((M.1 67 0) * (M.1 67 1)) x1 M))) = some r) : zEv (d + 1) zmT_lineFrom [.ref 65, .int x1, .int x2] M = some r := by
  rw [zEv_succ]
  show zEx0 (zEv d) zmT_lineFrom (0, [(0, .ref 65), (1, .int x1), (2, .int x2)], [], M) = some r
  refine y_pure (pc' := 1) (st' := [.long (nJ 0)]) rfl rfl ?_
  refine y_pure (pc' := 2) (ls' := [(0, .ref 65), (1, .int x1), (2, .int x2), (3, .long (nJ 0))]) (st' := []) rfl rfl ?_
  refine y_pure (pc' := 3) (st' := [.ref 65]) rfl rfl ?_
  refine y_getf (pc' := 6) (v := .ref 67) rfl rfl rfl zc_65 rfl rfl ?_
  refine y_getf (pc' := 9) (v := .int (M.1 67 0)) rfl rfl rfl zc_67 rfl rfl ?_
  refine y_pure (pc' := 11) (ls' := [(0, .ref 65), (1, .int x1), (2, .int x2), (3, .long (nJ 0)), (5, .int (M.1 67 0))]) (st' := []) rfl rfl ?_
  refine y_pure (pc' := 13) (st' := [.int (M.1 67 0)]) rfl rfl ?_
  refine y_pure (pc' := 14) (st' := [.int (nI 1), .int (M.1 67 0)]) rfl rfl ?_
  rcases zif_inv h with ⟨hc1, h⟩ | ⟨hc1, h⟩
  · refine y_cmp (pc' := 17) rfl rfl (zc_geF hc1) rfl ?_
    refine y_pure (pc' := 18) (st' := [.long (nJ 0)]) rfl rfl ?_
    exact y_ret rfl rfl rfl rfl h
  · refine y_cmp (pc' := 19) rfl rfl (zc_geT hc1) rfl ?_
    refine y_pure (pc' := 20) (st' := [.int x2]) rfl rfl ?_
    rcases zif_inv h with ⟨hc2, h⟩ | ⟨hc2, h⟩
    · refine y_cnd (pc' := 28) rfl rfl (zc_eqT hc2) rfl ?_
      refine y_pure (pc' := 29) (st' := [.int (nI 1)]) rfl rfl ?_
      refine y_pure (pc' := 31) (ls' := [(0, .ref 65), (1, .int x1), (2, .int x2), (3, .long (nJ 0)), (5, .int (M.1 67 0)), (6, .int (nI 1))]) (st' := []) rfl rfl ?_
      refine y_pure (pc' := 32) (st' := [.int x2]) rfl rfl ?_
      rcases zif_inv h with ⟨hc3, h⟩ | ⟨hc3, h⟩
      · refine y_cnd (pc' := 48) rfl rfl (zc_eqT hc3) rfl ?_
        refine y_pure (pc' := 49) (st' := [.int x1]) rfl rfl ?_
        refine y_pure (pc' := 50) (st' := [.int x1, .int x1]) rfl rfl ?_
        refine y_pure (pc' := 52) (st' := [.int (M.1 67 0), .int x1, .int x1]) rfl rfl ?_
        obtain ⟨hb4, h⟩ := zd_inv h
        refine y_irem (pc' := 53) (st := [.int x1]) rfl hb4 rfl ?_
        refine y_pure (pc' := 54) (st' := [.int (x1 - (x1 - x1 / (M.1 67 0) * (M.1 67 0)))]) rfl rfl ?_
        refine y_pure (pc' := 56) (st' := [.int (M.1 67 0), .int (x1 - (x1 - x1 / (M.1 67 0) * (M.1 67 0)))]) rfl rfl ?_
        refine y_pure (pc' := 57) (st' := [.int ((x1 - (x1 - x1 / (M.1 67 0) * (M.1 67 0))) + (M.1 67 0))]) rfl rfl ?_
        refine y_pure (pc' := 59) (ls' := [(0, .ref 65), (1, .int x1), (2, .int x2), (3, .long (nJ 0)), (5, .int (M.1 67 0)), (6, .int (nI 1)), (7, .int ((x1 - (x1 - x1 / (M.1 67 0) * (M.1 67 0))) + (M.1 67 0)))]) (st' := []) rfl rfl ?_
        refine y_pure (pc' := 60) (st' := [.int x1]) rfl rfl ?_
        refine y_pure (pc' := 62) (ls' := [(0, .ref 65), (1, .int x1), (2, .int x2), (3, .long (nJ 0)), (5, .int (M.1 67 0)), (6, .int (nI 1)), (7, .int ((x1 - (x1 - x1 / (M.1 67 0) * (M.1 67 0))) + (M.1 67 0))), (8, .int x1)]) (st' := []) rfl rfl ?_
        refine zEx_sub ?_ h
        exact ⟨rfl, rfl, rfl, rfl, rfl, trivial⟩
      · refine y_cnd (pc' := 35) rfl rfl (zc_eqF hc3) rfl ?_
        refine y_pure (pc' := 37) (st' := [.int (M.1 67 0)]) rfl rfl ?_
        refine y_pure (pc' := 38) (st' := [.ref 65, .int (M.1 67 0)]) rfl rfl ?_
        refine y_getf (pc' := 41) (v := .ref 67) rfl rfl rfl zc_65 rfl rfl ?_
        refine y_getf (pc' := 44) (v := .int (M.1 67 1)) rfl rfl rfl zc_67 rfl rfl ?_
        refine y_pure (pc' := 45) (st' := [.int ((M.1 67 0) * (M.1 67 1))]) rfl rfl ?_
        refine y_pure (pc' := 57) rfl rfl ?_
        refine y_pure (pc' := 59) (ls' := [(0, .ref 65), (1, .int x1), (2, .int x2), (3, .long (nJ 0)), (5, .int (M.1 67 0)), (6, .int (nI 1)), (7, .int ((M.1 67 0) * (M.1 67 1)))]) (st' := []) rfl rfl ?_
        refine y_pure (pc' := 60) (st' := [.int x1]) rfl rfl ?_
        refine y_pure (pc' := 62) (ls' := [(0, .ref 65), (1, .int x1), (2, .int x2), (3, .long (nJ 0)), (5, .int (M.1 67 0)), (6, .int (nI 1)), (7, .int ((M.1 67 0) * (M.1 67 1))), (8, .int x1)]) (st' := []) rfl rfl ?_
        refine zEx_sub ?_ h
        exact ⟨rfl, rfl, rfl, rfl, rfl, trivial⟩
    · refine y_cnd (pc' := 23) rfl rfl (zc_eqF hc2) rfl ?_
      refine y_pure (pc' := 25) (st' := [.int (M.1 67 0)]) rfl rfl ?_
      refine y_pure (pc' := 29) rfl rfl ?_
      refine y_pure (pc' := 31) (ls' := [(0, .ref 65), (1, .int x1), (2, .int x2), (3, .long (nJ 0)), (5, .int (M.1 67 0)), (6, .int (M.1 67 0))]) (st' := []) rfl rfl ?_
      refine y_pure (pc' := 32) (st' := [.int x2]) rfl rfl ?_
      rcases zif_inv h with ⟨hc5, h⟩ | ⟨hc5, h⟩
      · refine y_cnd (pc' := 48) rfl rfl (zc_eqT hc5) rfl ?_
        refine y_pure (pc' := 49) (st' := [.int x1]) rfl rfl ?_
        refine y_pure (pc' := 50) (st' := [.int x1, .int x1]) rfl rfl ?_
        refine y_pure (pc' := 52) (st' := [.int (M.1 67 0), .int x1, .int x1]) rfl rfl ?_
        obtain ⟨hb6, h⟩ := zd_inv h
        refine y_irem (pc' := 53) (st := [.int x1]) rfl hb6 rfl ?_
        refine y_pure (pc' := 54) (st' := [.int (x1 - (x1 - x1 / (M.1 67 0) * (M.1 67 0)))]) rfl rfl ?_
        refine y_pure (pc' := 56) (st' := [.int (M.1 67 0), .int (x1 - (x1 - x1 / (M.1 67 0) * (M.1 67 0)))]) rfl rfl ?_
        refine y_pure (pc' := 57) (st' := [.int ((x1 - (x1 - x1 / (M.1 67 0) * (M.1 67 0))) + (M.1 67 0))]) rfl rfl ?_
        refine y_pure (pc' := 59) (ls' := [(0, .ref 65), (1, .int x1), (2, .int x2), (3, .long (nJ 0)), (5, .int (M.1 67 0)), (6, .int (M.1 67 0)), (7, .int ((x1 - (x1 - x1 / (M.1 67 0) * (M.1 67 0))) + (M.1 67 0)))]) (st' := []) rfl rfl ?_
        refine y_pure (pc' := 60) (st' := [.int x1]) rfl rfl ?_
        refine y_pure (pc' := 62) (ls' := [(0, .ref 65), (1, .int x1), (2, .int x2), (3, .long (nJ 0)), (5, .int (M.1 67 0)), (6, .int (M.1 67 0)), (7, .int ((x1 - (x1 - x1 / (M.1 67 0) * (M.1 67 0))) + (M.1 67 0))), (8, .int x1)]) (st' := []) rfl rfl ?_
        refine zEx_sub ?_ h
        exact ⟨rfl, rfl, rfl, rfl, rfl, trivial⟩
      · refine y_cnd (pc' := 35) rfl rfl (zc_eqF hc5) rfl ?_
        refine y_pure (pc' := 37) (st' := [.int (M.1 67 0)]) rfl rfl ?_
        refine y_pure (pc' := 38) (st' := [.ref 65, .int (M.1 67 0)]) rfl rfl ?_
        refine y_getf (pc' := 41) (v := .ref 67) rfl rfl rfl zc_65 rfl rfl ?_
        refine y_getf (pc' := 44) (v := .int (M.1 67 1)) rfl rfl rfl zc_67 rfl rfl ?_
        refine y_pure (pc' := 45) (st' := [.int ((M.1 67 0) * (M.1 67 1))]) rfl rfl ?_
        refine y_pure (pc' := 57) rfl rfl ?_
        refine y_pure (pc' := 59) (ls' := [(0, .ref 65), (1, .int x1), (2, .int x2), (3, .long (nJ 0)), (5, .int (M.1 67 0)), (6, .int (M.1 67 0)), (7, .int ((M.1 67 0) * (M.1 67 1)))]) (st' := []) rfl rfl ?_
        refine y_pure (pc' := 60) (st' := [.int x1]) rfl rfl ?_
        refine y_pure (pc' := 62) (ls' := [(0, .ref 65), (1, .int x1), (2, .int x2), (3, .long (nJ 0)), (5, .int (M.1 67 0)), (6, .int (M.1 67 0)), (7, .int ((M.1 67 0) * (M.1 67 1))), (8, .int x1)]) (st' := []) rfl rfl ?_
        refine zEx_sub ?_ h
        exact ⟨rfl, rfl, rfl, rfl, rfl, trivial⟩
noncomputable def h_T_readTotal_80 (d : Nat) (M : ZM) : Option ZR := zEx0 (zEv d) zmT_readTotal (80, [(0, .ref 65)], [], M)
theorem e_T_readTotal_80 {d : Nat} {M : ZM} {r : ZR}  (h : zC1 (zEv d zmC_mostTotal [.int (M.1 65 6)] M) (fun v3 M2 => zC1 (zEv d zmT_readNumber [.ref 65, .int (nI 0), .int v3] M2) (fun v6 M5 => some (none, (zpi M5 65 7 v6)))) = some r) : h_T_readTotal_80 d M = some r := by
  show zEx0 (zEv d) zmT_readTotal (80, [(0, .ref 65)], [], M) = some r
  refine y_pure (pc' := 81) (st' := [.ref 65]) rfl rfl ?_
  refine y_pure (pc' := 82) (st' := [.ref 65, .ref 65]) rfl rfl ?_
  refine y_pure (pc' := 83) (st' := [.int (nI 0), .ref 65, .ref 65]) rfl rfl ?_
  refine y_pure (pc' := 84) (st' := [.ref 65, .int (nI 0), .ref 65, .ref 65]) rfl rfl ?_
  refine y_getf (pc' := 87) (v := .int (M.1 65 6)) rfl rfl rfl zc_65 rfl rfl ?_
  obtain ⟨v3, M2, he1, h⟩ := zC1_inv h
  refine y_callS (pc' := 90) (y := zmC_mostTotal) (a := [.int (M.1 65 6)]) (st' := [.int (nI 0), .ref 65, .ref 65]) rfl rfl rfl rfl rfl rfl he1 rfl rfl ?_
  obtain ⟨v6, M5, he4, h⟩ := zC1_inv h
  refine y_callV (pc' := 93) (y := zmT_readNumber) (a' := [.int (nI 0), .int v3]) (st' := [.ref 65]) rfl rfl rfl rfl rfl (zrecv_o (o := 6) zc_65 rfl) rfl he4 rfl rfl ?_
  refine y_putI (pc' := 96) rfl rfl zc_65 rfl ?_
  exact y_ret rfl rfl rfl rfl h
theorem e_T_readTotal {d : Nat}  {M : ZM} {r : ZR}  (h : zC1 (zEv d zmT_takeWord [.ref 65, .ref 16] (zpi M 65 7 (nI 0))) (fun v3 M2 => (if v3 = (nI 0) then zC1 (zEv d zmT_takeWord [.ref 65, .ref 14] M2) (fun v7 M6 => (if v7 = (nI 0) then zC1 (zEv d zmT_takeWord [.ref 65, .ref 15] M6) (fun v11 M10 => (if v11 = (nI 0) then zC1 (zEv d zmT_takeWord [.ref 65, .ref 8] M10) (fun v15 M14 => (if v15 = (nI 0) then zC0 (zEv d zmT_fail [.ref 65, .int (M14.1 65 3), .int (nI 1)] M14) (fun M18 => h_T_readTotal_80 d  M18) else some (none, (zpi M14 65 6 (nI 3))))) else h_T_readTotal_80 d  (zpi M10 65 6 (nI 2)))) else h_T_readTotal_80 d  (zpi M6 65 6 (nI 1)))) else h_T_readTotal_80 d  (zpi M2 65 6 (nI 0)))) = some r) : zEv (d + 1) zmT_readTotal [.ref 65] M = some r := by
  rw [zEv_succ]
  show zEx0 (zEv d) zmT_readTotal (0, [(0, .ref 65)], [], M) = some r
  refine y_pure (pc' := 1) (st' := [.ref 65]) rfl rfl ?_
  refine y_pure (pc' := 2) (st' := [.int (nI 0), .ref 65]) rfl rfl ?_
  refine y_putI (pc' := 5) rfl rfl zc_65 rfl ?_
  refine y_pure (pc' := 6) (st' := [.ref 65]) rfl rfl ?_
  refine y_ldcX (pc' := 8) (q := 16) rfl rfl rfl rfl ?_
  obtain ⟨v3, M2, he1, h⟩ := zC1_inv h
  refine y_callV (pc' := 11) (y := zmT_takeWord) (a' := [.ref 16]) (st' := []) rfl rfl rfl rfl rfl (zrecv_o (o := 6) zc_65 rfl) rfl he1 rfl rfl ?_
  rcases zif_inv h with ⟨hc4, h⟩ | ⟨hc4, h⟩
  · refine y_cnd (pc' := 22) rfl rfl (zc_eqT hc4) rfl ?_
    refine y_pure (pc' := 23) (st' := [.ref 65]) rfl rfl ?_
    refine y_ldcX (pc' := 25) (q := 14) rfl rfl rfl rfl ?_
    obtain ⟨v7, M6, he5, h⟩ := zC1_inv h
    refine y_callV (pc' := 28) (y := zmT_takeWord) (a' := [.ref 14]) (st' := []) rfl rfl rfl rfl rfl (zrecv_o (o := 6) zc_65 rfl) rfl he5 rfl rfl ?_
    rcases zif_inv h with ⟨hc8, h⟩ | ⟨hc8, h⟩
    · refine y_cnd (pc' := 39) rfl rfl (zc_eqT hc8) rfl ?_
      refine y_pure (pc' := 40) (st' := [.ref 65]) rfl rfl ?_
      refine y_ldcX (pc' := 42) (q := 15) rfl rfl rfl rfl ?_
      obtain ⟨v11, M10, he9, h⟩ := zC1_inv h
      refine y_callV (pc' := 45) (y := zmT_takeWord) (a' := [.ref 15]) (st' := []) rfl rfl rfl rfl rfl (zrecv_o (o := 6) zc_65 rfl) rfl he9 rfl rfl ?_
      rcases zif_inv h with ⟨hc12, h⟩ | ⟨hc12, h⟩
      · refine y_cnd (pc' := 56) rfl rfl (zc_eqT hc12) rfl ?_
        refine y_pure (pc' := 57) (st' := [.ref 65]) rfl rfl ?_
        refine y_ldcX (pc' := 59) (q := 8) rfl rfl rfl rfl ?_
        obtain ⟨v15, M14, he13, h⟩ := zC1_inv h
        refine y_callV (pc' := 62) (y := zmT_takeWord) (a' := [.ref 8]) (st' := []) rfl rfl rfl rfl rfl (zrecv_o (o := 6) zc_65 rfl) rfl he13 rfl rfl ?_
        rcases zif_inv h with ⟨hc16, h⟩ | ⟨hc16, h⟩
        · refine y_cnd (pc' := 71) rfl rfl (zc_eqT hc16) rfl ?_
          refine y_pure (pc' := 72) (st' := [.ref 65]) rfl rfl ?_
          refine y_pure (pc' := 73) (st' := [.ref 65, .ref 65]) rfl rfl ?_
          refine y_getf (pc' := 76) (v := .int (M14.1 65 3)) rfl rfl rfl zc_65 rfl rfl ?_
          refine y_pure (pc' := 77) (st' := [.int (nI 1), .int (M14.1 65 3), .ref 65]) rfl rfl ?_
          obtain ⟨M18, he17, h⟩ := zC0_inv h
          refine y_callV (pc' := 80) (y := zmT_fail) (a' := [.int (M14.1 65 3), .int (nI 1)]) (st' := []) rfl rfl rfl rfl rfl (zrecv_o (o := 6) zc_65 rfl) rfl he17 rfl rfl ?_
          refine zEx_sub ?_ h
          exact ⟨rfl, trivial⟩
        · refine y_cnd (pc' := 65) rfl rfl (zc_eqF hc16) rfl ?_
          refine y_pure (pc' := 66) (st' := [.ref 65]) rfl rfl ?_
          refine y_pure (pc' := 67) (st' := [.int (nI 3), .ref 65]) rfl rfl ?_
          refine y_putI (pc' := 70) rfl rfl zc_65 rfl ?_
          exact y_ret rfl rfl rfl rfl h
      · refine y_cnd (pc' := 48) rfl rfl (zc_eqF hc12) rfl ?_
        refine y_pure (pc' := 49) (st' := [.ref 65]) rfl rfl ?_
        refine y_pure (pc' := 50) (st' := [.int (nI 2), .ref 65]) rfl rfl ?_
        refine y_putI (pc' := 53) rfl rfl zc_65 rfl ?_
        refine y_pure (pc' := 80) rfl rfl ?_
        refine zEx_sub ?_ h
        exact ⟨rfl, trivial⟩
    · refine y_cnd (pc' := 31) rfl rfl (zc_eqF hc8) rfl ?_
      refine y_pure (pc' := 32) (st' := [.ref 65]) rfl rfl ?_
      refine y_pure (pc' := 33) (st' := [.int (nI 1), .ref 65]) rfl rfl ?_
      refine y_putI (pc' := 36) rfl rfl zc_65 rfl ?_
      refine y_pure (pc' := 80) rfl rfl ?_
      refine zEx_sub ?_ h
      exact ⟨rfl, trivial⟩
  · refine y_cnd (pc' := 14) rfl rfl (zc_eqF hc4) rfl ?_
    refine y_pure (pc' := 15) (st' := [.ref 65]) rfl rfl ?_
    refine y_pure (pc' := 16) (st' := [.int (nI 0), .ref 65]) rfl rfl ?_
    refine y_putI (pc' := 19) rfl rfl zc_65 rfl ?_
    refine y_pure (pc' := 80) rfl rfl ?_
    refine zEx_sub ?_ h
    exact ⟨rfl, trivial⟩
theorem e_T_readOpenCell {d : Nat}  {M : ZM} {r : ZR}  (h : (if (M.1 65 4) = (-1 : Int32) then zC1 (zEv d zmT_isColumn [.ref 65] M) (fun v4 M3 => (if v4 = (nI 0) then zC0 (zEv d zmT_fail [.ref 65, .int (M3.1 65 3), .int (nI 1)] M3) (fun M7 => some (some (.int (-1 : Int32)), M7)) else (if zin (M3.1 65 3) 400 = true then zC1 (zEv d zmT_isDigitAt [.ref 65, .int ((zpi (zpi M3 65 3 ((M3.1 65 3) + (nI 1))) 65 5 ((zpi M3 65 3 ((M3.1 65 3) + (nI 1))).1 65 3)).1 65 3)] (zpi (zpi M3 65 3 ((M3.1 65 3) + (nI 1))) 65 5 ((zpi M3 65 3 ((M3.1 65 3) + (nI 1))).1 65 3))) (fun v11 M10 => (if v11 = (nI 0) then zC0 (zEv d zmT_fail [.ref 65, .int (M10.1 65 3), .int (nI 1)] M10) (fun M14 => some (some (.int (-1 : Int32)), M14)) else zC1 (zEv d zmT_readNumber [.ref 65, .int (nI 1), .int (M10.1 67 1)] M10) (fun v17 M16 => zL (((M16.1 67 0) * (v17 - (nI 1))) + ((M3.1 66 (Int32.toNatClampNeg (M3.1 65 3))) - (nI 97))) (fun y18 => (if (M16.1 65 4) = (-1 : Int32) then zC1 (zEv d zmB_isOpen [.ref 67, .int y18] M16) (fun v23 M22 => (if v23 = (nI 0) then zC0 (zEv d zmT_fail [.ref 65, .int (M22.1 65 5), .int (nI 2)] M22) (fun M26 => (if (M26.1 65 4) = (-1 : Int32) then some (some (.int y18), M26) else some (some (.int (-1 : Int32)), M26))) else (if (M22.1 65 4) = (-1 : Int32) then some (some (.int y18), M22) else some (some (.int (-1 : Int32)), M22)))) else (if (M16.1 65 4) = (-1 : Int32) then some (some (.int y18), M16) else some (some (.int (-1 : Int32)), M16))))))) else none))) else some (some (.int (-1 : Int32)), M)) = some r) : zEv (d + 1) zmT_readOpenCell [.ref 65] M = some r := by
  rw [zEv_succ]
  show zEx0 (zEv d) zmT_readOpenCell (0, [(0, .ref 65)], [], M) = some r
  refine y_pure (pc' := 1) (st' := [.ref 65]) rfl rfl ?_
  refine y_getf (pc' := 4) (v := .int (M.1 65 4)) rfl rfl rfl zc_65 rfl rfl ?_
  refine y_pure (pc' := 5) (st' := [.int (-1 : Int32), .int (M.1 65 4)]) rfl rfl ?_
  rcases zif_inv h with ⟨hc1, h⟩ | ⟨hc1, h⟩
  · refine y_cmp (pc' := 10) rfl rfl (zc_eqT hc1) rfl ?_
    refine y_pure (pc' := 11) (st' := [.ref 65]) rfl rfl ?_
    obtain ⟨v4, M3, he2, h⟩ := zC1_inv h
    refine y_callV (pc' := 14) (y := zmT_isColumn) (a' := []) (st' := []) rfl rfl rfl rfl rfl (zrecv_o (o := 6) zc_65 rfl) rfl he2 rfl rfl ?_
    rcases zif_inv h with ⟨hc5, h⟩ | ⟨hc5, h⟩
    · refine y_cnd (pc' := 17) rfl rfl (zc_neF hc5) rfl ?_
      refine y_pure (pc' := 18) (st' := [.ref 65]) rfl rfl ?_
      refine y_pure (pc' := 19) (st' := [.ref 65, .ref 65]) rfl rfl ?_
      refine y_getf (pc' := 22) (v := .int (M3.1 65 3)) rfl rfl rfl zc_65 rfl rfl ?_
      refine y_pure (pc' := 23) (st' := [.int (nI 1), .int (M3.1 65 3), .ref 65]) rfl rfl ?_
      obtain ⟨M7, he6, h⟩ := zC0_inv h
      refine y_callV (pc' := 26) (y := zmT_fail) (a' := [.int (M3.1 65 3), .int (nI 1)]) (st' := []) rfl rfl rfl rfl rfl (zrecv_o (o := 6) zc_65 rfl) rfl he6 rfl rfl ?_
      refine y_pure (pc' := 27) (st' := [.int (-1 : Int32)]) rfl rfl ?_
      exact y_ret rfl rfl rfl rfl h
    · refine y_cnd (pc' := 28) rfl rfl (zc_neT hc5) rfl ?_
      refine y_pure (pc' := 29) (st' := [.ref 65]) rfl rfl ?_
      refine y_getf (pc' := 32) (v := .ref 66) rfl rfl rfl zc_65 rfl rfl ?_
      refine y_pure (pc' := 33) (st' := [.ref 65, .ref 66]) rfl rfl ?_
      refine y_getf (pc' := 36) (v := .int (M3.1 65 3)) rfl rfl rfl zc_65 rfl rfl ?_
      obtain ⟨hi8, h⟩ := zg_inv h
      refine y_iald (pc' := 37) rfl zc_66 hi8 rfl ?_
      refine y_pure (pc' := 39) (st' := [.int (nI 97), .int (M3.1 66 (Int32.toNatClampNeg (M3.1 65 3)))]) rfl rfl ?_
      refine y_pure (pc' := 40) (st' := [.int ((M3.1 66 (Int32.toNatClampNeg (M3.1 65 3))) - (nI 97))]) rfl rfl ?_
      refine y_pure (pc' := 41) (ls' := [(0, .ref 65), (1, .int ((M3.1 66 (Int32.toNatClampNeg (M3.1 65 3))) - (nI 97)))]) (st' := []) rfl rfl ?_
      refine y_pure (pc' := 42) (st' := [.ref 65]) rfl rfl ?_
      refine y_pure (pc' := 43) (st' := [.ref 65, .ref 65]) rfl rfl ?_
      refine y_getf (pc' := 46) (v := .int (M3.1 65 3)) rfl rfl rfl zc_65 rfl rfl ?_
      refine y_pure (pc' := 47) (st' := [.int (nI 1), .int (M3.1 65 3), .ref 65]) rfl rfl ?_
      refine y_pure (pc' := 48) (st' := [.int ((M3.1 65 3) + (nI 1)), .ref 65]) rfl rfl ?_
      refine y_putI (pc' := 51) rfl rfl zc_65 rfl ?_
      refine y_pure (pc' := 52) (st' := [.ref 65]) rfl rfl ?_
      refine y_pure (pc' := 53) (st' := [.ref 65, .ref 65]) rfl rfl ?_
      refine y_getf (pc' := 56) (v := .int ((zpi M3 65 3 ((M3.1 65 3) + (nI 1))).1 65 3)) rfl rfl rfl zc_65 rfl rfl ?_
      refine y_putI (pc' := 59) rfl rfl zc_65 rfl ?_
      refine y_pure (pc' := 60) (st' := [.ref 65]) rfl rfl ?_
      refine y_pure (pc' := 61) (st' := [.ref 65, .ref 65]) rfl rfl ?_
      refine y_getf (pc' := 64) (v := .int ((zpi (zpi M3 65 3 ((M3.1 65 3) + (nI 1))) 65 5 ((zpi M3 65 3 ((M3.1 65 3) + (nI 1))).1 65 3)).1 65 3)) rfl rfl rfl zc_65 rfl rfl ?_
      obtain ⟨v11, M10, he9, h⟩ := zC1_inv h
      refine y_callV (pc' := 67) (y := zmT_isDigitAt) (a' := [.int ((zpi (zpi M3 65 3 ((M3.1 65 3) + (nI 1))) 65 5 ((zpi M3 65 3 ((M3.1 65 3) + (nI 1))).1 65 3)).1 65 3)]) (st' := []) rfl rfl rfl rfl rfl (zrecv_o (o := 6) zc_65 rfl) rfl he9 rfl rfl ?_
      rcases zif_inv h with ⟨hc12, h⟩ | ⟨hc12, h⟩
      · refine y_cnd (pc' := 70) rfl rfl (zc_neF hc12) rfl ?_
        refine y_pure (pc' := 71) (st' := [.ref 65]) rfl rfl ?_
        refine y_pure (pc' := 72) (st' := [.ref 65, .ref 65]) rfl rfl ?_
        refine y_getf (pc' := 75) (v := .int (M10.1 65 3)) rfl rfl rfl zc_65 rfl rfl ?_
        refine y_pure (pc' := 76) (st' := [.int (nI 1), .int (M10.1 65 3), .ref 65]) rfl rfl ?_
        obtain ⟨M14, he13, h⟩ := zC0_inv h
        refine y_callV (pc' := 79) (y := zmT_fail) (a' := [.int (M10.1 65 3), .int (nI 1)]) (st' := []) rfl rfl rfl rfl rfl (zrecv_o (o := 6) zc_65 rfl) rfl he13 rfl rfl ?_
        refine y_pure (pc' := 80) (st' := [.int (-1 : Int32)]) rfl rfl ?_
        exact y_ret rfl rfl rfl rfl h
      · refine y_cnd (pc' := 81) rfl rfl (zc_neT hc12) rfl ?_
        refine y_pure (pc' := 82) (st' := [.ref 65]) rfl rfl ?_
        refine y_pure (pc' := 83) (st' := [.int (nI 1), .ref 65]) rfl rfl ?_
        refine y_pure (pc' := 84) (st' := [.ref 65, .int (nI 1), .ref 65]) rfl rfl ?_
        refine y_getf (pc' := 87) (v := .ref 67) rfl rfl rfl zc_65 rfl rfl ?_
        refine y_getf (pc' := 90) (v := .int (M10.1 67 1)) rfl rfl rfl zc_67 rfl rfl ?_
        obtain ⟨v17, M16, he15, h⟩ := zC1_inv h
        refine y_callV (pc' := 93) (y := zmT_readNumber) (a' := [.int (nI 1), .int (M10.1 67 1)]) (st' := []) rfl rfl rfl rfl rfl (zrecv_o (o := 6) zc_65 rfl) rfl he15 rfl rfl ?_
        refine y_pure (pc' := 94) (ls' := [(0, .ref 65), (1, .int ((M3.1 66 (Int32.toNatClampNeg (M3.1 65 3))) - (nI 97))), (2, .int v17)]) (st' := []) rfl rfl ?_
        refine y_pure (pc' := 95) (st' := [.ref 65]) rfl rfl ?_
        refine y_getf (pc' := 98) (v := .ref 67) rfl rfl rfl zc_65 rfl rfl ?_
        refine y_getf (pc' := 101) (v := .int (M16.1 67 0)) rfl rfl rfl zc_67 rfl rfl ?_
        refine y_pure (pc' := 102) (st' := [.int v17, .int (M16.1 67 0)]) rfl rfl ?_
        refine y_pure (pc' := 103) (st' := [.int (nI 1), .int v17, .int (M16.1 67 0)]) rfl rfl ?_
        refine y_pure (pc' := 104) (st' := [.int (v17 - (nI 1)), .int (M16.1 67 0)]) rfl rfl ?_
        refine y_pure (pc' := 105) (st' := [.int ((M16.1 67 0) * (v17 - (nI 1)))]) rfl rfl ?_
        refine y_pure (pc' := 106) (st' := [.int ((M3.1 66 (Int32.toNatClampNeg (M3.1 65 3))) - (nI 97)), .int ((M16.1 67 0) * (v17 - (nI 1)))]) rfl rfl ?_
        refine y_pure (pc' := 107) (st' := [.int (((M16.1 67 0) * (v17 - (nI 1))) + ((M3.1 66 (Int32.toNatClampNeg (M3.1 65 3))) - (nI 97)))]) rfl rfl ?_
        obtain ⟨y18, e19, h⟩ := zL_inv h
        refine zT_gen e19 ?_
        refine y_pure (pc' := 108) (ls' := [(0, .ref 65), (1, .int ((M3.1 66 (Int32.toNatClampNeg (M3.1 65 3))) - (nI 97))), (2, .int v17), (3, .int y18)]) (st' := []) rfl rfl ?_
        refine y_pure (pc' := 109) (st' := [.ref 65]) rfl rfl ?_
        refine y_getf (pc' := 112) (v := .int (M16.1 65 4)) rfl rfl rfl zc_65 rfl rfl ?_
        refine y_pure (pc' := 113) (st' := [.int (-1 : Int32), .int (M16.1 65 4)]) rfl rfl ?_
        rcases zif_inv h with ⟨hc20, h⟩ | ⟨hc20, h⟩
        · refine y_cmp (pc' := 116) rfl rfl (zc_neF hc20) rfl ?_
          refine y_pure (pc' := 117) (st' := [.ref 65]) rfl rfl ?_
          refine y_getf (pc' := 120) (v := .ref 67) rfl rfl rfl zc_65 rfl rfl ?_
          refine y_pure (pc' := 121) (st' := [.int y18, .ref 67]) rfl rfl ?_
          obtain ⟨v23, M22, he21, h⟩ := zC1_inv h
          refine y_callV (pc' := 124) (y := zmB_isOpen) (a' := [.int y18]) (st' := []) rfl rfl rfl rfl rfl (zrecv_o (o := 0) zc_67 rfl) rfl he21 rfl rfl ?_
          rcases zif_inv h with ⟨hc24, h⟩ | ⟨hc24, h⟩
          · refine y_cnd (pc' := 127) rfl rfl (zc_neF hc24) rfl ?_
            refine y_pure (pc' := 128) (st' := [.ref 65]) rfl rfl ?_
            refine y_pure (pc' := 129) (st' := [.ref 65, .ref 65]) rfl rfl ?_
            refine y_getf (pc' := 132) (v := .int (M22.1 65 5)) rfl rfl rfl zc_65 rfl rfl ?_
            refine y_pure (pc' := 133) (st' := [.int (nI 2), .int (M22.1 65 5), .ref 65]) rfl rfl ?_
            obtain ⟨M26, he25, h⟩ := zC0_inv h
            refine y_callV (pc' := 136) (y := zmT_fail) (a' := [.int (M22.1 65 5), .int (nI 2)]) (st' := []) rfl rfl rfl rfl rfl (zrecv_o (o := 6) zc_65 rfl) rfl he25 rfl rfl ?_
            refine y_pure (pc' := 137) (st' := [.ref 65]) rfl rfl ?_
            refine y_getf (pc' := 140) (v := .int (M26.1 65 4)) rfl rfl rfl zc_65 rfl rfl ?_
            refine y_pure (pc' := 141) (st' := [.int (-1 : Int32), .int (M26.1 65 4)]) rfl rfl ?_
            rcases zif_inv h with ⟨hc27, h⟩ | ⟨hc27, h⟩
            · refine y_cmp (pc' := 144) rfl rfl (zc_neF hc27) rfl ?_
              refine y_pure (pc' := 145) (st' := [.int y18]) rfl rfl ?_
              refine y_pure (pc' := 149) rfl rfl ?_
              exact y_ret rfl rfl rfl rfl h
            · refine y_cmp (pc' := 148) rfl rfl (zc_neT hc27) rfl ?_
              refine y_pure (pc' := 149) (st' := [.int (-1 : Int32)]) rfl rfl ?_
              exact y_ret rfl rfl rfl rfl h
          · refine y_cnd (pc' := 136) rfl rfl (zc_neT hc24) rfl ?_
            refine y_pure (pc' := 137) (st' := [.ref 65]) rfl rfl ?_
            refine y_getf (pc' := 140) (v := .int (M22.1 65 4)) rfl rfl rfl zc_65 rfl rfl ?_
            refine y_pure (pc' := 141) (st' := [.int (-1 : Int32), .int (M22.1 65 4)]) rfl rfl ?_
            rcases zif_inv h with ⟨hc28, h⟩ | ⟨hc28, h⟩
            · refine y_cmp (pc' := 144) rfl rfl (zc_neF hc28) rfl ?_
              refine y_pure (pc' := 145) (st' := [.int y18]) rfl rfl ?_
              refine y_pure (pc' := 149) rfl rfl ?_
              exact y_ret rfl rfl rfl rfl h
            · refine y_cmp (pc' := 148) rfl rfl (zc_neT hc28) rfl ?_
              refine y_pure (pc' := 149) (st' := [.int (-1 : Int32)]) rfl rfl ?_
              exact y_ret rfl rfl rfl rfl h
        · refine y_cmp (pc' := 136) rfl rfl (zc_neT hc20) rfl ?_
          refine y_pure (pc' := 137) (st' := [.ref 65]) rfl rfl ?_
          refine y_getf (pc' := 140) (v := .int (M16.1 65 4)) rfl rfl rfl zc_65 rfl rfl ?_
          refine y_pure (pc' := 141) (st' := [.int (-1 : Int32), .int (M16.1 65 4)]) rfl rfl ?_
          rcases zif_inv h with ⟨hc29, h⟩ | ⟨hc29, h⟩
          · refine y_cmp (pc' := 144) rfl rfl (zc_neF hc29) rfl ?_
            refine y_pure (pc' := 145) (st' := [.int y18]) rfl rfl ?_
            refine y_pure (pc' := 149) rfl rfl ?_
            exact y_ret rfl rfl rfl rfl h
          · refine y_cmp (pc' := 148) rfl rfl (zc_neT hc29) rfl ?_
            refine y_pure (pc' := 149) (st' := [.int (-1 : Int32)]) rfl rfl ?_
            exact y_ret rfl rfl rfl rfl h
  · refine y_cmp (pc' := 8) rfl rfl (zc_eqF hc1) rfl ?_
    refine y_pure (pc' := 9) (st' := [.int (-1 : Int32)]) rfl rfl ?_
    exact y_ret rfl rfl rfl rfl h
noncomputable def h_T_readNumber_34 (d : Nat) (x1 : Int32) (x2 : Int32) (x3 : Int32) (x4 : Int32) (M : ZM) : Option ZR := zEx0 (zEv d) zmT_readNumber (34, [(0, .ref 65), (1, .int x1), (2, .int x2), (3, .int x3), (4, .int x4)], [], M)
theorem e_T_readNumber_34 {d : Nat} {x1 : Int32} {x2 : Int32} {x3 : Int32} {x4 : Int32} {M : ZM} {r : ZR}  (h : (if (M.1 65 3) < (M.1 65 1) then zC1 (zEv d zmT_isDigitAt [.ref 65, .int (M.1 65 3)] M) (fun v4 M3 => (if v4 = (nI 0) then (if x4 < x1 then zC0 (zEv d zmT_fail [.ref 65, .int x3, .int (nI 2)] M3) (fun M8 => some (some (.int x1), M8)) else (if x2 < x4 then zC0 (zEv d zmT_fail [.ref 65, .int x3, .int (nI 2)] M3) (fun M11 => some (some (.int x1), M11)) else some (some (.int x4), M3))) else (if zin (M3.1 65 3) 400 = true then zC1 (zEv d zmJM_min [.int (nI 10000000), .int (((x4 * (nI 10)) + (M3.1 66 (Int32.toNatClampNeg (M3.1 65 3)))) - (nI 48))] M3) (fun v15 M14 => h_T_readNumber_34 d x1 x2 x3 v15 (zpi M14 65 3 ((M14.1 65 3) + (nI 1)))) else none))) else (if x4 < x1 then zC0 (zEv d zmT_fail [.ref 65, .int x3, .int (nI 2)] M) (fun M18 => some (some (.int x1), M18)) else (if x2 < x4 then zC0 (zEv d zmT_fail [.ref 65, .int x3, .int (nI 2)] M) (fun M21 => some (some (.int x1), M21)) else some (some (.int x4), M)))) = some r) : h_T_readNumber_34 d x1 x2 x3 x4 M = some r := by
  show zEx0 (zEv d) zmT_readNumber (34, [(0, .ref 65), (1, .int x1), (2, .int x2), (3, .int x3), (4, .int x4)], [], M) = some r
  refine y_pure (pc' := 35) (st' := [.ref 65]) rfl rfl ?_
  refine y_getf (pc' := 38) (v := .int (M.1 65 3)) rfl rfl rfl zc_65 rfl rfl ?_
  refine y_pure (pc' := 39) (st' := [.ref 65, .int (M.1 65 3)]) rfl rfl ?_
  refine y_getf (pc' := 42) (v := .int (M.1 65 1)) rfl rfl rfl zc_65 rfl rfl ?_
  rcases zif_inv h with ⟨hc1, h⟩ | ⟨hc1, h⟩
  · refine y_cmp (pc' := 45) rfl rfl (zc_geF hc1) rfl ?_
    refine y_pure (pc' := 46) (st' := [.ref 65]) rfl rfl ?_
    refine y_pure (pc' := 47) (st' := [.ref 65, .ref 65]) rfl rfl ?_
    refine y_getf (pc' := 50) (v := .int (M.1 65 3)) rfl rfl rfl zc_65 rfl rfl ?_
    obtain ⟨v4, M3, he2, h⟩ := zC1_inv h
    refine y_callV (pc' := 53) (y := zmT_isDigitAt) (a' := [.int (M.1 65 3)]) (st' := []) rfl rfl rfl rfl rfl (zrecv_o (o := 6) zc_65 rfl) rfl he2 rfl rfl ?_
    rcases zif_inv h with ⟨hc5, h⟩ | ⟨hc5, h⟩
    · refine y_cnd (pc' := 94) rfl rfl (zc_eqT hc5) rfl ?_
      refine y_pure (pc' := 96) (st' := [.int x4]) rfl rfl ?_
      refine y_pure (pc' := 97) (st' := [.int x1, .int x4]) rfl rfl ?_
      rcases zif_inv h with ⟨hc6, h⟩ | ⟨hc6, h⟩
      · refine y_cmp (pc' := 106) rfl rfl (zc_ltT hc6) rfl ?_
        refine y_pure (pc' := 107) (st' := [.ref 65]) rfl rfl ?_
        refine y_pure (pc' := 108) (st' := [.int x3, .ref 65]) rfl rfl ?_
        refine y_pure (pc' := 109) (st' := [.int (nI 2), .int x3, .ref 65]) rfl rfl ?_
        obtain ⟨M8, he7, h⟩ := zC0_inv h
        refine y_callV (pc' := 112) (y := zmT_fail) (a' := [.int x3, .int (nI 2)]) (st' := []) rfl rfl rfl rfl rfl (zrecv_o (o := 6) zc_65 rfl) rfl he7 rfl rfl ?_
        refine y_pure (pc' := 113) (st' := [.int x1]) rfl rfl ?_
        exact y_ret rfl rfl rfl rfl h
      · refine y_cmp (pc' := 100) rfl rfl (zc_ltF hc6) rfl ?_
        refine y_pure (pc' := 102) (st' := [.int x4]) rfl rfl ?_
        refine y_pure (pc' := 103) (st' := [.int x2, .int x4]) rfl rfl ?_
        rcases zif_inv h with ⟨hc9, h⟩ | ⟨hc9, h⟩
        · refine y_cmp (pc' := 106) rfl rfl (zc_leF hc9) rfl ?_
          refine y_pure (pc' := 107) (st' := [.ref 65]) rfl rfl ?_
          refine y_pure (pc' := 108) (st' := [.int x3, .ref 65]) rfl rfl ?_
          refine y_pure (pc' := 109) (st' := [.int (nI 2), .int x3, .ref 65]) rfl rfl ?_
          obtain ⟨M11, he10, h⟩ := zC0_inv h
          refine y_callV (pc' := 112) (y := zmT_fail) (a' := [.int x3, .int (nI 2)]) (st' := []) rfl rfl rfl rfl rfl (zrecv_o (o := 6) zc_65 rfl) rfl he10 rfl rfl ?_
          refine y_pure (pc' := 113) (st' := [.int x1]) rfl rfl ?_
          exact y_ret rfl rfl rfl rfl h
        · refine y_cmp (pc' := 114) rfl rfl (zc_leT hc9) rfl ?_
          refine y_pure (pc' := 116) (st' := [.int x4]) rfl rfl ?_
          exact y_ret rfl rfl rfl rfl h
    · refine y_cnd (pc' := 56) rfl rfl (zc_eqF hc5) rfl ?_
      refine y_pure (pc' := 58) (st' := [.int (nI 10000000)]) rfl rfl ?_
      refine y_pure (pc' := 60) (st' := [.int x4, .int (nI 10000000)]) rfl rfl ?_
      refine y_pure (pc' := 62) (st' := [.int (nI 10), .int x4, .int (nI 10000000)]) rfl rfl ?_
      refine y_pure (pc' := 63) (st' := [.int (x4 * (nI 10)), .int (nI 10000000)]) rfl rfl ?_
      refine y_pure (pc' := 64) (st' := [.ref 65, .int (x4 * (nI 10)), .int (nI 10000000)]) rfl rfl ?_
      refine y_getf (pc' := 67) (v := .ref 66) rfl rfl rfl zc_65 rfl rfl ?_
      refine y_pure (pc' := 68) (st' := [.ref 65, .ref 66, .int (x4 * (nI 10)), .int (nI 10000000)]) rfl rfl ?_
      refine y_getf (pc' := 71) (v := .int (M3.1 65 3)) rfl rfl rfl zc_65 rfl rfl ?_
      obtain ⟨hi12, h⟩ := zg_inv h
      refine y_iald (pc' := 72) rfl zc_66 hi12 rfl ?_
      refine y_pure (pc' := 73) (st' := [.int ((x4 * (nI 10)) + (M3.1 66 (Int32.toNatClampNeg (M3.1 65 3)))), .int (nI 10000000)]) rfl rfl ?_
      refine y_pure (pc' := 75) (st' := [.int (nI 48), .int ((x4 * (nI 10)) + (M3.1 66 (Int32.toNatClampNeg (M3.1 65 3)))), .int (nI 10000000)]) rfl rfl ?_
      refine y_pure (pc' := 76) (st' := [.int (((x4 * (nI 10)) + (M3.1 66 (Int32.toNatClampNeg (M3.1 65 3)))) - (nI 48)), .int (nI 10000000)]) rfl rfl ?_
      obtain ⟨v15, M14, he13, h⟩ := zC1_inv h
      refine y_callS (pc' := 79) (y := zmJM_min) (a := [.int (nI 10000000), .int (((x4 * (nI 10)) + (M3.1 66 (Int32.toNatClampNeg (M3.1 65 3)))) - (nI 48))]) (st' := []) rfl rfl rfl rfl rfl rfl he13 rfl rfl ?_
      refine y_pure (pc' := 81) (ls' := [(0, .ref 65), (1, .int x1), (2, .int x2), (3, .int x3), (4, .int v15)]) (st' := []) rfl rfl ?_
      refine y_pure (pc' := 82) (st' := [.ref 65]) rfl rfl ?_
      refine y_pure (pc' := 83) (st' := [.ref 65, .ref 65]) rfl rfl ?_
      refine y_getf (pc' := 86) (v := .int (M14.1 65 3)) rfl rfl rfl zc_65 rfl rfl ?_
      refine y_pure (pc' := 87) (st' := [.int (nI 1), .int (M14.1 65 3), .ref 65]) rfl rfl ?_
      refine y_pure (pc' := 88) (st' := [.int ((M14.1 65 3) + (nI 1)), .ref 65]) rfl rfl ?_
      refine y_putI (pc' := 91) rfl rfl zc_65 rfl ?_
      refine y_pure (pc' := 34) rfl rfl ?_
      refine zEx_sub ?_ h
      exact ⟨rfl, rfl, rfl, rfl, rfl, trivial⟩
  · refine y_cmp (pc' := 94) rfl rfl (zc_geT hc1) rfl ?_
    refine y_pure (pc' := 96) (st' := [.int x4]) rfl rfl ?_
    refine y_pure (pc' := 97) (st' := [.int x1, .int x4]) rfl rfl ?_
    rcases zif_inv h with ⟨hc16, h⟩ | ⟨hc16, h⟩
    · refine y_cmp (pc' := 106) rfl rfl (zc_ltT hc16) rfl ?_
      refine y_pure (pc' := 107) (st' := [.ref 65]) rfl rfl ?_
      refine y_pure (pc' := 108) (st' := [.int x3, .ref 65]) rfl rfl ?_
      refine y_pure (pc' := 109) (st' := [.int (nI 2), .int x3, .ref 65]) rfl rfl ?_
      obtain ⟨M18, he17, h⟩ := zC0_inv h
      refine y_callV (pc' := 112) (y := zmT_fail) (a' := [.int x3, .int (nI 2)]) (st' := []) rfl rfl rfl rfl rfl (zrecv_o (o := 6) zc_65 rfl) rfl he17 rfl rfl ?_
      refine y_pure (pc' := 113) (st' := [.int x1]) rfl rfl ?_
      exact y_ret rfl rfl rfl rfl h
    · refine y_cmp (pc' := 100) rfl rfl (zc_ltF hc16) rfl ?_
      refine y_pure (pc' := 102) (st' := [.int x4]) rfl rfl ?_
      refine y_pure (pc' := 103) (st' := [.int x2, .int x4]) rfl rfl ?_
      rcases zif_inv h with ⟨hc19, h⟩ | ⟨hc19, h⟩
      · refine y_cmp (pc' := 106) rfl rfl (zc_leF hc19) rfl ?_
        refine y_pure (pc' := 107) (st' := [.ref 65]) rfl rfl ?_
        refine y_pure (pc' := 108) (st' := [.int x3, .ref 65]) rfl rfl ?_
        refine y_pure (pc' := 109) (st' := [.int (nI 2), .int x3, .ref 65]) rfl rfl ?_
        obtain ⟨M21, he20, h⟩ := zC0_inv h
        refine y_callV (pc' := 112) (y := zmT_fail) (a' := [.int x3, .int (nI 2)]) (st' := []) rfl rfl rfl rfl rfl (zrecv_o (o := 6) zc_65 rfl) rfl he20 rfl rfl ?_
        refine y_pure (pc' := 113) (st' := [.int x1]) rfl rfl ?_
        exact y_ret rfl rfl rfl rfl h
      · refine y_cmp (pc' := 114) rfl rfl (zc_leT hc19) rfl ?_
        refine y_pure (pc' := 116) (st' := [.int x4]) rfl rfl ?_
        exact y_ret rfl rfl rfl rfl h
theorem e_T_readNumber {d : Nat} {x1 : Int32} {x2 : Int32} {M : ZM} {r : ZR}  (h : zC0 (zEv d zmT_skipBlanks [.ref 65] M) (fun M2 => zC1 (zEv d zmT_isDigitAt [.ref 65, .int (M2.1 65 3)] M2) (fun v5 M4 => (if v5 = (nI 0) then zC0 (zEv d zmT_fail [.ref 65, .int (M4.1 65 3), .int (nI 1)] M4) (fun M8 => some (some (.int x1), M8)) else h_T_readNumber_34 d x1 x2 (M2.1 65 3) (nI 0) M4))) = some r) : zEv (d + 1) zmT_readNumber [.ref 65, .int x1, .int x2] M = some r := by
  rw [zEv_succ]
  show zEx0 (zEv d) zmT_readNumber (0, [(0, .ref 65), (1, .int x1), (2, .int x2)], [], M) = some r
  refine y_pure (pc' := 1) (st' := [.ref 65]) rfl rfl ?_
  obtain ⟨M2, he1, h⟩ := zC0_inv h
  refine y_callV (pc' := 4) (y := zmT_skipBlanks) (a' := []) (st' := []) rfl rfl rfl rfl rfl (zrecv_o (o := 6) zc_65 rfl) rfl he1 rfl rfl ?_
  refine y_pure (pc' := 5) (st' := [.ref 65]) rfl rfl ?_
  refine y_getf (pc' := 8) (v := .int (M2.1 65 3)) rfl rfl rfl zc_65 rfl rfl ?_
  refine y_pure (pc' := 9) (ls' := [(0, .ref 65), (1, .int x1), (2, .int x2), (3, .int (M2.1 65 3))]) (st' := []) rfl rfl ?_
  refine y_pure (pc' := 10) (st' := [.ref 65]) rfl rfl ?_
  refine y_pure (pc' := 11) (st' := [.ref 65, .ref 65]) rfl rfl ?_
  refine y_getf (pc' := 14) (v := .int (M2.1 65 3)) rfl rfl rfl zc_65 rfl rfl ?_
  obtain ⟨v5, M4, he3, h⟩ := zC1_inv h
  refine y_callV (pc' := 17) (y := zmT_isDigitAt) (a' := [.int (M2.1 65 3)]) (st' := []) rfl rfl rfl rfl rfl (zrecv_o (o := 6) zc_65 rfl) rfl he3 rfl rfl ?_
  rcases zif_inv h with ⟨hc6, h⟩ | ⟨hc6, h⟩
  · refine y_cnd (pc' := 20) rfl rfl (zc_neF hc6) rfl ?_
    refine y_pure (pc' := 21) (st' := [.ref 65]) rfl rfl ?_
    refine y_pure (pc' := 22) (st' := [.ref 65, .ref 65]) rfl rfl ?_
    refine y_getf (pc' := 25) (v := .int (M4.1 65 3)) rfl rfl rfl zc_65 rfl rfl ?_
    refine y_pure (pc' := 26) (st' := [.int (nI 1), .int (M4.1 65 3), .ref 65]) rfl rfl ?_
    obtain ⟨M8, he7, h⟩ := zC0_inv h
    refine y_callV (pc' := 29) (y := zmT_fail) (a' := [.int (M4.1 65 3), .int (nI 1)]) (st' := []) rfl rfl rfl rfl rfl (zrecv_o (o := 6) zc_65 rfl) rfl he7 rfl rfl ?_
    refine y_pure (pc' := 30) (st' := [.int x1]) rfl rfl ?_
    exact y_ret rfl rfl rfl rfl h
  · refine y_cnd (pc' := 31) rfl rfl (zc_neT hc6) rfl ?_
    refine y_pure (pc' := 32) (st' := [.int (nI 0)]) rfl rfl ?_
    refine y_pure (pc' := 34) (ls' := [(0, .ref 65), (1, .int x1), (2, .int x2), (3, .int (M2.1 65 3)), (4, .int (nI 0))]) (st' := []) rfl rfl ?_
    refine zEx_sub ?_ h
    exact ⟨rfl, rfl, rfl, rfl, rfl, trivial⟩
theorem e_T_expect {d : Nat} {x1 w1 : Nat} {M : ZM} {r : ZR} (hk1 : zkd x1 = (7, w1)) (h : zC1 (zEv d zmT_takeWord [.ref 65, .ref x1] M) (fun v3 M2 => (if v3 = (nI 0) then zC0 (zEv d zmT_fail [.ref 65, .int (M2.1 65 3), .int (nI 1)] M2) (fun M6 => some (none, M6)) else some (none, M2))) = some r) : zEv (d + 1) zmT_expect [.ref 65, .ref x1] M = some r := by
  rw [zEv_succ]
  show zEx0 (zEv d) zmT_expect (0, [(0, .ref 65), (1, .ref x1)], [], M) = some r
  refine y_pure (pc' := 1) (st' := [.ref 65]) rfl rfl ?_
  refine y_pure (pc' := 2) (st' := [.ref x1, .ref 65]) rfl rfl ?_
  obtain ⟨v3, M2, he1, h⟩ := zC1_inv h
  refine y_callV (pc' := 5) (y := zmT_takeWord) (a' := [.ref x1]) (st' := []) rfl rfl rfl rfl rfl (zrecv_o (o := 6) zc_65 rfl) rfl he1 rfl rfl ?_
  rcases zif_inv h with ⟨hc4, h⟩ | ⟨hc4, h⟩
  · refine y_cnd (pc' := 8) rfl rfl (zc_neF hc4) rfl ?_
    refine y_pure (pc' := 9) (st' := [.ref 65]) rfl rfl ?_
    refine y_pure (pc' := 10) (st' := [.ref 65, .ref 65]) rfl rfl ?_
    refine y_getf (pc' := 13) (v := .int (M2.1 65 3)) rfl rfl rfl zc_65 rfl rfl ?_
    refine y_pure (pc' := 14) (st' := [.int (nI 1), .int (M2.1 65 3), .ref 65]) rfl rfl ?_
    obtain ⟨M6, he5, h⟩ := zC0_inv h
    refine y_callV (pc' := 17) (y := zmT_fail) (a' := [.int (M2.1 65 3), .int (nI 1)]) (st' := []) rfl rfl rfl rfl rfl (zrecv_o (o := 6) zc_65 rfl) rfl he5 rfl rfl ?_
    exact y_ret rfl rfl rfl rfl h
  · refine y_cnd (pc' := 17) rfl rfl (zc_neT hc4) rfl ?_
    exact y_ret rfl rfl rfl rfl h
noncomputable def h_T_takeWord_42 (d : Nat) (x1 : Nat) (x2 : Int32) (x3 : Int32) (M : ZM) : Option ZR := zEx0 (zEv d) zmT_takeWord (42, [(0, .ref 65), (1, .ref x1), (2, .int x2), (3, .int x3)], [], M)
theorem e_T_takeWord_42 {d : Nat} {x1 : Nat} {w1 : Nat} {x2 : Int32} {x3 : Int32} {M : ZM} {r : ZR} (hk1 : zkd x1 = (7, w1)) (h : zC1 (zEv d zmJS_length [.ref x1] M) (fun v3 M2 => (if x3 < v3 then (if zin ((M2.1 65 3) + x3) 400 = true then zC1 (zEv d zmJS_charAt [.ref x1, .int x3] M2) (fun v8 M7 => (if (M2.1 66 (Int32.toNatClampNeg ((M2.1 65 3) + x3))) = v8 then h_T_takeWord_42 d x1 x2 (x3 + (nI 1)) M7 else some (some (.int (nI 0)), M7))) else none) else some (some (.int (nI 1)), (zpi M2 65 3 x2)))) = some r) : h_T_takeWord_42 d x1 x2 x3 M = some r := by
  show zEx0 (zEv d) zmT_takeWord (42, [(0, .ref 65), (1, .ref x1), (2, .int x2), (3, .int x3)], [], M) = some r
  refine y_pure (pc' := 43) (st' := [.int x3]) rfl rfl ?_
  refine y_pure (pc' := 44) (st' := [.ref x1, .int x3]) rfl rfl ?_
  obtain ⟨v3, M2, he1, h⟩ := zC1_inv h
  refine y_callV (pc' := 47) (y := zmJS_length) (a' := []) (st' := [.int x3]) rfl rfl rfl rfl rfl (zrecv_s (zkt7 hk1)) rfl he1 rfl rfl ?_
  rcases zif_inv h with ⟨hc4, h⟩ | ⟨hc4, h⟩
  · refine y_cmp (pc' := 50) rfl rfl (zc_geF hc4) rfl ?_
    refine y_pure (pc' := 51) (st' := [.ref 65]) rfl rfl ?_
    refine y_getf (pc' := 54) (v := .ref 66) rfl rfl rfl zc_65 rfl rfl ?_
    refine y_pure (pc' := 55) (st' := [.ref 65, .ref 66]) rfl rfl ?_
    refine y_getf (pc' := 58) (v := .int (M2.1 65 3)) rfl rfl rfl zc_65 rfl rfl ?_
    refine y_pure (pc' := 59) (st' := [.int x3, .int (M2.1 65 3), .ref 66]) rfl rfl ?_
    refine y_pure (pc' := 60) (st' := [.int ((M2.1 65 3) + x3), .ref 66]) rfl rfl ?_
    obtain ⟨hi5, h⟩ := zg_inv h
    refine y_iald (pc' := 61) rfl zc_66 hi5 rfl ?_
    refine y_pure (pc' := 62) (st' := [.ref x1, .int (M2.1 66 (Int32.toNatClampNeg ((M2.1 65 3) + x3)))]) rfl rfl ?_
    refine y_pure (pc' := 63) (st' := [.int x3, .ref x1, .int (M2.1 66 (Int32.toNatClampNeg ((M2.1 65 3) + x3)))]) rfl rfl ?_
    obtain ⟨v8, M7, he6, h⟩ := zC1_inv h
    refine y_callV (pc' := 66) (y := zmJS_charAt) (a' := [.int x3]) (st' := [.int (M2.1 66 (Int32.toNatClampNeg ((M2.1 65 3) + x3)))]) rfl rfl rfl rfl rfl (zrecv_s (zkt7 hk1)) rfl he6 rfl rfl ?_
    rcases zif_inv h with ⟨hc9, h⟩ | ⟨hc9, h⟩
    · refine y_cmp (pc' := 71) rfl rfl (zc_eqT hc9) rfl ?_
      refine y_pure (pc' := 74) (ls' := [(0, .ref 65), (1, .ref x1), (2, .int x2), (3, .int (x3 + (nI 1)))]) (st' := []) rfl rfl ?_
      refine y_pure (pc' := 42) rfl rfl ?_
      refine zEx_sub ?_ h
      exact ⟨rfl, rfl, rfl, rfl, trivial⟩
    · refine y_cmp (pc' := 69) rfl rfl (zc_eqF hc9) rfl ?_
      refine y_pure (pc' := 70) (st' := [.int (nI 0)]) rfl rfl ?_
      exact y_retZ rfl rfl (by decide) h
  · refine y_cmp (pc' := 77) rfl rfl (zc_geT hc4) rfl ?_
    refine y_pure (pc' := 78) (st' := [.ref 65]) rfl rfl ?_
    refine y_pure (pc' := 79) (st' := [.int x2, .ref 65]) rfl rfl ?_
    refine y_putI (pc' := 82) rfl rfl zc_65 rfl ?_
    refine y_pure (pc' := 83) (st' := [.int (nI 1)]) rfl rfl ?_
    exact y_retZ rfl rfl (by decide) h
theorem e_T_takeWord {d : Nat} {x1 w1 : Nat} {M : ZM} {r : ZR} (hk1 : zkd x1 = (7, w1)) (h : zC0 (zEv d zmT_skipBlanks [.ref 65] M) (fun M2 => zC1 (zEv d zmJS_length [.ref x1] M2) (fun v5 M4 => (if (M4.1 65 4) = (-1 : Int32) then (if (M4.1 65 1) < ((M2.1 65 3) + v5) then some (some (.int (nI 0)), M4) else zC1 (zEv d zmT_isLetterAt [.ref 65, .int ((M2.1 65 3) + v5)] M4) (fun v10 M9 => (if v10 = (nI 0) then h_T_takeWord_42 d x1 ((M2.1 65 3) + v5) (nI 0) M9 else some (some (.int (nI 0)), M9)))) else some (some (.int (nI 0)), M4)))) = some r) : zEv (d + 1) zmT_takeWord [.ref 65, .ref x1] M = some r := by
  rw [zEv_succ]
  show zEx0 (zEv d) zmT_takeWord (0, [(0, .ref 65), (1, .ref x1)], [], M) = some r
  refine y_pure (pc' := 1) (st' := [.ref 65]) rfl rfl ?_
  obtain ⟨M2, he1, h⟩ := zC0_inv h
  refine y_callV (pc' := 4) (y := zmT_skipBlanks) (a' := []) (st' := []) rfl rfl rfl rfl rfl (zrecv_o (o := 6) zc_65 rfl) rfl he1 rfl rfl ?_
  refine y_pure (pc' := 5) (st' := [.ref 65]) rfl rfl ?_
  refine y_getf (pc' := 8) (v := .int (M2.1 65 3)) rfl rfl rfl zc_65 rfl rfl ?_
  refine y_pure (pc' := 9) (st' := [.ref x1, .int (M2.1 65 3)]) rfl rfl ?_
  obtain ⟨v5, M4, he3, h⟩ := zC1_inv h
  refine y_callV (pc' := 12) (y := zmJS_length) (a' := []) (st' := [.int (M2.1 65 3)]) rfl rfl rfl rfl rfl (zrecv_s (zkt7 hk1)) rfl he3 rfl rfl ?_
  refine y_pure (pc' := 13) (st' := [.int ((M2.1 65 3) + v5)]) rfl rfl ?_
  refine y_pure (pc' := 14) (ls' := [(0, .ref 65), (1, .ref x1), (2, .int ((M2.1 65 3) + v5))]) (st' := []) rfl rfl ?_
  refine y_pure (pc' := 15) (st' := [.ref 65]) rfl rfl ?_
  refine y_getf (pc' := 18) (v := .int (M4.1 65 4)) rfl rfl rfl zc_65 rfl rfl ?_
  refine y_pure (pc' := 19) (st' := [.int (-1 : Int32), .int (M4.1 65 4)]) rfl rfl ?_
  rcases zif_inv h with ⟨hc6, h⟩ | ⟨hc6, h⟩
  · refine y_cmp (pc' := 22) rfl rfl (zc_neF hc6) rfl ?_
    refine y_pure (pc' := 23) (st' := [.int ((M2.1 65 3) + v5)]) rfl rfl ?_
    refine y_pure (pc' := 24) (st' := [.ref 65, .int ((M2.1 65 3) + v5)]) rfl rfl ?_
    refine y_getf (pc' := 27) (v := .int (M4.1 65 1)) rfl rfl rfl zc_65 rfl rfl ?_
    rcases zif_inv h with ⟨hc7, h⟩ | ⟨hc7, h⟩
    · refine y_cmp (pc' := 38) rfl rfl (zc_gtT hc7) rfl ?_
      refine y_pure (pc' := 39) (st' := [.int (nI 0)]) rfl rfl ?_
      exact y_retZ rfl rfl (by decide) h
    · refine y_cmp (pc' := 30) rfl rfl (zc_gtF hc7) rfl ?_
      refine y_pure (pc' := 31) (st' := [.ref 65]) rfl rfl ?_
      refine y_pure (pc' := 32) (st' := [.int ((M2.1 65 3) + v5), .ref 65]) rfl rfl ?_
      obtain ⟨v10, M9, he8, h⟩ := zC1_inv h
      refine y_callV (pc' := 35) (y := zmT_isLetterAt) (a' := [.int ((M2.1 65 3) + v5)]) (st' := []) rfl rfl rfl rfl rfl (zrecv_o (o := 6) zc_65 rfl) rfl he8 rfl rfl ?_
      rcases zif_inv h with ⟨hc11, h⟩ | ⟨hc11, h⟩
      · refine y_cnd (pc' := 40) rfl rfl (zc_eqT hc11) rfl ?_
        refine y_pure (pc' := 41) (st' := [.int (nI 0)]) rfl rfl ?_
        refine y_pure (pc' := 42) (ls' := [(0, .ref 65), (1, .ref x1), (2, .int ((M2.1 65 3) + v5)), (3, .int (nI 0))]) (st' := []) rfl rfl ?_
        refine zEx_sub ?_ h
        exact ⟨rfl, rfl, rfl, rfl, trivial⟩
      · refine y_cnd (pc' := 38) rfl rfl (zc_eqF hc11) rfl ?_
        refine y_pure (pc' := 39) (st' := [.int (nI 0)]) rfl rfl ?_
        exact y_retZ rfl rfl (by decide) h
  · refine y_cmp (pc' := 38) rfl rfl (zc_neT hc6) rfl ?_
    refine y_pure (pc' := 39) (st' := [.int (nI 0)]) rfl rfl ?_
    exact y_retZ rfl rfl (by decide) h
theorem e_T_isColumn {d : Nat}  {M : ZM} {r : ZR}  (h : zC0 (zEv d zmT_skipBlanks [.ref 65] M) (fun M2 => (if (M2.1 65 3) < (M2.1 65 1) then (if zin (M2.1 65 3) 400 = true then (if (M2.1 66 (Int32.toNatClampNeg (M2.1 65 3))) < (nI 97) then some (some (.int (nI 0)), M2) else (if (M2.1 66 (Int32.toNatClampNeg (M2.1 65 3))) < ((nI 97) + (M2.1 67 0)) then some (some (.int (nI 1)), M2) else some (some (.int (nI 0)), M2))) else none) else some (some (.int (nI 0)), M2))) = some r) : zEv (d + 1) zmT_isColumn [.ref 65] M = some r := by
  rw [zEv_succ]
  show zEx0 (zEv d) zmT_isColumn (0, [(0, .ref 65)], [], M) = some r
  refine y_pure (pc' := 1) (st' := [.ref 65]) rfl rfl ?_
  obtain ⟨M2, he1, h⟩ := zC0_inv h
  refine y_callV (pc' := 4) (y := zmT_skipBlanks) (a' := []) (st' := []) rfl rfl rfl rfl rfl (zrecv_o (o := 6) zc_65 rfl) rfl he1 rfl rfl ?_
  refine y_pure (pc' := 5) (st' := [.ref 65]) rfl rfl ?_
  refine y_getf (pc' := 8) (v := .int (M2.1 65 3)) rfl rfl rfl zc_65 rfl rfl ?_
  refine y_pure (pc' := 9) (st' := [.ref 65, .int (M2.1 65 3)]) rfl rfl ?_
  refine y_getf (pc' := 12) (v := .int (M2.1 65 1)) rfl rfl rfl zc_65 rfl rfl ?_
  rcases zif_inv h with ⟨hc3, h⟩ | ⟨hc3, h⟩
  · refine y_cmp (pc' := 15) rfl rfl (zc_geF hc3) rfl ?_
    refine y_pure (pc' := 16) (st' := [.ref 65]) rfl rfl ?_
    refine y_getf (pc' := 19) (v := .ref 66) rfl rfl rfl zc_65 rfl rfl ?_
    refine y_pure (pc' := 20) (st' := [.ref 65, .ref 66]) rfl rfl ?_
    refine y_getf (pc' := 23) (v := .int (M2.1 65 3)) rfl rfl rfl zc_65 rfl rfl ?_
    obtain ⟨hi4, h⟩ := zg_inv h
    refine y_iald (pc' := 24) rfl zc_66 hi4 rfl ?_
    refine y_pure (pc' := 26) (st' := [.int (nI 97), .int (M2.1 66 (Int32.toNatClampNeg (M2.1 65 3)))]) rfl rfl ?_
    rcases zif_inv h with ⟨hc5, h⟩ | ⟨hc5, h⟩
    · refine y_cmp (pc' := 55) rfl rfl (zc_ltT hc5) rfl ?_
      refine y_pure (pc' := 56) (st' := [.int (nI 0)]) rfl rfl ?_
      exact y_retZ rfl rfl (by decide) h
    · refine y_cmp (pc' := 29) rfl rfl (zc_ltF hc5) rfl ?_
      refine y_pure (pc' := 30) (st' := [.ref 65]) rfl rfl ?_
      refine y_getf (pc' := 33) (v := .ref 66) rfl rfl rfl zc_65 rfl rfl ?_
      refine y_pure (pc' := 34) (st' := [.ref 65, .ref 66]) rfl rfl ?_
      refine y_getf (pc' := 37) (v := .int (M2.1 65 3)) rfl rfl rfl zc_65 rfl rfl ?_
      refine y_iald (pc' := 38) rfl zc_66 hi4 rfl ?_
      refine y_pure (pc' := 40) (st' := [.int (nI 97), .int (M2.1 66 (Int32.toNatClampNeg (M2.1 65 3)))]) rfl rfl ?_
      refine y_pure (pc' := 41) (st' := [.ref 65, .int (nI 97), .int (M2.1 66 (Int32.toNatClampNeg (M2.1 65 3)))]) rfl rfl ?_
      refine y_getf (pc' := 44) (v := .ref 67) rfl rfl rfl zc_65 rfl rfl ?_
      refine y_getf (pc' := 47) (v := .int (M2.1 67 0)) rfl rfl rfl zc_67 rfl rfl ?_
      refine y_pure (pc' := 48) (st' := [.int ((nI 97) + (M2.1 67 0)), .int (M2.1 66 (Int32.toNatClampNeg (M2.1 65 3)))]) rfl rfl ?_
      rcases zif_inv h with ⟨hc6, h⟩ | ⟨hc6, h⟩
      · refine y_cmp (pc' := 51) rfl rfl (zc_geF hc6) rfl ?_
        refine y_pure (pc' := 52) (st' := [.int (nI 1)]) rfl rfl ?_
        refine y_pure (pc' := 56) rfl rfl ?_
        exact y_retZ rfl rfl (by decide) h
      · refine y_cmp (pc' := 55) rfl rfl (zc_geT hc6) rfl ?_
        refine y_pure (pc' := 56) (st' := [.int (nI 0)]) rfl rfl ?_
        exact y_retZ rfl rfl (by decide) h
  · refine y_cmp (pc' := 55) rfl rfl (zc_geT hc3) rfl ?_
    refine y_pure (pc' := 56) (st' := [.int (nI 0)]) rfl rfl ?_
    exact y_retZ rfl rfl (by decide) h
theorem e_T_isPartEnd {d : Nat}  {M : ZM} {r : ZR}  (h : (if (M.1 65 4) = (-1 : Int32) then zC1 (zEv d zmT_isEnd [.ref 65] M) (fun v4 M3 => (if v4 = (nI 0) then (if zin (M3.1 65 3) 400 = true then (if (M3.1 66 (Int32.toNatClampNeg (M3.1 65 3))) = (nI 59) then some (some (.int (nI 1)), M3) else some (some (.int (nI 0)), M3)) else none) else some (some (.int (nI 1)), M3))) else some (some (.int (nI 1)), M)) = some r) : zEv (d + 1) zmT_isPartEnd [.ref 65] M = some r := by
  rw [zEv_succ]
  show zEx0 (zEv d) zmT_isPartEnd (0, [(0, .ref 65)], [], M) = some r
  refine y_pure (pc' := 1) (st' := [.ref 65]) rfl rfl ?_
  refine y_getf (pc' := 4) (v := .int (M.1 65 4)) rfl rfl rfl zc_65 rfl rfl ?_
  refine y_pure (pc' := 5) (st' := [.int (-1 : Int32), .int (M.1 65 4)]) rfl rfl ?_
  rcases zif_inv h with ⟨hc1, h⟩ | ⟨hc1, h⟩
  · refine y_cmp (pc' := 8) rfl rfl (zc_neF hc1) rfl ?_
    refine y_pure (pc' := 9) (st' := [.ref 65]) rfl rfl ?_
    obtain ⟨v4, M3, he2, h⟩ := zC1_inv h
    refine y_callV (pc' := 12) (y := zmT_isEnd) (a' := []) (st' := []) rfl rfl rfl rfl rfl (zrecv_o (o := 6) zc_65 rfl) rfl he2 rfl rfl ?_
    rcases zif_inv h with ⟨hc5, h⟩ | ⟨hc5, h⟩
    · refine y_cnd (pc' := 15) rfl rfl (zc_neF hc5) rfl ?_
      refine y_pure (pc' := 16) (st' := [.ref 65]) rfl rfl ?_
      refine y_getf (pc' := 19) (v := .ref 66) rfl rfl rfl zc_65 rfl rfl ?_
      refine y_pure (pc' := 20) (st' := [.ref 65, .ref 66]) rfl rfl ?_
      refine y_getf (pc' := 23) (v := .int (M3.1 65 3)) rfl rfl rfl zc_65 rfl rfl ?_
      obtain ⟨hi6, h⟩ := zg_inv h
      refine y_iald (pc' := 24) rfl zc_66 hi6 rfl ?_
      refine y_pure (pc' := 26) (st' := [.int (nI 59), .int (M3.1 66 (Int32.toNatClampNeg (M3.1 65 3)))]) rfl rfl ?_
      rcases zif_inv h with ⟨hc7, h⟩ | ⟨hc7, h⟩
      · refine y_cmp (pc' := 29) rfl rfl (zc_neF hc7) rfl ?_
        refine y_pure (pc' := 30) (st' := [.int (nI 1)]) rfl rfl ?_
        refine y_pure (pc' := 34) rfl rfl ?_
        exact y_retZ rfl rfl (by decide) h
      · refine y_cmp (pc' := 33) rfl rfl (zc_neT hc7) rfl ?_
        refine y_pure (pc' := 34) (st' := [.int (nI 0)]) rfl rfl ?_
        exact y_retZ rfl rfl (by decide) h
    · refine y_cnd (pc' := 29) rfl rfl (zc_neT hc5) rfl ?_
      refine y_pure (pc' := 30) (st' := [.int (nI 1)]) rfl rfl ?_
      refine y_pure (pc' := 34) rfl rfl ?_
      exact y_retZ rfl rfl (by decide) h
  · refine y_cmp (pc' := 29) rfl rfl (zc_neT hc1) rfl ?_
    refine y_pure (pc' := 30) (st' := [.int (nI 1)]) rfl rfl ?_
    refine y_pure (pc' := 34) rfl rfl ?_
    exact y_retZ rfl rfl (by decide) h
theorem e_T_isEnd {d : Nat}  {M : ZM} {r : ZR}  (h : zC0 (zEv d zmT_skipBlanks [.ref 65] M) (fun M2 => (if (M2.1 65 3) < (M2.1 65 1) then some (some (.int (nI 0)), M2) else some (some (.int (nI 1)), M2))) = some r) : zEv (d + 1) zmT_isEnd [.ref 65] M = some r := by
  rw [zEv_succ]
  show zEx0 (zEv d) zmT_isEnd (0, [(0, .ref 65)], [], M) = some r
  refine y_pure (pc' := 1) (st' := [.ref 65]) rfl rfl ?_
  obtain ⟨M2, he1, h⟩ := zC0_inv h
  refine y_callV (pc' := 4) (y := zmT_skipBlanks) (a' := []) (st' := []) rfl rfl rfl rfl rfl (zrecv_o (o := 6) zc_65 rfl) rfl he1 rfl rfl ?_
  refine y_pure (pc' := 5) (st' := [.ref 65]) rfl rfl ?_
  refine y_getf (pc' := 8) (v := .int (M2.1 65 3)) rfl rfl rfl zc_65 rfl rfl ?_
  refine y_pure (pc' := 9) (st' := [.ref 65, .int (M2.1 65 3)]) rfl rfl ?_
  refine y_getf (pc' := 12) (v := .int (M2.1 65 1)) rfl rfl rfl zc_65 rfl rfl ?_
  rcases zif_inv h with ⟨hc3, h⟩ | ⟨hc3, h⟩
  · refine y_cmp (pc' := 19) rfl rfl (zc_ltT hc3) rfl ?_
    refine y_pure (pc' := 20) (st' := [.int (nI 0)]) rfl rfl ?_
    exact y_retZ rfl rfl (by decide) h
  · refine y_cmp (pc' := 15) rfl rfl (zc_ltF hc3) rfl ?_
    refine y_pure (pc' := 16) (st' := [.int (nI 1)]) rfl rfl ?_
    refine y_pure (pc' := 20) rfl rfl ?_
    exact y_retZ rfl rfl (by decide) h
theorem e_T_isLetterAt {d : Nat} {x1 : Int32} {M : ZM} {r : ZR}  (h : (if x1 < (nI 0) then some (some (.int (nI 0)), M) else (if x1 < (M.1 65 1) then (if zin x1 400 = true then (if (M.1 66 (Int32.toNatClampNeg x1)) < (nI 97) then some (some (.int (nI 0)), M) else (if (nI 122) < (M.1 66 (Int32.toNatClampNeg x1)) then some (some (.int (nI 0)), M) else some (some (.int (nI 1)), M))) else none) else some (some (.int (nI 0)), M))) = some r) : zEv (d + 1) zmT_isLetterAt [.ref 65, .int x1] M = some r := by
  rw [zEv_succ]
  show zEx0 (zEv d) zmT_isLetterAt (0, [(0, .ref 65), (1, .int x1)], [], M) = some r
  refine y_pure (pc' := 1) (st' := [.int x1]) rfl rfl ?_
  rcases zif_inv h with ⟨hc1, h⟩ | ⟨hc1, h⟩
  · refine y_cnd (pc' := 38) rfl rfl (zc_ltT hc1) rfl ?_
    refine y_pure (pc' := 39) (st' := [.int (nI 0)]) rfl rfl ?_
    exact y_retZ rfl rfl (by decide) h
  · refine y_cnd (pc' := 4) rfl rfl (zc_ltF hc1) rfl ?_
    refine y_pure (pc' := 5) (st' := [.int x1]) rfl rfl ?_
    refine y_pure (pc' := 6) (st' := [.ref 65, .int x1]) rfl rfl ?_
    refine y_getf (pc' := 9) (v := .int (M.1 65 1)) rfl rfl rfl zc_65 rfl rfl ?_
    rcases zif_inv h with ⟨hc2, h⟩ | ⟨hc2, h⟩
    · refine y_cmp (pc' := 12) rfl rfl (zc_geF hc2) rfl ?_
      refine y_pure (pc' := 13) (st' := [.ref 65]) rfl rfl ?_
      refine y_getf (pc' := 16) (v := .ref 66) rfl rfl rfl zc_65 rfl rfl ?_
      refine y_pure (pc' := 17) (st' := [.int x1, .ref 66]) rfl rfl ?_
      obtain ⟨hi3, h⟩ := zg_inv h
      refine y_iald (pc' := 18) rfl zc_66 hi3 rfl ?_
      refine y_pure (pc' := 20) (st' := [.int (nI 97), .int (M.1 66 (Int32.toNatClampNeg x1))]) rfl rfl ?_
      rcases zif_inv h with ⟨hc4, h⟩ | ⟨hc4, h⟩
      · refine y_cmp (pc' := 38) rfl rfl (zc_ltT hc4) rfl ?_
        refine y_pure (pc' := 39) (st' := [.int (nI 0)]) rfl rfl ?_
        exact y_retZ rfl rfl (by decide) h
      · refine y_cmp (pc' := 23) rfl rfl (zc_ltF hc4) rfl ?_
        refine y_pure (pc' := 24) (st' := [.ref 65]) rfl rfl ?_
        refine y_getf (pc' := 27) (v := .ref 66) rfl rfl rfl zc_65 rfl rfl ?_
        refine y_pure (pc' := 28) (st' := [.int x1, .ref 66]) rfl rfl ?_
        refine y_iald (pc' := 29) rfl zc_66 hi3 rfl ?_
        refine y_pure (pc' := 31) (st' := [.int (nI 122), .int (M.1 66 (Int32.toNatClampNeg x1))]) rfl rfl ?_
        rcases zif_inv h with ⟨hc5, h⟩ | ⟨hc5, h⟩
        · refine y_cmp (pc' := 38) rfl rfl (zc_gtT hc5) rfl ?_
          refine y_pure (pc' := 39) (st' := [.int (nI 0)]) rfl rfl ?_
          exact y_retZ rfl rfl (by decide) h
        · refine y_cmp (pc' := 34) rfl rfl (zc_gtF hc5) rfl ?_
          refine y_pure (pc' := 35) (st' := [.int (nI 1)]) rfl rfl ?_
          refine y_pure (pc' := 39) rfl rfl ?_
          exact y_retZ rfl rfl (by decide) h
    · refine y_cmp (pc' := 38) rfl rfl (zc_geT hc2) rfl ?_
      refine y_pure (pc' := 39) (st' := [.int (nI 0)]) rfl rfl ?_
      exact y_retZ rfl rfl (by decide) h
theorem e_T_isDigitAt {d : Nat} {x1 : Int32} {M : ZM} {r : ZR}  (h : (if x1 < (nI 0) then some (some (.int (nI 0)), M) else (if x1 < (M.1 65 1) then (if zin x1 400 = true then (if (M.1 66 (Int32.toNatClampNeg x1)) < (nI 48) then some (some (.int (nI 0)), M) else (if (nI 57) < (M.1 66 (Int32.toNatClampNeg x1)) then some (some (.int (nI 0)), M) else some (some (.int (nI 1)), M))) else none) else some (some (.int (nI 0)), M))) = some r) : zEv (d + 1) zmT_isDigitAt [.ref 65, .int x1] M = some r := by
  rw [zEv_succ]
  show zEx0 (zEv d) zmT_isDigitAt (0, [(0, .ref 65), (1, .int x1)], [], M) = some r
  refine y_pure (pc' := 1) (st' := [.int x1]) rfl rfl ?_
  rcases zif_inv h with ⟨hc1, h⟩ | ⟨hc1, h⟩
  · refine y_cnd (pc' := 38) rfl rfl (zc_ltT hc1) rfl ?_
    refine y_pure (pc' := 39) (st' := [.int (nI 0)]) rfl rfl ?_
    exact y_retZ rfl rfl (by decide) h
  · refine y_cnd (pc' := 4) rfl rfl (zc_ltF hc1) rfl ?_
    refine y_pure (pc' := 5) (st' := [.int x1]) rfl rfl ?_
    refine y_pure (pc' := 6) (st' := [.ref 65, .int x1]) rfl rfl ?_
    refine y_getf (pc' := 9) (v := .int (M.1 65 1)) rfl rfl rfl zc_65 rfl rfl ?_
    rcases zif_inv h with ⟨hc2, h⟩ | ⟨hc2, h⟩
    · refine y_cmp (pc' := 12) rfl rfl (zc_geF hc2) rfl ?_
      refine y_pure (pc' := 13) (st' := [.ref 65]) rfl rfl ?_
      refine y_getf (pc' := 16) (v := .ref 66) rfl rfl rfl zc_65 rfl rfl ?_
      refine y_pure (pc' := 17) (st' := [.int x1, .ref 66]) rfl rfl ?_
      obtain ⟨hi3, h⟩ := zg_inv h
      refine y_iald (pc' := 18) rfl zc_66 hi3 rfl ?_
      refine y_pure (pc' := 20) (st' := [.int (nI 48), .int (M.1 66 (Int32.toNatClampNeg x1))]) rfl rfl ?_
      rcases zif_inv h with ⟨hc4, h⟩ | ⟨hc4, h⟩
      · refine y_cmp (pc' := 38) rfl rfl (zc_ltT hc4) rfl ?_
        refine y_pure (pc' := 39) (st' := [.int (nI 0)]) rfl rfl ?_
        exact y_retZ rfl rfl (by decide) h
      · refine y_cmp (pc' := 23) rfl rfl (zc_ltF hc4) rfl ?_
        refine y_pure (pc' := 24) (st' := [.ref 65]) rfl rfl ?_
        refine y_getf (pc' := 27) (v := .ref 66) rfl rfl rfl zc_65 rfl rfl ?_
        refine y_pure (pc' := 28) (st' := [.int x1, .ref 66]) rfl rfl ?_
        refine y_iald (pc' := 29) rfl zc_66 hi3 rfl ?_
        refine y_pure (pc' := 31) (st' := [.int (nI 57), .int (M.1 66 (Int32.toNatClampNeg x1))]) rfl rfl ?_
        rcases zif_inv h with ⟨hc5, h⟩ | ⟨hc5, h⟩
        · refine y_cmp (pc' := 38) rfl rfl (zc_gtT hc5) rfl ?_
          refine y_pure (pc' := 39) (st' := [.int (nI 0)]) rfl rfl ?_
          exact y_retZ rfl rfl (by decide) h
        · refine y_cmp (pc' := 34) rfl rfl (zc_gtF hc5) rfl ?_
          refine y_pure (pc' := 35) (st' := [.int (nI 1)]) rfl rfl ?_
          refine y_pure (pc' := 39) rfl rfl ?_
          exact y_retZ rfl rfl (by decide) h
    · refine y_cmp (pc' := 38) rfl rfl (zc_geT hc2) rfl ?_
      refine y_pure (pc' := 39) (st' := [.int (nI 0)]) rfl rfl ?_
      exact y_retZ rfl rfl (by decide) h
noncomputable def h_T_skipBlanks_0 (d : Nat) (M : ZM) : Option ZR := zEx0 (zEv d) zmT_skipBlanks (0, [(0, .ref 65)], [], M)
theorem e_T_skipBlanks_0 {d : Nat} {M : ZM} {r : ZR}  (h : (if (M.1 65 3) < (M.1 65 1) then (if zin (M.1 65 3) 400 = true then (if (M.1 66 (Int32.toNatClampNeg (M.1 65 3))) = (nI 32) then h_T_skipBlanks_0 d  (zpi M 65 3 ((M.1 65 3) + (nI 1))) else some (none, M)) else none) else some (none, M)) = some r) : h_T_skipBlanks_0 d M = some r := by
  show zEx0 (zEv d) zmT_skipBlanks (0, [(0, .ref 65)], [], M) = some r
  refine y_pure (pc' := 1) (st' := [.ref 65]) rfl rfl ?_
  refine y_getf (pc' := 4) (v := .int (M.1 65 3)) rfl rfl rfl zc_65 rfl rfl ?_
  refine y_pure (pc' := 5) (st' := [.ref 65, .int (M.1 65 3)]) rfl rfl ?_
  refine y_getf (pc' := 8) (v := .int (M.1 65 1)) rfl rfl rfl zc_65 rfl rfl ?_
  rcases zif_inv h with ⟨hc1, h⟩ | ⟨hc1, h⟩
  · refine y_cmp (pc' := 11) rfl rfl (zc_geF hc1) rfl ?_
    refine y_pure (pc' := 12) (st' := [.ref 65]) rfl rfl ?_
    refine y_getf (pc' := 15) (v := .ref 66) rfl rfl rfl zc_65 rfl rfl ?_
    refine y_pure (pc' := 16) (st' := [.ref 65, .ref 66]) rfl rfl ?_
    refine y_getf (pc' := 19) (v := .int (M.1 65 3)) rfl rfl rfl zc_65 rfl rfl ?_
    obtain ⟨hi2, h⟩ := zg_inv h
    refine y_iald (pc' := 20) rfl zc_66 hi2 rfl ?_
    refine y_pure (pc' := 22) (st' := [.int (nI 32), .int (M.1 66 (Int32.toNatClampNeg (M.1 65 3)))]) rfl rfl ?_
    rcases zif_inv h with ⟨hc3, h⟩ | ⟨hc3, h⟩
    · refine y_cmp (pc' := 25) rfl rfl (zc_neF hc3) rfl ?_
      refine y_pure (pc' := 26) (st' := [.ref 65]) rfl rfl ?_
      refine y_pure (pc' := 27) (st' := [.ref 65, .ref 65]) rfl rfl ?_
      refine y_getf (pc' := 30) (v := .int (M.1 65 3)) rfl rfl rfl zc_65 rfl rfl ?_
      refine y_pure (pc' := 31) (st' := [.int (nI 1), .int (M.1 65 3), .ref 65]) rfl rfl ?_
      refine y_pure (pc' := 32) (st' := [.int ((M.1 65 3) + (nI 1)), .ref 65]) rfl rfl ?_
      refine y_putI (pc' := 35) rfl rfl zc_65 rfl ?_
      refine y_pure (pc' := 0) rfl rfl ?_
      refine zEx_sub ?_ h
      exact ⟨rfl, trivial⟩
    · refine y_cmp (pc' := 38) rfl rfl (zc_neT hc3) rfl ?_
      exact y_ret rfl rfl rfl rfl h
  · refine y_cmp (pc' := 38) rfl rfl (zc_geT hc1) rfl ?_
    exact y_ret rfl rfl rfl rfl h
theorem e_T_skipBlanks {d : Nat}  {M : ZM} {r : ZR}  (h : h_T_skipBlanks_0 d  M = some r) : zEv (d + 1) zmT_skipBlanks [.ref 65] M = some r := by
  rw [zEv_succ]
  show zEx0 (zEv d) zmT_skipBlanks (0, [(0, .ref 65)], [], M) = some r
  refine zEx_sub ?_ h
  exact ⟨rfl, trivial⟩
theorem e_T_fail {d : Nat} {x1 : Int32} {x2 : Int32} {M : ZM} {r : ZR}  (h : (if (M.1 65 4) = (-1 : Int32) then some (none, (zpi M 65 4 (((nI 8) * x1) + x2))) else some (none, M)) = some r) : zEv (d + 1) zmT_fail [.ref 65, .int x1, .int x2] M = some r := by
  rw [zEv_succ]
  show zEx0 (zEv d) zmT_fail (0, [(0, .ref 65), (1, .int x1), (2, .int x2)], [], M) = some r
  refine y_pure (pc' := 1) (st' := [.ref 65]) rfl rfl ?_
  refine y_getf (pc' := 4) (v := .int (M.1 65 4)) rfl rfl rfl zc_65 rfl rfl ?_
  refine y_pure (pc' := 5) (st' := [.int (-1 : Int32), .int (M.1 65 4)]) rfl rfl ?_
  rcases zif_inv h with ⟨hc1, h⟩ | ⟨hc1, h⟩
  · refine y_cmp (pc' := 8) rfl rfl (zc_neF hc1) rfl ?_
    refine y_pure (pc' := 9) (st' := [.ref 65]) rfl rfl ?_
    refine y_pure (pc' := 11) (st' := [.int (nI 8), .ref 65]) rfl rfl ?_
    refine y_pure (pc' := 12) (st' := [.int x1, .int (nI 8), .ref 65]) rfl rfl ?_
    refine y_pure (pc' := 13) (st' := [.int ((nI 8) * x1), .ref 65]) rfl rfl ?_
    refine y_pure (pc' := 14) (st' := [.int x2, .int ((nI 8) * x1), .ref 65]) rfl rfl ?_
    refine y_pure (pc' := 15) (st' := [.int (((nI 8) * x1) + x2), .ref 65]) rfl rfl ?_
    refine y_putI (pc' := 18) rfl rfl zc_65 rfl ?_
    exact y_ret rfl rfl rfl rfl h
  · refine y_cmp (pc' := 18) rfl rfl (zc_neT hc1) rfl ?_
    exact y_ret rfl rfl rfl rfl h
