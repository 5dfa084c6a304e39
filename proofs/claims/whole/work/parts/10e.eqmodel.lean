/-! what the methods' runs come to (printed by wip/whole/gen_eq.py) -/
set_option linter.unusedVariables false
set_option maxRecDepth 50000
theorem e_M_in {d : Nat} {x0 : Int64} {x2 : Int64} {x4 : Int64} {M : ZM} {r : ZR}  (h : (if (lg_cmp x0 x2) < (nI 0) then some (some (.int (nI 0)), M) else (if (nI 0) < (lg_cmp x0 x4) then some (some (.int (nI 0)), M) else some (some (.int (nI 1)), M))) = some r) : zEv (d + 1) zmM_in [.long x0, .long x2, .long x4] M = some r := by
  rw [zEv_succ]
  show zEx0 (zEv d) zmM_in (0, [(0, .long x0), (2, .long x2), (4, .long x4)], [], M) = some r
  refine y_pure (pc' := 1) (st' := [.long x0]) rfl rfl ?_
  refine y_pure (pc' := 2) (st' := [.long x2, .long x0]) rfl rfl ?_
  refine y_pure (pc' := 3) (st' := [.int (lg_cmp x0 x2)]) rfl rfl ?_
  rcases zif_inv h with ⟨hc1, h⟩ | ⟨hc1, h⟩
  · refine y_cnd (pc' := 17) rfl rfl (zc_ltT hc1) rfl ?_
    refine y_pure (pc' := 18) (st' := [.int (nI 0)]) rfl rfl ?_
    exact y_retZ rfl rfl (by decide) h
  · refine y_cnd (pc' := 6) rfl rfl (zc_ltF hc1) rfl ?_
    refine y_pure (pc' := 7) (st' := [.long x0]) rfl rfl ?_
    refine y_pure (pc' := 9) (st' := [.long x4, .long x0]) rfl rfl ?_
    refine y_pure (pc' := 10) (st' := [.int (lg_cmp x0 x4)]) rfl rfl ?_
    rcases zif_inv h with ⟨hc2, h⟩ | ⟨hc2, h⟩
    · refine y_cnd (pc' := 17) rfl rfl (zc_gtT hc2) rfl ?_
      refine y_pure (pc' := 18) (st' := [.int (nI 0)]) rfl rfl ?_
      exact y_retZ rfl rfl (by decide) h
    · refine y_cnd (pc' := 13) rfl rfl (zc_gtF hc2) rfl ?_
      refine y_pure (pc' := 14) (st' := [.int (nI 1)]) rfl rfl ?_
      refine y_pure (pc' := 18) rfl rfl ?_
      exact y_retZ rfl rfl (by decide) h
theorem e_M_holds {d : Nat} {x0 : Int32} {x1 : Int32} {M : ZM} {r : ZR}  (h : (if ((x0 >>> (x1 &&& 31)) &&& (nI 1)) = (nI 1) then some (some (.int (nI 1)), M) else some (some (.int (nI 0)), M)) = some r) : zEv (d + 1) zmM_holds [.int x0, .int x1] M = some r := by
  rw [zEv_succ]
  show zEx0 (zEv d) zmM_holds (0, [(0, .int x0), (1, .int x1)], [], M) = some r
  refine y_pure (pc' := 1) (st' := [.int x0]) rfl rfl ?_
  refine y_pure (pc' := 2) (st' := [.int x1, .int x0]) rfl rfl ?_
  refine y_pure (pc' := 3) (st' := [.int (x0 >>> (x1 &&& 31))]) rfl rfl ?_
  refine y_pure (pc' := 4) (st' := [.int (nI 1), .int (x0 >>> (x1 &&& 31))]) rfl rfl ?_
  refine y_pure (pc' := 5) (st' := [.int ((x0 >>> (x1 &&& 31)) &&& (nI 1))]) rfl rfl ?_
  refine y_pure (pc' := 6) (st' := [.int (nI 1), .int ((x0 >>> (x1 &&& 31)) &&& (nI 1))]) rfl rfl ?_
  rcases zif_inv h with ⟨hc1, h⟩ | ⟨hc1, h⟩
  · refine y_cmp (pc' := 9) rfl rfl (zc_neF hc1) rfl ?_
    refine y_pure (pc' := 10) (st' := [.int (nI 1)]) rfl rfl ?_
    refine y_pure (pc' := 14) rfl rfl ?_
    exact y_retZ rfl rfl (by decide) h
  · refine y_cmp (pc' := 13) rfl rfl (zc_neT hc1) rfl ?_
    refine y_pure (pc' := 14) (st' := [.int (nI 0)]) rfl rfl ?_
    exact y_retZ rfl rfl (by decide) h
noncomputable def h_M_bits_4 (d : Nat) (x0 : Int32) (x1 : Int32) (x2 : Int32) (M : ZM) : Option ZR := zEx0 (zEv d) zmM_bits (4, [(0, .int x0), (1, .int x1), (2, .int x2)], [], M)
theorem e_M_bits_4 {d : Nat} {x0 : Int32} {x1 : Int32} {x2 : Int32} {M : ZM} {r : ZR}  (h : (if x2 < (nI 32) then h_M_bits_4 d x0 (x1 + ((x0 >>> (x2 &&& 31)) &&& (nI 1))) (x2 + (nI 1)) M else some (some (.int x1), M)) = some r) : h_M_bits_4 d x0 x1 x2 M = some r := by
  show zEx0 (zEv d) zmM_bits (4, [(0, .int x0), (1, .int x1), (2, .int x2)], [], M) = some r
  refine y_pure (pc' := 5) (st' := [.int x2]) rfl rfl ?_
  refine y_pure (pc' := 7) (st' := [.int (nI 32), .int x2]) rfl rfl ?_
  rcases zif_inv h with ⟨hc1, h⟩ | ⟨hc1, h⟩
  · refine y_cmp (pc' := 10) rfl rfl (zc_geF hc1) rfl ?_
    refine y_pure (pc' := 11) (st' := [.int x1]) rfl rfl ?_
    refine y_pure (pc' := 12) (st' := [.int x0, .int x1]) rfl rfl ?_
    refine y_pure (pc' := 13) (st' := [.int x2, .int x0, .int x1]) rfl rfl ?_
    refine y_pure (pc' := 14) (st' := [.int (x0 >>> (x2 &&& 31)), .int x1]) rfl rfl ?_
    refine y_pure (pc' := 15) (st' := [.int (nI 1), .int (x0 >>> (x2 &&& 31)), .int x1]) rfl rfl ?_
    refine y_pure (pc' := 16) (st' := [.int ((x0 >>> (x2 &&& 31)) &&& (nI 1)), .int x1]) rfl rfl ?_
    refine y_pure (pc' := 17) (st' := [.int (x1 + ((x0 >>> (x2 &&& 31)) &&& (nI 1)))]) rfl rfl ?_
    refine y_pure (pc' := 18) (ls' := [(0, .int x0), (1, .int (x1 + ((x0 >>> (x2 &&& 31)) &&& (nI 1)))), (2, .int x2)]) (st' := []) rfl rfl ?_
    refine y_pure (pc' := 21) (ls' := [(0, .int x0), (1, .int (x1 + ((x0 >>> (x2 &&& 31)) &&& (nI 1)))), (2, .int (x2 + (nI 1)))]) (st' := []) rfl rfl ?_
    refine y_pure (pc' := 4) rfl rfl ?_
    refine zEx_sub ?_ h
    exact ⟨rfl, rfl, rfl, trivial⟩
  · refine y_cmp (pc' := 24) rfl rfl (zc_geT hc1) rfl ?_
    refine y_pure (pc' := 25) (st' := [.int x1]) rfl rfl ?_
    exact y_ret rfl rfl rfl rfl h
theorem e_M_bits {d : Nat} {x0 : Int32} {M : ZM} {r : ZR}  (h : h_M_bits_4 d x0 (nI 0) (nI 0) M = some r) : zEv (d + 1) zmM_bits [.int x0] M = some r := by
  rw [zEv_succ]
  show zEx0 (zEv d) zmM_bits (0, [(0, .int x0)], [], M) = some r
  refine y_pure (pc' := 1) (st' := [.int (nI 0)]) rfl rfl ?_
  refine y_pure (pc' := 2) (ls' := [(0, .int x0), (1, .int (nI 0))]) (st' := []) rfl rfl ?_
  refine y_pure (pc' := 3) (st' := [.int (nI 0)]) rfl rfl ?_
  refine y_pure (pc' := 4) (ls' := [(0, .int x0), (1, .int (nI 0)), (2, .int (nI 0))]) (st' := []) rfl rfl ?_
  refine zEx_sub ?_ h
  exact ⟨rfl, rfl, rfl, trivial⟩
theorem e_M_cells {d : Nat}  {M : ZM} {r : ZR}  (h : some (some (.int ((M.1 867 0) * (M.1 867 1))), M) = some r) : zEv (d + 1) zmM_cells [.ref 866] M = some r := by
  rw [zEv_succ]
  show zEx0 (zEv d) zmM_cells (0, [(0, .ref 866)], [], M) = some r
  refine y_pure (pc' := 1) (st' := [.ref 866]) rfl rfl ?_
  refine y_getf (pc' := 4) (v := .ref 867) rfl rfl rfl zc_866 rfl rfl ?_
  refine y_pure (pc' := 5) (st' := [.int (nI 0), .ref 867]) rfl rfl ?_
  refine y_iald (pc' := 6) rfl zc_867 (by decide) rfl ?_
  refine y_pure (pc' := 7) (st' := [.ref 866, .int (M.1 867 0)]) rfl rfl ?_
  refine y_getf (pc' := 10) (v := .ref 867) rfl rfl rfl zc_866 rfl rfl ?_
  refine y_pure (pc' := 11) (st' := [.int (nI 1), .ref 867, .int (M.1 867 0)]) rfl rfl ?_
  refine y_iald (pc' := 12) rfl zc_867 (by decide) rfl ?_
  refine y_pure (pc' := 13) (st' := [.int ((M.1 867 0) * (M.1 867 1))]) rfl rfl ?_
  exact y_ret rfl rfl rfl rfl h
theorem e_M_top {d : Nat}  {M : ZM} {r : ZR}  (h : some (some (.int (M.1 867 2)), M) = some r) : zEv (d + 1) zmM_top [.ref 866] M = some r := by
  rw [zEv_succ]
  show zEx0 (zEv d) zmM_top (0, [(0, .ref 866)], [], M) = some r
  refine y_pure (pc' := 1) (st' := [.ref 866]) rfl rfl ?_
  refine y_getf (pc' := 4) (v := .ref 867) rfl rfl rfl zc_866 rfl rfl ?_
  refine y_pure (pc' := 5) (st' := [.int (nI 2), .ref 867]) rfl rfl ?_
  refine y_iald (pc' := 6) rfl zc_867 (by decide) rfl ?_
  exact y_ret rfl rfl rfl rfl h
theorem e_M_isBoard {d : Nat}  {M : ZM} {r : ZR}  (h : zC1 (zEv d zmM_top [.ref 866] M) (fun v3 M2 => (if (nI 0) < v3 then some (some (.int (nI 1)), M2) else some (some (.int (nI 0)), M2))) = some r) : zEv (d + 1) zmM_isBoard [.ref 866] M = some r := by
  rw [zEv_succ]
  show zEx0 (zEv d) zmM_isBoard (0, [(0, .ref 866)], [], M) = some r
  refine y_pure (pc' := 1) (st' := [.ref 866]) rfl rfl ?_
  obtain ⟨v3, M2, he1, h⟩ := zC1_inv h
  refine y_callV (pc' := 4) (y := zmM_top) (a' := []) (st' := []) rfl rfl rfl rfl rfl (zrecv_o (o := 10) zc_866 rfl) rfl he1 rfl rfl ?_
  rcases zif_inv h with ⟨hc4, h⟩ | ⟨hc4, h⟩
  · refine y_cnd (pc' := 7) rfl rfl (zc_leF hc4) rfl ?_
    refine y_pure (pc' := 8) (st' := [.int (nI 1)]) rfl rfl ?_
    refine y_pure (pc' := 12) rfl rfl ?_
    exact y_retZ rfl rfl (by decide) h
  · refine y_cnd (pc' := 11) rfl rfl (zc_leT hc4) rfl ?_
    refine y_pure (pc' := 12) (st' := [.int (nI 0)]) rfl rfl ?_
    exact y_retZ rfl rfl (by decide) h
theorem e_M_isCell {d : Nat} {x1 : Int32} {M : ZM} {r : ZR}  (h : zC1 (zEv d zmM_cells [.ref 866] M) (fun v3 M2 => zC1 (zEv d zmM_in [.long (Int32.toInt64 x1), .long (nJ 0), .long (Int32.toInt64 (v3 - (nI 1)))] M2) (fun v6 M5 => (if v6 = nI 0 ∨ v6 = nI 1 then some (some (.int v6), M5) else none))) = some r) : zEv (d + 1) zmM_isCell [.ref 866, .int x1] M = some r := by
  rw [zEv_succ]
  show zEx0 (zEv d) zmM_isCell (0, [(0, .ref 866), (1, .int x1)], [], M) = some r
  refine y_pure (pc' := 1) (st' := [.int x1]) rfl rfl ?_
  refine y_pure (pc' := 2) (st' := [.long (Int32.toInt64 x1)]) rfl rfl ?_
  refine y_pure (pc' := 3) (st' := [.long (nJ 0), .long (Int32.toInt64 x1)]) rfl rfl ?_
  refine y_pure (pc' := 4) (st' := [.ref 866, .long (nJ 0), .long (Int32.toInt64 x1)]) rfl rfl ?_
  obtain ⟨v3, M2, he1, h⟩ := zC1_inv h
  refine y_callV (pc' := 7) (y := zmM_cells) (a' := []) (st' := [.long (nJ 0), .long (Int32.toInt64 x1)]) rfl rfl rfl rfl rfl (zrecv_o (o := 10) zc_866 rfl) rfl he1 rfl rfl ?_
  refine y_pure (pc' := 8) (st' := [.int (nI 1), .int v3, .long (nJ 0), .long (Int32.toInt64 x1)]) rfl rfl ?_
  refine y_pure (pc' := 9) (st' := [.int (v3 - (nI 1)), .long (nJ 0), .long (Int32.toInt64 x1)]) rfl rfl ?_
  refine y_pure (pc' := 10) (st' := [.long (Int32.toInt64 (v3 - (nI 1))), .long (nJ 0), .long (Int32.toInt64 x1)]) rfl rfl ?_
  obtain ⟨v6, M5, he4, h⟩ := zC1_inv h
  refine y_callS (pc' := 13) (y := zmM_in) (a := [.long (Int32.toInt64 x1), .long (nJ 0), .long (Int32.toInt64 (v3 - (nI 1)))]) (st' := []) rfl rfl rfl rfl rfl rfl he4 rfl rfl ?_
  obtain ⟨hb7, h⟩ := zg_inv h
  exact y_retZ rfl rfl hb7 h
theorem e_M_isOpen {d : Nat} {x1 : Int32} {M : ZM} {r : ZR}  (h : zC1 (zEv d zmM_isCell [.ref 866, .int x1] M) (fun v3 M2 => (if v3 = (nI 0) then some (some (.int (nI 0)), M2) else (if zin ((nI 4) + x1) 268 = true then (if (M2.1 867 (Int32.toNatClampNeg ((nI 4) + x1))) = (nI 0) then some (some (.int (nI 1)), M2) else some (some (.int (nI 0)), M2)) else none))) = some r) : zEv (d + 1) zmM_isOpen [.ref 866, .int x1] M = some r := by
  rw [zEv_succ]
  show zEx0 (zEv d) zmM_isOpen (0, [(0, .ref 866), (1, .int x1)], [], M) = some r
  refine y_pure (pc' := 1) (st' := [.ref 866]) rfl rfl ?_
  refine y_pure (pc' := 2) (st' := [.int x1, .ref 866]) rfl rfl ?_
  obtain ⟨v3, M2, he1, h⟩ := zC1_inv h
  refine y_callV (pc' := 5) (y := zmM_isCell) (a' := [.int x1]) (st' := []) rfl rfl rfl rfl rfl (zrecv_o (o := 10) zc_866 rfl) rfl he1 rfl rfl ?_
  rcases zif_inv h with ⟨hc4, h⟩ | ⟨hc4, h⟩
  · refine y_cnd (pc' := 23) rfl rfl (zc_eqT hc4) rfl ?_
    refine y_pure (pc' := 24) (st' := [.int (nI 0)]) rfl rfl ?_
    exact y_retZ rfl rfl (by decide) h
  · refine y_cnd (pc' := 8) rfl rfl (zc_eqF hc4) rfl ?_
    refine y_pure (pc' := 9) (st' := [.ref 866]) rfl rfl ?_
    refine y_getf (pc' := 12) (v := .ref 867) rfl rfl rfl zc_866 rfl rfl ?_
    refine y_pure (pc' := 13) (st' := [.int (nI 4), .ref 867]) rfl rfl ?_
    refine y_pure (pc' := 14) (st' := [.int x1, .int (nI 4), .ref 867]) rfl rfl ?_
    refine y_pure (pc' := 15) (st' := [.int ((nI 4) + x1), .ref 867]) rfl rfl ?_
    obtain ⟨hi5, h⟩ := zg_inv h
    refine y_iald (pc' := 16) rfl zc_867 hi5 rfl ?_
    rcases zif_inv h with ⟨hc6, h⟩ | ⟨hc6, h⟩
    · refine y_cnd (pc' := 19) rfl rfl (zc_neF hc6) rfl ?_
      refine y_pure (pc' := 20) (st' := [.int (nI 1)]) rfl rfl ?_
      refine y_pure (pc' := 24) rfl rfl ?_
      exact y_retZ rfl rfl (by decide) h
    · refine y_cnd (pc' := 23) rfl rfl (zc_neT hc6) rfl ?_
      refine y_pure (pc' := 24) (st' := [.int (nI 0)]) rfl rfl ?_
      exact y_retZ rfl rfl (by decide) h
theorem e_M_isDigit {d : Nat} {x1 : Int32} {M : ZM} {r : ZR}  (h : zC1 (zEv d zmM_top [.ref 866] M) (fun v3 M2 => zC1 (zEv d zmM_in [.long (Int32.toInt64 x1), .long (nJ 1), .long (Int32.toInt64 v3)] M2) (fun v6 M5 => (if v6 = nI 0 ∨ v6 = nI 1 then some (some (.int v6), M5) else none))) = some r) : zEv (d + 1) zmM_isDigit [.ref 866, .int x1] M = some r := by
  rw [zEv_succ]
  show zEx0 (zEv d) zmM_isDigit (0, [(0, .ref 866), (1, .int x1)], [], M) = some r
  refine y_pure (pc' := 1) (st' := [.int x1]) rfl rfl ?_
  refine y_pure (pc' := 2) (st' := [.long (Int32.toInt64 x1)]) rfl rfl ?_
  refine y_pure (pc' := 3) (st' := [.long (nJ 1), .long (Int32.toInt64 x1)]) rfl rfl ?_
  refine y_pure (pc' := 4) (st' := [.ref 866, .long (nJ 1), .long (Int32.toInt64 x1)]) rfl rfl ?_
  obtain ⟨v3, M2, he1, h⟩ := zC1_inv h
  refine y_callV (pc' := 7) (y := zmM_top) (a' := []) (st' := [.long (nJ 1), .long (Int32.toInt64 x1)]) rfl rfl rfl rfl rfl (zrecv_o (o := 10) zc_866 rfl) rfl he1 rfl rfl ?_
  refine y_pure (pc' := 8) (st' := [.long (Int32.toInt64 v3), .long (nJ 1), .long (Int32.toInt64 x1)]) rfl rfl ?_
  obtain ⟨v6, M5, he4, h⟩ := zC1_inv h
  refine y_callS (pc' := 11) (y := zmM_in) (a := [.long (Int32.toInt64 x1), .long (nJ 1), .long (Int32.toInt64 v3)]) (st' := []) rfl rfl rfl rfl rfl rfl he4 rfl rfl ?_
  obtain ⟨hb7, h⟩ := zg_inv h
  exact y_retZ rfl rfl hb7 h
theorem e_M_cages {d : Nat}  {M : ZM} {r : ZR}  (h : some (some (.int (M.1 867 3)), M) = some r) : zEv (d + 1) zmM_cages [.ref 866] M = some r := by
  rw [zEv_succ]
  show zEx0 (zEv d) zmM_cages (0, [(0, .ref 866)], [], M) = some r
  refine y_pure (pc' := 1) (st' := [.ref 866]) rfl rfl ?_
  refine y_getf (pc' := 4) (v := .ref 867) rfl rfl rfl zc_866 rfl rfl ?_
  refine y_pure (pc' := 5) (st' := [.int (nI 3), .ref 867]) rfl rfl ?_
  refine y_iald (pc' := 6) rfl zc_867 (by decide) rfl ?_
  exact y_ret rfl rfl rfl rfl h
theorem e_M_isCage {d : Nat} {x1 : Int32} {M : ZM} {r : ZR}  (h : zC1 (zEv d zmM_cages [.ref 866] M) (fun v3 M2 => zC1 (zEv d zmM_in [.long (Int32.toInt64 x1), .long (nJ 0), .long (Int32.toInt64 (v3 - (nI 1)))] M2) (fun v6 M5 => (if v6 = nI 0 ∨ v6 = nI 1 then some (some (.int v6), M5) else none))) = some r) : zEv (d + 1) zmM_isCage [.ref 866, .int x1] M = some r := by
  rw [zEv_succ]
  show zEx0 (zEv d) zmM_isCage (0, [(0, .ref 866), (1, .int x1)], [], M) = some r
  refine y_pure (pc' := 1) (st' := [.int x1]) rfl rfl ?_
  refine y_pure (pc' := 2) (st' := [.long (Int32.toInt64 x1)]) rfl rfl ?_
  refine y_pure (pc' := 3) (st' := [.long (nJ 0), .long (Int32.toInt64 x1)]) rfl rfl ?_
  refine y_pure (pc' := 4) (st' := [.ref 866, .long (nJ 0), .long (Int32.toInt64 x1)]) rfl rfl ?_
  obtain ⟨v3, M2, he1, h⟩ := zC1_inv h
  refine y_callV (pc' := 7) (y := zmM_cages) (a' := []) (st' := [.long (nJ 0), .long (Int32.toInt64 x1)]) rfl rfl rfl rfl rfl (zrecv_o (o := 10) zc_866 rfl) rfl he1 rfl rfl ?_
  refine y_pure (pc' := 8) (st' := [.int (nI 1), .int v3, .long (nJ 0), .long (Int32.toInt64 x1)]) rfl rfl ?_
  refine y_pure (pc' := 9) (st' := [.int (v3 - (nI 1)), .long (nJ 0), .long (Int32.toInt64 x1)]) rfl rfl ?_
  refine y_pure (pc' := 10) (st' := [.long (Int32.toInt64 (v3 - (nI 1))), .long (nJ 0), .long (Int32.toInt64 x1)]) rfl rfl ?_
  obtain ⟨v6, M5, he4, h⟩ := zC1_inv h
  refine y_callS (pc' := 13) (y := zmM_in) (a := [.long (Int32.toInt64 x1), .long (nJ 0), .long (Int32.toInt64 (v3 - (nI 1)))]) (st' := []) rfl rfl rfl rfl rfl rfl he4 rfl rfl ?_
  obtain ⟨hb7, h⟩ := zg_inv h
  exact y_retZ rfl rfl hb7 h
theorem e_M_of {d : Nat} {x1 : Int32} {x2 : Int32} {M : ZM} {r : ZR}  (h : (if zin (((nI 148) + ((nI 10) * x1)) + x2) 268 = true then some (some (.int (M.1 867 (Int32.toNatClampNeg (((nI 148) + ((nI 10) * x1)) + x2)))), M) else none) = some r) : zEv (d + 1) zmM_of [.ref 866, .int x1, .int x2] M = some r := by
  rw [zEv_succ]
  show zEx0 (zEv d) zmM_of (0, [(0, .ref 866), (1, .int x1), (2, .int x2)], [], M) = some r
  refine y_pure (pc' := 1) (st' := [.ref 866]) rfl rfl ?_
  refine y_getf (pc' := 4) (v := .ref 867) rfl rfl rfl zc_866 rfl rfl ?_
  refine y_pure (pc' := 7) (st' := [.int (nI 148), .ref 867]) rfl rfl ?_
  refine y_pure (pc' := 9) (st' := [.int (nI 10), .int (nI 148), .ref 867]) rfl rfl ?_
  refine y_pure (pc' := 10) (st' := [.int x1, .int (nI 10), .int (nI 148), .ref 867]) rfl rfl ?_
  refine y_pure (pc' := 11) (st' := [.int ((nI 10) * x1), .int (nI 148), .ref 867]) rfl rfl ?_
  refine y_pure (pc' := 12) (st' := [.int ((nI 148) + ((nI 10) * x1)), .ref 867]) rfl rfl ?_
  refine y_pure (pc' := 13) (st' := [.int x2, .int ((nI 148) + ((nI 10) * x1)), .ref 867]) rfl rfl ?_
  refine y_pure (pc' := 14) (st' := [.int (((nI 148) + ((nI 10) * x1)) + x2), .ref 867]) rfl rfl ?_
  obtain ⟨hi1, h⟩ := zg_inv h
  refine y_iald (pc' := 15) rfl zc_867 hi1 rfl ?_
  exact y_ret rfl rfl rfl rfl h
theorem e_M_cellOf {d : Nat} {x1 : Int32} {x2 : Int32} {M : ZM} {r : ZR}  (h : zC1 (zEv d zmM_of [.ref 866, .int x1, .int ((nI 4) + x2)] M) (fun v3 M2 => some (some (.int v3), M2)) = some r) : zEv (d + 1) zmM_cellOf [.ref 866, .int x1, .int x2] M = some r := by
  rw [zEv_succ]
  show zEx0 (zEv d) zmM_cellOf (0, [(0, .ref 866), (1, .int x1), (2, .int x2)], [], M) = some r
  refine y_pure (pc' := 1) (st' := [.ref 866]) rfl rfl ?_
  refine y_pure (pc' := 2) (st' := [.int x1, .ref 866]) rfl rfl ?_
  refine y_pure (pc' := 3) (st' := [.int (nI 4), .int x1, .ref 866]) rfl rfl ?_
  refine y_pure (pc' := 4) (st' := [.int x2, .int (nI 4), .int x1, .ref 866]) rfl rfl ?_
  refine y_pure (pc' := 5) (st' := [.int ((nI 4) + x2), .int x1, .ref 866]) rfl rfl ?_
  obtain ⟨v3, M2, he1, h⟩ := zC1_inv h
  refine y_callV (pc' := 8) (y := zmM_of) (a' := [.int x1, .int ((nI 4) + x2)]) (st' := []) rfl rfl rfl rfl rfl (zrecv_o (o := 10) zc_866 rfl) rfl he1 rfl rfl ?_
  exact y_ret rfl rfl rfl rfl h
theorem e_M_marks {d : Nat} {x1 : Int32} {M : ZM} {r : ZR}  (h : (if zin ((nI 112) + x1) 268 = true then some (some (.int (M.1 867 (Int32.toNatClampNeg ((nI 112) + x1)))), M) else none) = some r) : zEv (d + 1) zmM_marks [.ref 866, .int x1] M = some r := by
  rw [zEv_succ]
  show zEx0 (zEv d) zmM_marks (0, [(0, .ref 866), (1, .int x1)], [], M) = some r
  refine y_pure (pc' := 1) (st' := [.ref 866]) rfl rfl ?_
  refine y_getf (pc' := 4) (v := .ref 867) rfl rfl rfl zc_866 rfl rfl ?_
  refine y_pure (pc' := 6) (st' := [.int (nI 112), .ref 867]) rfl rfl ?_
  refine y_pure (pc' := 7) (st' := [.int x1, .int (nI 112), .ref 867]) rfl rfl ?_
  refine y_pure (pc' := 8) (st' := [.int ((nI 112) + x1), .ref 867]) rfl rfl ?_
  obtain ⟨hi1, h⟩ := zg_inv h
  refine y_iald (pc' := 9) rfl zc_867 hi1 rfl ?_
  exact y_ret rfl rfl rfl rfl h
theorem e_M_allMarks {d : Nat}  {M : ZM} {r : ZR}  (h : zC1 (zEv d zmM_top [.ref 866] M) (fun v3 M2 => some (some (.int (((nI 2) <<< (v3 &&& 31)) - (nI 2))), M2)) = some r) : zEv (d + 1) zmM_allMarks [.ref 866] M = some r := by
  rw [zEv_succ]
  show zEx0 (zEv d) zmM_allMarks (0, [(0, .ref 866)], [], M) = some r
  refine y_pure (pc' := 1) (st' := [.int (nI 2)]) rfl rfl ?_
  refine y_pure (pc' := 2) (st' := [.ref 866, .int (nI 2)]) rfl rfl ?_
  obtain ⟨v3, M2, he1, h⟩ := zC1_inv h
  refine y_callV (pc' := 5) (y := zmM_top) (a' := []) (st' := [.int (nI 2)]) rfl rfl rfl rfl rfl (zrecv_o (o := 10) zc_866 rfl) rfl he1 rfl rfl ?_
  refine y_pure (pc' := 6) (st' := [.int ((nI 2) <<< (v3 &&& 31))]) rfl rfl ?_
  refine y_pure (pc' := 7) (st' := [.int (nI 2), .int ((nI 2) <<< (v3 &&& 31))]) rfl rfl ?_
  refine y_pure (pc' := 8) (st' := [.int (((nI 2) <<< (v3 &&& 31)) - (nI 2))]) rfl rfl ?_
  exact y_ret rfl rfl rfl rfl h
theorem e_M_isDone {d : Nat} {x1 : Int32} {M : ZM} {r : ZR}  (h : (if zin ((nI 40) + x1) 268 = true then (if (nI 0) < (M.1 867 (Int32.toNatClampNeg ((nI 40) + x1))) then some (some (.int (nI 1)), M) else some (some (.int (nI 0)), M)) else none) = some r) : zEv (d + 1) zmM_isDone [.ref 866, .int x1] M = some r := by
  rw [zEv_succ]
  show zEx0 (zEv d) zmM_isDone (0, [(0, .ref 866), (1, .int x1)], [], M) = some r
  refine y_pure (pc' := 1) (st' := [.ref 866]) rfl rfl ?_
  refine y_getf (pc' := 4) (v := .ref 867) rfl rfl rfl zc_866 rfl rfl ?_
  refine y_pure (pc' := 6) (st' := [.int (nI 40), .ref 867]) rfl rfl ?_
  refine y_pure (pc' := 7) (st' := [.int x1, .int (nI 40), .ref 867]) rfl rfl ?_
  refine y_pure (pc' := 8) (st' := [.int ((nI 40) + x1), .ref 867]) rfl rfl ?_
  obtain ⟨hi1, h⟩ := zg_inv h
  refine y_iald (pc' := 9) rfl zc_867 hi1 rfl ?_
  rcases zif_inv h with ⟨hc2, h⟩ | ⟨hc2, h⟩
  · refine y_cnd (pc' := 12) rfl rfl (zc_leF hc2) rfl ?_
    refine y_pure (pc' := 13) (st' := [.int (nI 1)]) rfl rfl ?_
    refine y_pure (pc' := 17) rfl rfl ?_
    exact y_retZ rfl rfl (by decide) h
  · refine y_cnd (pc' := 16) rfl rfl (zc_leT hc2) rfl ?_
    refine y_pure (pc' := 17) (st' := [.int (nI 0)]) rfl rfl ?_
    exact y_retZ rfl rfl (by decide) h
noncomputable def h_M_placeIn_2 (d : Nat) (x1 : Int32) (x2 : Int32) (x3 : Int32) (M : ZM) : Option ZR := zEx0 (zEv d) zmM_placeIn (2, [(0, .ref 866), (1, .int x1), (2, .int x2), (3, .int x3)], [], M)
theorem e_M_placeIn_2 {d : Nat} {x1 : Int32} {x2 : Int32} {x3 : Int32} {M : ZM} {r : ZR}  (h : zC1 (zEv d zmM_of [.ref 866, .int x1, .int (nI 3)] M) (fun v3 M2 => (if x3 < v3 then zC1 (zEv d zmM_cellOf [.ref 866, .int x1, .int x3] M2) (fun v7 M6 => (if v7 = x2 then some (some (.int x3), M6) else h_M_placeIn_2 d x1 x2 (x3 + (nI 1)) M6)) else some (some (.int (-1 : Int32)), M2))) = some r) : h_M_placeIn_2 d x1 x2 x3 M = some r := by
  show zEx0 (zEv d) zmM_placeIn (2, [(0, .ref 866), (1, .int x1), (2, .int x2), (3, .int x3)], [], M) = some r
  refine y_pure (pc' := 3) (st' := [.int x3]) rfl rfl ?_
  refine y_pure (pc' := 4) (st' := [.ref 866, .int x3]) rfl rfl ?_
  refine y_pure (pc' := 5) (st' := [.int x1, .ref 866, .int x3]) rfl rfl ?_
  refine y_pure (pc' := 6) (st' := [.int (nI 3), .int x1, .ref 866, .int x3]) rfl rfl ?_
  obtain ⟨v3, M2, he1, h⟩ := zC1_inv h
  refine y_callV (pc' := 9) (y := zmM_of) (a' := [.int x1, .int (nI 3)]) (st' := [.int x3]) rfl rfl rfl rfl rfl (zrecv_o (o := 10) zc_866 rfl) rfl he1 rfl rfl ?_
  rcases zif_inv h with ⟨hc4, h⟩ | ⟨hc4, h⟩
  · refine y_cmp (pc' := 12) rfl rfl (zc_geF hc4) rfl ?_
    refine y_pure (pc' := 13) (st' := [.ref 866]) rfl rfl ?_
    refine y_pure (pc' := 14) (st' := [.int x1, .ref 866]) rfl rfl ?_
    refine y_pure (pc' := 15) (st' := [.int x3, .int x1, .ref 866]) rfl rfl ?_
    obtain ⟨v7, M6, he5, h⟩ := zC1_inv h
    refine y_callV (pc' := 18) (y := zmM_cellOf) (a' := [.int x1, .int x3]) (st' := []) rfl rfl rfl rfl rfl (zrecv_o (o := 10) zc_866 rfl) rfl he5 rfl rfl ?_
    refine y_pure (pc' := 19) (st' := [.int x2, .int v7]) rfl rfl ?_
    rcases zif_inv h with ⟨hc8, h⟩ | ⟨hc8, h⟩
    · refine y_cmp (pc' := 22) rfl rfl (zc_neF hc8) rfl ?_
      refine y_pure (pc' := 23) (st' := [.int x3]) rfl rfl ?_
      exact y_ret rfl rfl rfl rfl h
    · refine y_cmp (pc' := 24) rfl rfl (zc_neT hc8) rfl ?_
      refine y_pure (pc' := 27) (ls' := [(0, .ref 866), (1, .int x1), (2, .int x2), (3, .int (x3 + (nI 1)))]) (st' := []) rfl rfl ?_
      refine y_pure (pc' := 2) rfl rfl ?_
      refine zEx_sub ?_ h
      exact ⟨rfl, rfl, rfl, rfl, trivial⟩
  · refine y_cmp (pc' := 30) rfl rfl (zc_geT hc4) rfl ?_
    refine y_pure (pc' := 31) (st' := [.int (-1 : Int32)]) rfl rfl ?_
    exact y_ret rfl rfl rfl rfl h
theorem e_M_placeIn {d : Nat} {x1 : Int32} {x2 : Int32} {M : ZM} {r : ZR}  (h : h_M_placeIn_2 d x1 x2 (nI 0) M = some r) : zEv (d + 1) zmM_placeIn [.ref 866, .int x1, .int x2] M = some r := by
  rw [zEv_succ]
  show zEx0 (zEv d) zmM_placeIn (0, [(0, .ref 866), (1, .int x1), (2, .int x2)], [], M) = some r
  refine y_pure (pc' := 1) (st' := [.int (nI 0)]) rfl rfl ?_
  refine y_pure (pc' := 2) (ls' := [(0, .ref 866), (1, .int x1), (2, .int x2), (3, .int (nI 0))]) (st' := []) rfl rfl ?_
  refine zEx_sub ?_ h
  exact ⟨rfl, rfl, rfl, rfl, trivial⟩
noncomputable def h_M_cagesOf_4 (d : Nat) (x1 : Int32) (x2 : Int32) (x3 : Int32) (M : ZM) : Option ZR := zEx0 (zEv d) zmM_cagesOf (4, [(0, .ref 866), (1, .int x1), (2, .int x2), (3, .int x3)], [], M)
theorem e_M_cagesOf_4 {d : Nat} {x1 : Int32} {x2 : Int32} {x3 : Int32} {M : ZM} {r : ZR}  (h : zC1 (zEv d zmM_cages [.ref 866] M) (fun v3 M2 => (if x3 < v3 then zC1 (zEv d zmM_placeIn [.ref 866, .int x3, .int x1] M2) (fun v7 M6 => (if v7 = (-1 : Int32) then h_M_cagesOf_4 d x1 (x2 ||| (nI 0)) (x3 + (nI 1)) M6 else h_M_cagesOf_4 d x1 (x2 ||| ((nI 1) <<< (x3 &&& 31))) (x3 + (nI 1)) M6)) else some (some (.int x2), M2))) = some r) : h_M_cagesOf_4 d x1 x2 x3 M = some r := by
  show zEx0 (zEv d) zmM_cagesOf (4, [(0, .ref 866), (1, .int x1), (2, .int x2), (3, .int x3)], [], M) = some r
  refine y_pure (pc' := 5) (st' := [.int x3]) rfl rfl ?_
  refine y_pure (pc' := 6) (st' := [.ref 866, .int x3]) rfl rfl ?_
  obtain ⟨v3, M2, he1, h⟩ := zC1_inv h
  refine y_callV (pc' := 9) (y := zmM_cages) (a' := []) (st' := [.int x3]) rfl rfl rfl rfl rfl (zrecv_o (o := 10) zc_866 rfl) rfl he1 rfl rfl ?_
  rcases zif_inv h with ⟨hc4, h⟩ | ⟨hc4, h⟩
  · refine y_cmp (pc' := 12) rfl rfl (zc_geF hc4) rfl ?_
    refine y_pure (pc' := 13) (st' := [.int x2]) rfl rfl ?_
    refine y_pure (pc' := 14) (st' := [.ref 866, .int x2]) rfl rfl ?_
    refine y_pure (pc' := 15) (st' := [.int x3, .ref 866, .int x2]) rfl rfl ?_
    refine y_pure (pc' := 16) (st' := [.int x1, .int x3, .ref 866, .int x2]) rfl rfl ?_
    obtain ⟨v7, M6, he5, h⟩ := zC1_inv h
    refine y_callV (pc' := 19) (y := zmM_placeIn) (a' := [.int x3, .int x1]) (st' := [.int x2]) rfl rfl rfl rfl rfl (zrecv_o (o := 10) zc_866 rfl) rfl he5 rfl rfl ?_
    refine y_pure (pc' := 20) (st' := [.int (-1 : Int32), .int v7, .int x2]) rfl rfl ?_
    rcases zif_inv h with ⟨hc8, h⟩ | ⟨hc8, h⟩
    · refine y_cmp (pc' := 23) rfl rfl (zc_neF hc8) rfl ?_
      refine y_pure (pc' := 24) (st' := [.int (nI 0), .int x2]) rfl rfl ?_
      refine y_pure (pc' := 30) rfl rfl ?_
      refine y_pure (pc' := 31) (st' := [.int (x2 ||| (nI 0))]) rfl rfl ?_
      refine y_pure (pc' := 32) (ls' := [(0, .ref 866), (1, .int x1), (2, .int (x2 ||| (nI 0))), (3, .int x3)]) (st' := []) rfl rfl ?_
      refine y_pure (pc' := 35) (ls' := [(0, .ref 866), (1, .int x1), (2, .int (x2 ||| (nI 0))), (3, .int (x3 + (nI 1)))]) (st' := []) rfl rfl ?_
      refine y_pure (pc' := 4) rfl rfl ?_
      refine zEx_sub ?_ h
      exact ⟨rfl, rfl, rfl, rfl, trivial⟩
    · refine y_cmp (pc' := 27) rfl rfl (zc_neT hc8) rfl ?_
      refine y_pure (pc' := 28) (st' := [.int (nI 1), .int x2]) rfl rfl ?_
      refine y_pure (pc' := 29) (st' := [.int x3, .int (nI 1), .int x2]) rfl rfl ?_
      refine y_pure (pc' := 30) (st' := [.int ((nI 1) <<< (x3 &&& 31)), .int x2]) rfl rfl ?_
      refine y_pure (pc' := 31) (st' := [.int (x2 ||| ((nI 1) <<< (x3 &&& 31)))]) rfl rfl ?_
      refine y_pure (pc' := 32) (ls' := [(0, .ref 866), (1, .int x1), (2, .int (x2 ||| ((nI 1) <<< (x3 &&& 31)))), (3, .int x3)]) (st' := []) rfl rfl ?_
      refine y_pure (pc' := 35) (ls' := [(0, .ref 866), (1, .int x1), (2, .int (x2 ||| ((nI 1) <<< (x3 &&& 31)))), (3, .int (x3 + (nI 1)))]) (st' := []) rfl rfl ?_
      refine y_pure (pc' := 4) rfl rfl ?_
      refine zEx_sub ?_ h
      exact ⟨rfl, rfl, rfl, rfl, trivial⟩
  · refine y_cmp (pc' := 38) rfl rfl (zc_geT hc4) rfl ?_
    refine y_pure (pc' := 39) (st' := [.int x2]) rfl rfl ?_
    exact y_ret rfl rfl rfl rfl h
theorem e_M_cagesOf {d : Nat} {x1 : Int32} {M : ZM} {r : ZR}  (h : h_M_cagesOf_4 d x1 (nI 0) (nI 0) M = some r) : zEv (d + 1) zmM_cagesOf [.ref 866, .int x1] M = some r := by
  rw [zEv_succ]
  show zEx0 (zEv d) zmM_cagesOf (0, [(0, .ref 866), (1, .int x1)], [], M) = some r
  refine y_pure (pc' := 1) (st' := [.int (nI 0)]) rfl rfl ?_
  refine y_pure (pc' := 2) (ls' := [(0, .ref 866), (1, .int x1), (2, .int (nI 0))]) (st' := []) rfl rfl ?_
  refine y_pure (pc' := 3) (st' := [.int (nI 0)]) rfl rfl ?_
  refine y_pure (pc' := 4) (ls' := [(0, .ref 866), (1, .int x1), (2, .int (nI 0)), (3, .int (nI 0))]) (st' := []) rfl rfl ?_
  refine zEx_sub ?_ h
  exact ⟨rfl, rfl, rfl, rfl, trivial⟩
noncomputable def h_M_least_2 (d : Nat) (x1 : Int32) (x2 : Int32) (M : ZM) : Option ZR := zEx0 (zEv d) zmM_least (2, [(1, .int x1), (2, .int x2)], [], M)
theorem e_M_least_2 {d : Nat} {x1 : Int32} {x2 : Int32} {M : ZM} {r : ZR}  (h : zC1 (zEv d zmM_holds [.int x1, .int x2] M) (fun v3 M2 => (if v3 = (nI 0) then h_M_least_2 d x1 (x2 + (nI 1)) M2 else some (some (.int x2), M2))) = some r) : h_M_least_2 d x1 x2 M = some r := by
  show zEx0 (zEv d) zmM_least (2, [(1, .int x1), (2, .int x2)], [], M) = some r
  refine y_pure (pc' := 3) (st' := [.int x1]) rfl rfl ?_
  refine y_pure (pc' := 4) (st' := [.int x2, .int x1]) rfl rfl ?_
  obtain ⟨v3, M2, he1, h⟩ := zC1_inv h
  refine y_callS (pc' := 7) (y := zmM_holds) (a := [.int x1, .int x2]) (st' := []) rfl rfl rfl rfl rfl rfl he1 rfl rfl ?_
  rcases zif_inv h with ⟨hc4, h⟩ | ⟨hc4, h⟩
  · refine y_cnd (pc' := 10) rfl rfl (zc_neF hc4) rfl ?_
    refine y_pure (pc' := 13) (ls' := [(1, .int x1), (2, .int (x2 + (nI 1)))]) (st' := []) rfl rfl ?_
    refine y_pure (pc' := 2) rfl rfl ?_
    refine zEx_sub ?_ h
    exact ⟨rfl, rfl, trivial⟩
  · refine y_cnd (pc' := 16) rfl rfl (zc_neT hc4) rfl ?_
    refine y_pure (pc' := 17) (st' := [.int x2]) rfl rfl ?_
    exact y_ret rfl rfl rfl rfl h
theorem e_M_least {d : Nat} {x1 : Int32} {M : ZM} {r : ZR}  (h : h_M_least_2 d x1 (nI 1) M = some r) : zEv (d + 1) zmM_least [.ref 866, .int x1] M = some r := by
  rw [zEv_succ]
  show zEx0 (zEv d) zmM_least (0, [(0, .ref 866), (1, .int x1)], [], M) = some r
  refine y_pure (pc' := 1) (st' := [.int (nI 1)]) rfl rfl ?_
  refine y_pure (pc' := 2) (ls' := [(0, .ref 866), (1, .int x1), (2, .int (nI 1))]) (st' := []) rfl rfl ?_
  refine zEx_sub ?_ h
  exact ⟨rfl, rfl, trivial⟩
noncomputable def h_M_totalBy_15 (d : Nat) (x1 : Int32) (x2 : Int32) (x3 : Int32) (x4 : Int32) (x5 : Int32) (x6 : Int32) (x7 : Int32) (M : ZM) : Option ZR := zEx0 (zEv d) zmM_totalBy (15, [(0, .ref 866), (1, .int x1), (2, .int x2), (3, .int x3), (4, .int x4), (5, .int x5), (6, .int x6), (7, .int x7)], [], M)
theorem e_M_totalBy_15 {d : Nat} {x1 : Int32} {x2 : Int32} {x3 : Int32} {x4 : Int32} {x5 : Int32} {x6 : Int32} {x7 : Int32} {M : ZM} {r : ZR}  (h : (if x7 < x2 then (if zin x7 6 = true then (if (M.1 872 (Int32.toNatClampNeg x7)) < x5 then (if x6 < (M.1 872 (Int32.toNatClampNeg x7)) then h_M_totalBy_15 d x1 x2 (x3 + (M.1 872 (Int32.toNatClampNeg x7))) (x4 * (M.1 872 (Int32.toNatClampNeg x7))) (M.1 872 (Int32.toNatClampNeg x7)) (M.1 872 (Int32.toNatClampNeg x7)) (x7 + (nI 1)) M else h_M_totalBy_15 d x1 x2 (x3 + (M.1 872 (Int32.toNatClampNeg x7))) (x4 * (M.1 872 (Int32.toNatClampNeg x7))) (M.1 872 (Int32.toNatClampNeg x7)) x6 (x7 + (nI 1)) M) else (if x6 < (M.1 872 (Int32.toNatClampNeg x7)) then h_M_totalBy_15 d x1 x2 (x3 + (M.1 872 (Int32.toNatClampNeg x7))) (x4 * (M.1 872 (Int32.toNatClampNeg x7))) x5 (M.1 872 (Int32.toNatClampNeg x7)) (x7 + (nI 1)) M else h_M_totalBy_15 d x1 x2 (x3 + (M.1 872 (Int32.toNatClampNeg x7))) (x4 * (M.1 872 (Int32.toNatClampNeg x7))) x5 x6 (x7 + (nI 1)) M)) else none) else (if x1 = (nI 0) then some (some (.int x3), M) else (if x1 = (nI 1) then some (some (.int x4), M) else (if x1 = (nI 2) then some (some (.int (x6 - x5)), M) else some (some (.int (nI 0)), M))))) = some r) : h_M_totalBy_15 d x1 x2 x3 x4 x5 x6 x7 M = some r := by
  show zEx0 (zEv d) zmM_totalBy (15, [(0, .ref 866), (1, .int x1), (2, .int x2), (3, .int x3), (4, .int x4), (5, .int x5), (6, .int x6), (7, .int x7)], [], M) = some r
  refine y_pure (pc' := 17) (st' := [.int x7]) rfl rfl ?_
  refine y_pure (pc' := 18) (st' := [.int x2, .int x7]) rfl rfl ?_
  rcases zif_inv h with ⟨hc1, h⟩ | ⟨hc1, h⟩
  · refine y_cmp (pc' := 21) rfl rfl (zc_geF hc1) rfl ?_
    refine y_pure (pc' := 22) (st' := [.int x3]) rfl rfl ?_
    refine y_pure (pc' := 23) (st' := [.ref 866, .int x3]) rfl rfl ?_
    refine y_getf (pc' := 26) (v := .ref 872) rfl rfl rfl zc_866 rfl rfl ?_
    refine y_pure (pc' := 28) (st' := [.int x7, .ref 872, .int x3]) rfl rfl ?_
    obtain ⟨hi2, h⟩ := zg_inv h
    refine y_iald (pc' := 29) rfl zc_872 hi2 rfl ?_
    refine y_pure (pc' := 30) (st' := [.int (x3 + (M.1 872 (Int32.toNatClampNeg x7)))]) rfl rfl ?_
    refine y_pure (pc' := 31) (ls' := [(0, .ref 866), (1, .int x1), (2, .int x2), (3, .int (x3 + (M.1 872 (Int32.toNatClampNeg x7)))), (4, .int x4), (5, .int x5), (6, .int x6), (7, .int x7)]) (st' := []) rfl rfl ?_
    refine y_pure (pc' := 33) (st' := [.int x4]) rfl rfl ?_
    refine y_pure (pc' := 34) (st' := [.ref 866, .int x4]) rfl rfl ?_
    refine y_getf (pc' := 37) (v := .ref 872) rfl rfl rfl zc_866 rfl rfl ?_
    refine y_pure (pc' := 39) (st' := [.int x7, .ref 872, .int x4]) rfl rfl ?_
    refine y_iald (pc' := 40) rfl zc_872 hi2 rfl ?_
    refine y_pure (pc' := 41) (st' := [.int (x4 * (M.1 872 (Int32.toNatClampNeg x7)))]) rfl rfl ?_
    refine y_pure (pc' := 43) (ls' := [(0, .ref 866), (1, .int x1), (2, .int x2), (3, .int (x3 + (M.1 872 (Int32.toNatClampNeg x7)))), (4, .int (x4 * (M.1 872 (Int32.toNatClampNeg x7)))), (5, .int x5), (6, .int x6), (7, .int x7)]) (st' := []) rfl rfl ?_
    refine y_pure (pc' := 44) (st' := [.ref 866]) rfl rfl ?_
    refine y_getf (pc' := 47) (v := .ref 872) rfl rfl rfl zc_866 rfl rfl ?_
    refine y_pure (pc' := 49) (st' := [.int x7, .ref 872]) rfl rfl ?_
    refine y_iald (pc' := 50) rfl zc_872 hi2 rfl ?_
    refine y_pure (pc' := 52) (st' := [.int x5, .int (M.1 872 (Int32.toNatClampNeg x7))]) rfl rfl ?_
    rcases zif_inv h with ⟨hc3, h⟩ | ⟨hc3, h⟩
    · refine y_cmp (pc' := 55) rfl rfl (zc_geF hc3) rfl ?_
      refine y_pure (pc' := 56) (st' := [.ref 866]) rfl rfl ?_
      refine y_getf (pc' := 59) (v := .ref 872) rfl rfl rfl zc_866 rfl rfl ?_
      refine y_pure (pc' := 61) (st' := [.int x7, .ref 872]) rfl rfl ?_
      refine y_iald (pc' := 62) rfl zc_872 hi2 rfl ?_
      refine y_pure (pc' := 67) rfl rfl ?_
      refine y_pure (pc' := 69) (ls' := [(0, .ref 866), (1, .int x1), (2, .int x2), (3, .int (x3 + (M.1 872 (Int32.toNatClampNeg x7)))), (4, .int (x4 * (M.1 872 (Int32.toNatClampNeg x7)))), (5, .int (M.1 872 (Int32.toNatClampNeg x7))), (6, .int x6), (7, .int x7)]) (st' := []) rfl rfl ?_
      refine y_pure (pc' := 70) (st' := [.ref 866]) rfl rfl ?_
      refine y_getf (pc' := 73) (v := .ref 872) rfl rfl rfl zc_866 rfl rfl ?_
      refine y_pure (pc' := 75) (st' := [.int x7, .ref 872]) rfl rfl ?_
      refine y_iald (pc' := 76) rfl zc_872 hi2 rfl ?_
      refine y_pure (pc' := 78) (st' := [.int x6, .int (M.1 872 (Int32.toNatClampNeg x7))]) rfl rfl ?_
      rcases zif_inv h with ⟨hc4, h⟩ | ⟨hc4, h⟩
      · refine y_cmp (pc' := 81) rfl rfl (zc_leF hc4) rfl ?_
        refine y_pure (pc' := 82) (st' := [.ref 866]) rfl rfl ?_
        refine y_getf (pc' := 85) (v := .ref 872) rfl rfl rfl zc_866 rfl rfl ?_
        refine y_pure (pc' := 87) (st' := [.int x7, .ref 872]) rfl rfl ?_
        refine y_iald (pc' := 88) rfl zc_872 hi2 rfl ?_
        refine y_pure (pc' := 93) rfl rfl ?_
        refine y_pure (pc' := 95) (ls' := [(0, .ref 866), (1, .int x1), (2, .int x2), (3, .int (x3 + (M.1 872 (Int32.toNatClampNeg x7)))), (4, .int (x4 * (M.1 872 (Int32.toNatClampNeg x7)))), (5, .int (M.1 872 (Int32.toNatClampNeg x7))), (6, .int (M.1 872 (Int32.toNatClampNeg x7))), (7, .int x7)]) (st' := []) rfl rfl ?_
        refine y_pure (pc' := 98) (ls' := [(0, .ref 866), (1, .int x1), (2, .int x2), (3, .int (x3 + (M.1 872 (Int32.toNatClampNeg x7)))), (4, .int (x4 * (M.1 872 (Int32.toNatClampNeg x7)))), (5, .int (M.1 872 (Int32.toNatClampNeg x7))), (6, .int (M.1 872 (Int32.toNatClampNeg x7))), (7, .int (x7 + (nI 1)))]) (st' := []) rfl rfl ?_
        refine y_pure (pc' := 15) rfl rfl ?_
        refine zEx_sub ?_ h
        exact ⟨rfl, rfl, rfl, rfl, rfl, rfl, rfl, rfl, trivial⟩
      · refine y_cmp (pc' := 91) rfl rfl (zc_leT hc4) rfl ?_
        refine y_pure (pc' := 93) (st' := [.int x6]) rfl rfl ?_
        refine y_pure (pc' := 95) (ls' := [(0, .ref 866), (1, .int x1), (2, .int x2), (3, .int (x3 + (M.1 872 (Int32.toNatClampNeg x7)))), (4, .int (x4 * (M.1 872 (Int32.toNatClampNeg x7)))), (5, .int (M.1 872 (Int32.toNatClampNeg x7))), (6, .int x6), (7, .int x7)]) (st' := []) rfl rfl ?_
        refine y_pure (pc' := 98) (ls' := [(0, .ref 866), (1, .int x1), (2, .int x2), (3, .int (x3 + (M.1 872 (Int32.toNatClampNeg x7)))), (4, .int (x4 * (M.1 872 (Int32.toNatClampNeg x7)))), (5, .int (M.1 872 (Int32.toNatClampNeg x7))), (6, .int x6), (7, .int (x7 + (nI 1)))]) (st' := []) rfl rfl ?_
        refine y_pure (pc' := 15) rfl rfl ?_
        refine zEx_sub ?_ h
        exact ⟨rfl, rfl, rfl, rfl, rfl, rfl, rfl, rfl, trivial⟩
    · refine y_cmp (pc' := 65) rfl rfl (zc_geT hc3) rfl ?_
      refine y_pure (pc' := 67) (st' := [.int x5]) rfl rfl ?_
      refine y_pure (pc' := 69) (ls' := [(0, .ref 866), (1, .int x1), (2, .int x2), (3, .int (x3 + (M.1 872 (Int32.toNatClampNeg x7)))), (4, .int (x4 * (M.1 872 (Int32.toNatClampNeg x7)))), (5, .int x5), (6, .int x6), (7, .int x7)]) (st' := []) rfl rfl ?_
      refine y_pure (pc' := 70) (st' := [.ref 866]) rfl rfl ?_
      refine y_getf (pc' := 73) (v := .ref 872) rfl rfl rfl zc_866 rfl rfl ?_
      refine y_pure (pc' := 75) (st' := [.int x7, .ref 872]) rfl rfl ?_
      refine y_iald (pc' := 76) rfl zc_872 hi2 rfl ?_
      refine y_pure (pc' := 78) (st' := [.int x6, .int (M.1 872 (Int32.toNatClampNeg x7))]) rfl rfl ?_
      rcases zif_inv h with ⟨hc5, h⟩ | ⟨hc5, h⟩
      · refine y_cmp (pc' := 81) rfl rfl (zc_leF hc5) rfl ?_
        refine y_pure (pc' := 82) (st' := [.ref 866]) rfl rfl ?_
        refine y_getf (pc' := 85) (v := .ref 872) rfl rfl rfl zc_866 rfl rfl ?_
        refine y_pure (pc' := 87) (st' := [.int x7, .ref 872]) rfl rfl ?_
        refine y_iald (pc' := 88) rfl zc_872 hi2 rfl ?_
        refine y_pure (pc' := 93) rfl rfl ?_
        refine y_pure (pc' := 95) (ls' := [(0, .ref 866), (1, .int x1), (2, .int x2), (3, .int (x3 + (M.1 872 (Int32.toNatClampNeg x7)))), (4, .int (x4 * (M.1 872 (Int32.toNatClampNeg x7)))), (5, .int x5), (6, .int (M.1 872 (Int32.toNatClampNeg x7))), (7, .int x7)]) (st' := []) rfl rfl ?_
        refine y_pure (pc' := 98) (ls' := [(0, .ref 866), (1, .int x1), (2, .int x2), (3, .int (x3 + (M.1 872 (Int32.toNatClampNeg x7)))), (4, .int (x4 * (M.1 872 (Int32.toNatClampNeg x7)))), (5, .int x5), (6, .int (M.1 872 (Int32.toNatClampNeg x7))), (7, .int (x7 + (nI 1)))]) (st' := []) rfl rfl ?_
        refine y_pure (pc' := 15) rfl rfl ?_
        refine zEx_sub ?_ h
        exact ⟨rfl, rfl, rfl, rfl, rfl, rfl, rfl, rfl, trivial⟩
      · refine y_cmp (pc' := 91) rfl rfl (zc_leT hc5) rfl ?_
        refine y_pure (pc' := 93) (st' := [.int x6]) rfl rfl ?_
        refine y_pure (pc' := 95) (ls' := [(0, .ref 866), (1, .int x1), (2, .int x2), (3, .int (x3 + (M.1 872 (Int32.toNatClampNeg x7)))), (4, .int (x4 * (M.1 872 (Int32.toNatClampNeg x7)))), (5, .int x5), (6, .int x6), (7, .int x7)]) (st' := []) rfl rfl ?_
        refine y_pure (pc' := 98) (ls' := [(0, .ref 866), (1, .int x1), (2, .int x2), (3, .int (x3 + (M.1 872 (Int32.toNatClampNeg x7)))), (4, .int (x4 * (M.1 872 (Int32.toNatClampNeg x7)))), (5, .int x5), (6, .int x6), (7, .int (x7 + (nI 1)))]) (st' := []) rfl rfl ?_
        refine y_pure (pc' := 15) rfl rfl ?_
        refine zEx_sub ?_ h
        exact ⟨rfl, rfl, rfl, rfl, rfl, rfl, rfl, rfl, trivial⟩
  · refine y_cmp (pc' := 101) rfl rfl (zc_geT hc1) rfl ?_
    refine y_pure (pc' := 102) (st' := [.int x1]) rfl rfl ?_
    rcases zif_inv h with ⟨hc6, h⟩ | ⟨hc6, h⟩
    · refine y_cnd (pc' := 105) rfl rfl (zc_neF hc6) rfl ?_
      refine y_pure (pc' := 106) (st' := [.int x3]) rfl rfl ?_
      refine y_pure (pc' := 133) rfl rfl ?_
      exact y_ret rfl rfl rfl rfl h
    · refine y_cnd (pc' := 109) rfl rfl (zc_neT hc6) rfl ?_
      refine y_pure (pc' := 110) (st' := [.int x1]) rfl rfl ?_
      refine y_pure (pc' := 111) (st' := [.int (nI 1), .int x1]) rfl rfl ?_
      rcases zif_inv h with ⟨hc7, h⟩ | ⟨hc7, h⟩
      · refine y_cmp (pc' := 114) rfl rfl (zc_neF hc7) rfl ?_
        refine y_pure (pc' := 116) (st' := [.int x4]) rfl rfl ?_
        refine y_pure (pc' := 133) rfl rfl ?_
        exact y_ret rfl rfl rfl rfl h
      · refine y_cmp (pc' := 119) rfl rfl (zc_neT hc7) rfl ?_
        refine y_pure (pc' := 120) (st' := [.int x1]) rfl rfl ?_
        refine y_pure (pc' := 121) (st' := [.int (nI 2), .int x1]) rfl rfl ?_
        rcases zif_inv h with ⟨hc8, h⟩ | ⟨hc8, h⟩
        · refine y_cmp (pc' := 124) rfl rfl (zc_neF hc8) rfl ?_
          refine y_pure (pc' := 126) (st' := [.int x6]) rfl rfl ?_
          refine y_pure (pc' := 128) (st' := [.int x5, .int x6]) rfl rfl ?_
          refine y_pure (pc' := 129) (st' := [.int (x6 - x5)]) rfl rfl ?_
          refine y_pure (pc' := 133) rfl rfl ?_
          exact y_ret rfl rfl rfl rfl h
        · refine y_cmp (pc' := 132) rfl rfl (zc_neT hc8) rfl ?_
          refine y_pure (pc' := 133) (st' := [.int (nI 0)]) rfl rfl ?_
          exact y_ret rfl rfl rfl rfl h
theorem e_M_totalBy {d : Nat} {x1 : Int32} {x2 : Int32} {M : ZM} {r : ZR}  (h : h_M_totalBy_15 d x1 x2 (nI 0) (nI 1) (nI 9) (nI 0) (nI 0) M = some r) : zEv (d + 1) zmM_totalBy [.ref 866, .int x1, .int x2] M = some r := by
  rw [zEv_succ]
  show zEx0 (zEv d) zmM_totalBy (0, [(0, .ref 866), (1, .int x1), (2, .int x2)], [], M) = some r
  refine y_pure (pc' := 1) (st' := [.int (nI 0)]) rfl rfl ?_
  refine y_pure (pc' := 2) (ls' := [(0, .ref 866), (1, .int x1), (2, .int x2), (3, .int (nI 0))]) (st' := []) rfl rfl ?_
  refine y_pure (pc' := 3) (st' := [.int (nI 1)]) rfl rfl ?_
  refine y_pure (pc' := 5) (ls' := [(0, .ref 866), (1, .int x1), (2, .int x2), (3, .int (nI 0)), (4, .int (nI 1))]) (st' := []) rfl rfl ?_
  refine y_pure (pc' := 7) (st' := [.int (nI 9)]) rfl rfl ?_
  refine y_pure (pc' := 9) (ls' := [(0, .ref 866), (1, .int x1), (2, .int x2), (3, .int (nI 0)), (4, .int (nI 1)), (5, .int (nI 9))]) (st' := []) rfl rfl ?_
  refine y_pure (pc' := 10) (st' := [.int (nI 0)]) rfl rfl ?_
  refine y_pure (pc' := 12) (ls' := [(0, .ref 866), (1, .int x1), (2, .int x2), (3, .int (nI 0)), (4, .int (nI 1)), (5, .int (nI 9)), (6, .int (nI 0))]) (st' := []) rfl rfl ?_
  refine y_pure (pc' := 13) (st' := [.int (nI 0)]) rfl rfl ?_
  refine y_pure (pc' := 15) (ls' := [(0, .ref 866), (1, .int x1), (2, .int x2), (3, .int (nI 0)), (4, .int (nI 1)), (5, .int (nI 9)), (6, .int (nI 0)), (7, .int (nI 0))]) (st' := []) rfl rfl ?_
  refine zEx_sub ?_ h
  exact ⟨rfl, rfl, rfl, rfl, rfl, rfl, rfl, rfl, trivial⟩
theorem e_M_isTooMuch {d : Nat} {x1 : Int32} {x2 : Int32} {M : ZM} {r : ZR}  (h : zC1 (zEv d zmM_of [.ref 866, .int x1, .int (nI 0)] M) (fun v3 M2 => (if v3 < (nI 3) then (if (nI 0) < x2 then zC1 (zEv d zmM_totalBy [.ref 866, .int v3, .int x2] M2) (fun v8 M7 => zC1 (zEv d zmM_of [.ref 866, .int x1, .int (nI 1)] M7) (fun v11 M10 => (if v11 < v8 then some (some (.int (nI 1)), M10) else some (some (.int (nI 0)), M10)))) else some (some (.int (nI 0)), M2)) else some (some (.int (nI 0)), M2))) = some r) : zEv (d + 1) zmM_isTooMuch [.ref 866, .int x1, .int x2] M = some r := by
  rw [zEv_succ]
  show zEx0 (zEv d) zmM_isTooMuch (0, [(0, .ref 866), (1, .int x1), (2, .int x2)], [], M) = some r
  refine y_pure (pc' := 1) (st' := [.ref 866]) rfl rfl ?_
  refine y_pure (pc' := 2) (st' := [.int x1, .ref 866]) rfl rfl ?_
  refine y_pure (pc' := 3) (st' := [.int (nI 0), .int x1, .ref 866]) rfl rfl ?_
  obtain ⟨v3, M2, he1, h⟩ := zC1_inv h
  refine y_callV (pc' := 6) (y := zmM_of) (a' := [.int x1, .int (nI 0)]) (st' := []) rfl rfl rfl rfl rfl (zrecv_o (o := 10) zc_866 rfl) rfl he1 rfl rfl ?_
  refine y_pure (pc' := 7) (ls' := [(0, .ref 866), (1, .int x1), (2, .int x2), (3, .int v3)]) (st' := []) rfl rfl ?_
  refine y_pure (pc' := 8) (st' := [.int v3]) rfl rfl ?_
  refine y_pure (pc' := 9) (st' := [.int (nI 3), .int v3]) rfl rfl ?_
  rcases zif_inv h with ⟨hc4, h⟩ | ⟨hc4, h⟩
  · refine y_cmp (pc' := 12) rfl rfl (zc_geF hc4) rfl ?_
    refine y_pure (pc' := 13) (st' := [.int x2]) rfl rfl ?_
    rcases zif_inv h with ⟨hc5, h⟩ | ⟨hc5, h⟩
    · refine y_cnd (pc' := 16) rfl rfl (zc_leF hc5) rfl ?_
      refine y_pure (pc' := 17) (st' := [.ref 866]) rfl rfl ?_
      refine y_pure (pc' := 18) (st' := [.int v3, .ref 866]) rfl rfl ?_
      refine y_pure (pc' := 19) (st' := [.int x2, .int v3, .ref 866]) rfl rfl ?_
      obtain ⟨v8, M7, he6, h⟩ := zC1_inv h
      refine y_callV (pc' := 22) (y := zmM_totalBy) (a' := [.int v3, .int x2]) (st' := []) rfl rfl rfl rfl rfl (zrecv_o (o := 10) zc_866 rfl) rfl he6 rfl rfl ?_
      refine y_pure (pc' := 23) (st' := [.ref 866, .int v8]) rfl rfl ?_
      refine y_pure (pc' := 24) (st' := [.int x1, .ref 866, .int v8]) rfl rfl ?_
      refine y_pure (pc' := 25) (st' := [.int (nI 1), .int x1, .ref 866, .int v8]) rfl rfl ?_
      obtain ⟨v11, M10, he9, h⟩ := zC1_inv h
      refine y_callV (pc' := 28) (y := zmM_of) (a' := [.int x1, .int (nI 1)]) (st' := [.int v8]) rfl rfl rfl rfl rfl (zrecv_o (o := 10) zc_866 rfl) rfl he9 rfl rfl ?_
      rcases zif_inv h with ⟨hc12, h⟩ | ⟨hc12, h⟩
      · refine y_cmp (pc' := 31) rfl rfl (zc_leF hc12) rfl ?_
        refine y_pure (pc' := 32) (st' := [.int (nI 1)]) rfl rfl ?_
        refine y_pure (pc' := 36) rfl rfl ?_
        exact y_retZ rfl rfl (by decide) h
      · refine y_cmp (pc' := 35) rfl rfl (zc_leT hc12) rfl ?_
        refine y_pure (pc' := 36) (st' := [.int (nI 0)]) rfl rfl ?_
        exact y_retZ rfl rfl (by decide) h
    · refine y_cnd (pc' := 35) rfl rfl (zc_leT hc5) rfl ?_
      refine y_pure (pc' := 36) (st' := [.int (nI 0)]) rfl rfl ?_
      exact y_retZ rfl rfl (by decide) h
  · refine y_cmp (pc' := 35) rfl rfl (zc_geT hc4) rfl ?_
    refine y_pure (pc' := 36) (st' := [.int (nI 0)]) rfl rfl ?_
    exact y_retZ rfl rfl (by decide) h
theorem e_M_isRight {d : Nat} {x1 : Int32} {M : ZM} {r : ZR}  (h : zC1 (zEv d zmM_of [.ref 866, .int x1, .int (nI 0)] M) (fun v3 M2 => (if v3 = (nI 3) then some (some (.int (nI 1)), M2) else zC1 (zEv d zmM_of [.ref 866, .int x1, .int (nI 0)] M2) (fun v7 M6 => zC1 (zEv d zmM_of [.ref 866, .int x1, .int (nI 3)] M6) (fun v10 M9 => zC1 (zEv d zmM_totalBy [.ref 866, .int v7, .int v10] M9) (fun v13 M12 => zC1 (zEv d zmM_of [.ref 866, .int x1, .int (nI 1)] M12) (fun v16 M15 => (if v13 = v16 then some (some (.int (nI 1)), M15) else some (some (.int (nI 0)), M15)))))))) = some r) : zEv (d + 1) zmM_isRight [.ref 866, .int x1] M = some r := by
  rw [zEv_succ]
  show zEx0 (zEv d) zmM_isRight (0, [(0, .ref 866), (1, .int x1)], [], M) = some r
  refine y_pure (pc' := 1) (st' := [.ref 866]) rfl rfl ?_
  refine y_pure (pc' := 2) (st' := [.int x1, .ref 866]) rfl rfl ?_
  refine y_pure (pc' := 3) (st' := [.int (nI 0), .int x1, .ref 866]) rfl rfl ?_
  obtain ⟨v3, M2, he1, h⟩ := zC1_inv h
  refine y_callV (pc' := 6) (y := zmM_of) (a' := [.int x1, .int (nI 0)]) (st' := []) rfl rfl rfl rfl rfl (zrecv_o (o := 10) zc_866 rfl) rfl he1 rfl rfl ?_
  refine y_pure (pc' := 7) (st' := [.int (nI 3), .int v3]) rfl rfl ?_
  rcases zif_inv h with ⟨hc4, h⟩ | ⟨hc4, h⟩
  · refine y_cmp (pc' := 35) rfl rfl (zc_eqT hc4) rfl ?_
    refine y_pure (pc' := 36) (st' := [.int (nI 1)]) rfl rfl ?_
    refine y_pure (pc' := 40) rfl rfl ?_
    exact y_retZ rfl rfl (by decide) h
  · refine y_cmp (pc' := 10) rfl rfl (zc_eqF hc4) rfl ?_
    refine y_pure (pc' := 11) (st' := [.ref 866]) rfl rfl ?_
    refine y_pure (pc' := 12) (st' := [.ref 866, .ref 866]) rfl rfl ?_
    refine y_pure (pc' := 13) (st' := [.int x1, .ref 866, .ref 866]) rfl rfl ?_
    refine y_pure (pc' := 14) (st' := [.int (nI 0), .int x1, .ref 866, .ref 866]) rfl rfl ?_
    obtain ⟨v7, M6, he5, h⟩ := zC1_inv h
    refine y_callV (pc' := 17) (y := zmM_of) (a' := [.int x1, .int (nI 0)]) (st' := [.ref 866]) rfl rfl rfl rfl rfl (zrecv_o (o := 10) zc_866 rfl) rfl he5 rfl rfl ?_
    refine y_pure (pc' := 18) (st' := [.ref 866, .int v7, .ref 866]) rfl rfl ?_
    refine y_pure (pc' := 19) (st' := [.int x1, .ref 866, .int v7, .ref 866]) rfl rfl ?_
    refine y_pure (pc' := 20) (st' := [.int (nI 3), .int x1, .ref 866, .int v7, .ref 866]) rfl rfl ?_
    obtain ⟨v10, M9, he8, h⟩ := zC1_inv h
    refine y_callV (pc' := 23) (y := zmM_of) (a' := [.int x1, .int (nI 3)]) (st' := [.int v7, .ref 866]) rfl rfl rfl rfl rfl (zrecv_o (o := 10) zc_866 rfl) rfl he8 rfl rfl ?_
    obtain ⟨v13, M12, he11, h⟩ := zC1_inv h
    refine y_callV (pc' := 26) (y := zmM_totalBy) (a' := [.int v7, .int v10]) (st' := []) rfl rfl rfl rfl rfl (zrecv_o (o := 10) zc_866 rfl) rfl he11 rfl rfl ?_
    refine y_pure (pc' := 27) (st' := [.ref 866, .int v13]) rfl rfl ?_
    refine y_pure (pc' := 28) (st' := [.int x1, .ref 866, .int v13]) rfl rfl ?_
    refine y_pure (pc' := 29) (st' := [.int (nI 1), .int x1, .ref 866, .int v13]) rfl rfl ?_
    obtain ⟨v16, M15, he14, h⟩ := zC1_inv h
    refine y_callV (pc' := 32) (y := zmM_of) (a' := [.int x1, .int (nI 1)]) (st' := [.int v13]) rfl rfl rfl rfl rfl (zrecv_o (o := 10) zc_866 rfl) rfl he14 rfl rfl ?_
    rcases zif_inv h with ⟨hc17, h⟩ | ⟨hc17, h⟩
    · refine y_cmp (pc' := 35) rfl rfl (zc_neF hc17) rfl ?_
      refine y_pure (pc' := 36) (st' := [.int (nI 1)]) rfl rfl ?_
      refine y_pure (pc' := 40) rfl rfl ?_
      exact y_retZ rfl rfl (by decide) h
    · refine y_cmp (pc' := 39) rfl rfl (zc_neT hc17) rfl ?_
      refine y_pure (pc' := 40) (st' := [.int (nI 0)]) rfl rfl ?_
      exact y_retZ rfl rfl (by decide) h
noncomputable def h_M_isLaid_2 (d : Nat) (x1 : Int32) (x2 : Int32) (x3 : Int32) (M : ZM) : Option ZR := zEx0 (zEv d) zmM_isLaid (2, [(0, .ref 866), (1, .int x1), (2, .int x2), (3, .int x3)], [], M)
theorem e_M_isLaid_2 {d : Nat} {x1 : Int32} {x2 : Int32} {x3 : Int32} {M : ZM} {r : ZR}  (h : (if x3 < x2 then (if zin x3 6 = true then (if (M.1 872 (Int32.toNatClampNeg x3)) = x1 then some (some (.int (nI 1)), M) else h_M_isLaid_2 d x1 x2 (x3 + (nI 1)) M) else none) else some (some (.int (nI 0)), M)) = some r) : h_M_isLaid_2 d x1 x2 x3 M = some r := by
  show zEx0 (zEv d) zmM_isLaid (2, [(0, .ref 866), (1, .int x1), (2, .int x2), (3, .int x3)], [], M) = some r
  refine y_pure (pc' := 3) (st' := [.int x3]) rfl rfl ?_
  refine y_pure (pc' := 4) (st' := [.int x2, .int x3]) rfl rfl ?_
  rcases zif_inv h with ⟨hc1, h⟩ | ⟨hc1, h⟩
  · refine y_cmp (pc' := 7) rfl rfl (zc_geF hc1) rfl ?_
    refine y_pure (pc' := 8) (st' := [.ref 866]) rfl rfl ?_
    refine y_getf (pc' := 11) (v := .ref 872) rfl rfl rfl zc_866 rfl rfl ?_
    refine y_pure (pc' := 12) (st' := [.int x3, .ref 872]) rfl rfl ?_
    obtain ⟨hi2, h⟩ := zg_inv h
    refine y_iald (pc' := 13) rfl zc_872 hi2 rfl ?_
    refine y_pure (pc' := 14) (st' := [.int x1, .int (M.1 872 (Int32.toNatClampNeg x3))]) rfl rfl ?_
    rcases zif_inv h with ⟨hc3, h⟩ | ⟨hc3, h⟩
    · refine y_cmp (pc' := 17) rfl rfl (zc_neF hc3) rfl ?_
      refine y_pure (pc' := 18) (st' := [.int (nI 1)]) rfl rfl ?_
      exact y_retZ rfl rfl (by decide) h
    · refine y_cmp (pc' := 19) rfl rfl (zc_neT hc3) rfl ?_
      refine y_pure (pc' := 22) (ls' := [(0, .ref 866), (1, .int x1), (2, .int x2), (3, .int (x3 + (nI 1)))]) (st' := []) rfl rfl ?_
      refine y_pure (pc' := 2) rfl rfl ?_
      refine zEx_sub ?_ h
      exact ⟨rfl, rfl, rfl, rfl, trivial⟩
  · refine y_cmp (pc' := 25) rfl rfl (zc_geT hc1) rfl ?_
    refine y_pure (pc' := 26) (st' := [.int (nI 0)]) rfl rfl ?_
    exact y_retZ rfl rfl (by decide) h
theorem e_M_isLaid {d : Nat} {x1 : Int32} {x2 : Int32} {M : ZM} {r : ZR}  (h : h_M_isLaid_2 d x1 x2 (nI 0) M = some r) : zEv (d + 1) zmM_isLaid [.ref 866, .int x1, .int x2] M = some r := by
  rw [zEv_succ]
  show zEx0 (zEv d) zmM_isLaid (0, [(0, .ref 866), (1, .int x1), (2, .int x2)], [], M) = some r
  refine y_pure (pc' := 1) (st' := [.int (nI 0)]) rfl rfl ?_
  refine y_pure (pc' := 2) (ls' := [(0, .ref 866), (1, .int x1), (2, .int x2), (3, .int (nI 0))]) (st' := []) rfl rfl ?_
  refine zEx_sub ?_ h
  exact ⟨rfl, rfl, rfl, rfl, trivial⟩
noncomputable def h_M_met_4 (d : Nat) (x1 : Int32) (x2 : Int32) (x3 : Int32) (M : ZM) : Option ZR := zEx0 (zEv d) zmM_met (4, [(0, .ref 866), (1, .int x1), (2, .int x2), (3, .int x3)], [], M)
noncomputable def h_M_met_50 (d : Nat) (x2 : Int32) (x3 : Int32) (M : ZM) : Option ZR := zEx0 (zEv d) zmM_met (50, [(0, .ref 866), (2, .int x2), (3, .int x3)], [], M)
theorem e_M_met_4 {d : Nat} {x1 : Int32} {x2 : Int32} {x3 : Int32} {M : ZM} {r : ZR}  (h : zC1 (zEv d zmM_of [.ref 866, .int x1, .int (nI 3)] M) (fun v3 M2 => (if x3 < v3 then (if zin x3 6 = true then zL (x2 ||| ((nI 1) <<< ((M2.1 872 (Int32.toNatClampNeg x3)) &&& 31))) (fun y6 => h_M_met_4 d x1 y6 (x3 + (nI 1)) (zpi M2 874 (Int32.toNatClampNeg x3) ((M2.1 874 (Int32.toNatClampNeg x3)) ||| ((nI 1) <<< ((M2.1 872 (Int32.toNatClampNeg x3)) &&& 31))))) else none) else h_M_met_50 d x2 (nI 1) M2)) = some r) : h_M_met_4 d x1 x2 x3 M = some r := by
  show zEx0 (zEv d) zmM_met (4, [(0, .ref 866), (1, .int x1), (2, .int x2), (3, .int x3)], [], M) = some r
  refine y_pure (pc' := 5) (st' := [.int x3]) rfl rfl ?_
  refine y_pure (pc' := 6) (st' := [.ref 866, .int x3]) rfl rfl ?_
  refine y_pure (pc' := 7) (st' := [.int x1, .ref 866, .int x3]) rfl rfl ?_
  refine y_pure (pc' := 8) (st' := [.int (nI 3), .int x1, .ref 866, .int x3]) rfl rfl ?_
  obtain ⟨v3, M2, he1, h⟩ := zC1_inv h
  refine y_callV (pc' := 11) (y := zmM_of) (a' := [.int x1, .int (nI 3)]) (st' := [.int x3]) rfl rfl rfl rfl rfl (zrecv_o (o := 10) zc_866 rfl) rfl he1 rfl rfl ?_
  rcases zif_inv h with ⟨hc4, h⟩ | ⟨hc4, h⟩
  · refine y_cmp (pc' := 14) rfl rfl (zc_geF hc4) rfl ?_
    refine y_pure (pc' := 15) (st' := [.int x2]) rfl rfl ?_
    refine y_pure (pc' := 16) (st' := [.int (nI 1), .int x2]) rfl rfl ?_
    refine y_pure (pc' := 17) (st' := [.ref 866, .int (nI 1), .int x2]) rfl rfl ?_
    refine y_getf (pc' := 20) (v := .ref 872) rfl rfl rfl zc_866 rfl rfl ?_
    refine y_pure (pc' := 21) (st' := [.int x3, .ref 872, .int (nI 1), .int x2]) rfl rfl ?_
    obtain ⟨hi5, h⟩ := zg_inv h
    refine y_iald (pc' := 22) rfl zc_872 hi5 rfl ?_
    refine y_pure (pc' := 23) (st' := [.int ((nI 1) <<< ((M2.1 872 (Int32.toNatClampNeg x3)) &&& 31)), .int x2]) rfl rfl ?_
    refine y_pure (pc' := 24) (st' := [.int (x2 ||| ((nI 1) <<< ((M2.1 872 (Int32.toNatClampNeg x3)) &&& 31)))]) rfl rfl ?_
    obtain ⟨y6, e7, h⟩ := zL_inv h
    refine zT_gen e7 ?_
    refine y_pure (pc' := 25) (ls' := [(0, .ref 866), (1, .int x1), (2, .int y6), (3, .int x3)]) (st' := []) rfl rfl ?_
    refine y_pure (pc' := 26) (st' := [.ref 866]) rfl rfl ?_
    refine y_getf (pc' := 29) (v := .ref 874) rfl rfl rfl zc_866 rfl rfl ?_
    refine y_pure (pc' := 30) (st' := [.int x3, .ref 874]) rfl rfl ?_
    refine y_pure (pc' := 31) (st' := [.int x3, .ref 874, .int x3, .ref 874]) rfl rfl ?_
    refine y_iald (pc' := 32) rfl zc_874 hi5 rfl ?_
    refine y_pure (pc' := 33) (st' := [.int (nI 1), .int (M2.1 874 (Int32.toNatClampNeg x3)), .int x3, .ref 874]) rfl rfl ?_
    refine y_pure (pc' := 34) (st' := [.ref 866, .int (nI 1), .int (M2.1 874 (Int32.toNatClampNeg x3)), .int x3, .ref 874]) rfl rfl ?_
    refine y_getf (pc' := 37) (v := .ref 872) rfl rfl rfl zc_866 rfl rfl ?_
    refine y_pure (pc' := 38) (st' := [.int x3, .ref 872, .int (nI 1), .int (M2.1 874 (Int32.toNatClampNeg x3)), .int x3, .ref 874]) rfl rfl ?_
    refine y_iald (pc' := 39) rfl zc_872 hi5 rfl ?_
    refine y_pure (pc' := 40) (st' := [.int ((nI 1) <<< ((M2.1 872 (Int32.toNatClampNeg x3)) &&& 31)), .int (M2.1 874 (Int32.toNatClampNeg x3)), .int x3, .ref 874]) rfl rfl ?_
    refine y_pure (pc' := 41) (st' := [.int ((M2.1 874 (Int32.toNatClampNeg x3)) ||| ((nI 1) <<< ((M2.1 872 (Int32.toNatClampNeg x3)) &&& 31))), .int x3, .ref 874]) rfl rfl ?_
    refine y_iast (pc' := 42) rfl zc_874 hi5 rfl ?_
    refine y_pure (pc' := 45) (ls' := [(0, .ref 866), (1, .int x1), (2, .int y6), (3, .int (x3 + (nI 1)))]) (st' := []) rfl rfl ?_
    refine y_pure (pc' := 4) rfl rfl ?_
    refine zEx_sub ?_ h
    exact ⟨rfl, rfl, rfl, rfl, trivial⟩
  · refine y_cmp (pc' := 48) rfl rfl (zc_geT hc4) rfl ?_
    refine y_pure (pc' := 49) (st' := [.int (nI 1)]) rfl rfl ?_
    refine y_pure (pc' := 50) (ls' := [(0, .ref 866), (1, .int x1), (2, .int x2), (3, .int (nI 1))]) (st' := []) rfl rfl ?_
    refine zEx_sub ?_ h
    exact ⟨rfl, rfl, rfl, trivial⟩
theorem e_M_met_50 {d : Nat} {x2 : Int32} {x3 : Int32} {M : ZM} {r : ZR}  (h : (if (nI 7) < x3 then (if zin x2 256 = true then zL (zpi (zpi (zpi M 866 10 ((M.1 866 10) &&& x2)) 875 (Int32.toNatClampNeg x2) (vp_nar .boolean (nI 1))) 866 7 (((zpi (zpi M 866 10 ((M.1 866 10) &&& x2)) 875 (Int32.toNatClampNeg x2) (vp_nar .boolean (nI 1))).1 866 7) + (nI 1))) (fun M3 => some (none, M3)) else none) else (if zin x3 8 = true then zC1 (zEv d zmM_holds [.int x2, .int x3] M) (fun v8 M7 => (if v8 = (nI 0) then h_M_met_50 d x2 (x3 + (nI 1)) (zpi M7 873 (Int32.toNatClampNeg x3) ((M.1 873 (Int32.toNatClampNeg x3)) + (nI 0))) else h_M_met_50 d x2 (x3 + (nI 1)) (zpi M7 873 (Int32.toNatClampNeg x3) ((M.1 873 (Int32.toNatClampNeg x3)) + (nI 1))))) else none)) = some r) : h_M_met_50 d x2 x3 M = some r := by
  show zEx0 (zEv d) zmM_met (50, [(0, .ref 866), (2, .int x2), (3, .int x3)], [], M) = some r
  refine y_pure (pc' := 51) (st' := [.int x3]) rfl rfl ?_
  refine y_pure (pc' := 53) (st' := [.int (nI 7), .int x3]) rfl rfl ?_
  rcases zif_inv h with ⟨hc1, h⟩ | ⟨hc1, h⟩
  · refine y_cmp (pc' := 84) rfl rfl (zc_gtT hc1) rfl ?_
    refine y_pure (pc' := 85) (st' := [.ref 866]) rfl rfl ?_
    refine y_pure (pc' := 86) (st' := [.ref 866, .ref 866]) rfl rfl ?_
    refine y_getf (pc' := 89) (v := .int (M.1 866 10)) rfl rfl rfl zc_866 rfl rfl ?_
    refine y_pure (pc' := 90) (st' := [.int x2, .int (M.1 866 10), .ref 866]) rfl rfl ?_
    refine y_pure (pc' := 91) (st' := [.int ((M.1 866 10) &&& x2), .ref 866]) rfl rfl ?_
    refine y_putI (pc' := 94) rfl rfl zc_866 rfl ?_
    refine y_pure (pc' := 95) (st' := [.ref 866]) rfl rfl ?_
    refine y_getf (pc' := 98) (v := .ref 875) rfl rfl rfl zc_866 rfl rfl ?_
    refine y_pure (pc' := 99) (st' := [.int x2, .ref 875]) rfl rfl ?_
    refine y_pure (pc' := 100) (st' := [.int (nI 1), .int x2, .ref 875]) rfl rfl ?_
    obtain ⟨hi2, h⟩ := zg_inv h
    refine y_zast (pc' := 101) rfl zc_875 hi2 rfl ?_
    refine y_pure (pc' := 102) (st' := [.ref 866]) rfl rfl ?_
    refine y_pure (pc' := 103) (st' := [.ref 866, .ref 866]) rfl rfl ?_
    refine y_getf (pc' := 106) (v := .int ((zpi (zpi M 866 10 ((M.1 866 10) &&& x2)) 875 (Int32.toNatClampNeg x2) (vp_nar .boolean (nI 1))).1 866 7)) rfl rfl rfl zc_866 rfl rfl ?_
    refine y_pure (pc' := 107) (st' := [.int (nI 1), .int ((zpi (zpi M 866 10 ((M.1 866 10) &&& x2)) 875 (Int32.toNatClampNeg x2) (vp_nar .boolean (nI 1))).1 866 7), .ref 866]) rfl rfl ?_
    refine y_pure (pc' := 108) (st' := [.int (((zpi (zpi M 866 10 ((M.1 866 10) &&& x2)) 875 (Int32.toNatClampNeg x2) (vp_nar .boolean (nI 1))).1 866 7) + (nI 1)), .ref 866]) rfl rfl ?_
    refine y_putI (pc' := 111) rfl rfl zc_866 rfl ?_
    obtain ⟨M3, e4, h⟩ := zL_inv h
    refine zM_gen e4 ?_
    exact y_ret rfl rfl rfl rfl h
  · refine y_cmp (pc' := 56) rfl rfl (zc_gtF hc1) rfl ?_
    refine y_pure (pc' := 57) (st' := [.ref 866]) rfl rfl ?_
    refine y_getf (pc' := 60) (v := .ref 873) rfl rfl rfl zc_866 rfl rfl ?_
    refine y_pure (pc' := 61) (st' := [.int x3, .ref 873]) rfl rfl ?_
    refine y_pure (pc' := 62) (st' := [.int x3, .ref 873, .int x3, .ref 873]) rfl rfl ?_
    obtain ⟨hi5, h⟩ := zg_inv h
    refine y_iald (pc' := 63) rfl zc_873 hi5 rfl ?_
    refine y_pure (pc' := 64) (st' := [.int x2, .int (M.1 873 (Int32.toNatClampNeg x3)), .int x3, .ref 873]) rfl rfl ?_
    refine y_pure (pc' := 65) (st' := [.int x3, .int x2, .int (M.1 873 (Int32.toNatClampNeg x3)), .int x3, .ref 873]) rfl rfl ?_
    obtain ⟨v8, M7, he6, h⟩ := zC1_inv h
    refine y_callS (pc' := 68) (y := zmM_holds) (a := [.int x2, .int x3]) (st' := [.int (M.1 873 (Int32.toNatClampNeg x3)), .int x3, .ref 873]) rfl rfl rfl rfl rfl rfl he6 rfl rfl ?_
    rcases zif_inv h with ⟨hc9, h⟩ | ⟨hc9, h⟩
    · refine y_cnd (pc' := 75) rfl rfl (zc_eqT hc9) rfl ?_
      refine y_pure (pc' := 76) (st' := [.int (nI 0), .int (M.1 873 (Int32.toNatClampNeg x3)), .int x3, .ref 873]) rfl rfl ?_
      refine y_pure (pc' := 77) (st' := [.int ((M.1 873 (Int32.toNatClampNeg x3)) + (nI 0)), .int x3, .ref 873]) rfl rfl ?_
      refine y_iast (pc' := 78) rfl zc_873 hi5 rfl ?_
      refine y_pure (pc' := 81) (ls' := [(0, .ref 866), (2, .int x2), (3, .int (x3 + (nI 1)))]) (st' := []) rfl rfl ?_
      refine y_pure (pc' := 50) rfl rfl ?_
      refine zEx_sub ?_ h
      exact ⟨rfl, rfl, rfl, trivial⟩
    · refine y_cnd (pc' := 71) rfl rfl (zc_eqF hc9) rfl ?_
      refine y_pure (pc' := 72) (st' := [.int (nI 1), .int (M.1 873 (Int32.toNatClampNeg x3)), .int x3, .ref 873]) rfl rfl ?_
      refine y_pure (pc' := 76) rfl rfl ?_
      refine y_pure (pc' := 77) (st' := [.int ((M.1 873 (Int32.toNatClampNeg x3)) + (nI 1)), .int x3, .ref 873]) rfl rfl ?_
      refine y_iast (pc' := 78) rfl zc_873 hi5 rfl ?_
      refine y_pure (pc' := 81) (ls' := [(0, .ref 866), (2, .int x2), (3, .int (x3 + (nI 1)))]) (st' := []) rfl rfl ?_
      refine y_pure (pc' := 50) rfl rfl ?_
      refine zEx_sub ?_ h
      exact ⟨rfl, rfl, rfl, trivial⟩
theorem e_M_met {d : Nat} {x1 : Int32} {M : ZM} {r : ZR}  (h : h_M_met_4 d x1 (nI 0) (nI 0) M = some r) : zEv (d + 1) zmM_met [.ref 866, .int x1] M = some r := by
  rw [zEv_succ]
  show zEx0 (zEv d) zmM_met (0, [(0, .ref 866), (1, .int x1)], [], M) = some r
  refine y_pure (pc' := 1) (st' := [.int (nI 0)]) rfl rfl ?_
  refine y_pure (pc' := 2) (ls' := [(0, .ref 866), (1, .int x1), (2, .int (nI 0))]) (st' := []) rfl rfl ?_
  refine y_pure (pc' := 3) (st' := [.int (nI 0)]) rfl rfl ?_
  refine y_pure (pc' := 4) (ls' := [(0, .ref 866), (1, .int x1), (2, .int (nI 0)), (3, .int (nI 0))]) (st' := []) rfl rfl ?_
  refine zEx_sub ?_ h
  exact ⟨rfl, rfl, rfl, rfl, trivial⟩
noncomputable def h_M_goesOn_26 (d : Nat) (x1 : Int32) (x2 : Int32) (x3 : Int32) (M : ZM) : Option ZR := zEx0 (zEv d) zmM_goesOn (26, [(0, .ref 866), (1, .int x1), (2, .int x2), (3, .int x3)], [], M)
noncomputable def h_M_goesOn_73 (d : Nat) (x1 : Int32) (x2 : Int32) (x3 : Int32) (M : ZM) : Option ZR := zEx0 (zEv d) zmM_goesOn (73, [(0, .ref 866), (1, .int x1), (2, .int x2), (3, .int x3)], [], M)
theorem e_M_goesOn_26 {d : Nat} {x1 : Int32} {x2 : Int32} {x3 : Int32} {M : ZM} {r : ZR}  (h : zC1 (zEv d zmM_top [.ref 866] M) (fun v3 M2 => (if v3 < x3 then some (none, M2) else zC1 (zEv d zmM_cellOf [.ref 866, .int x1, .int x2] M2) (fun v7 M6 => zC1 (zEv d zmM_marks [.ref 866, .int v7] M6) (fun v10 M9 => zC1 (zEv d zmM_holds [.int v10, .int x3] M9) (fun v13 M12 => (if v13 = (nI 0) then h_M_goesOn_26 d x1 x2 (x3 + (nI 1)) M12 else zC1 (zEv d zmM_of [.ref 866, .int x1, .int (nI 2)] M12) (fun v17 M16 => (if v17 = (nI 1) then zC1 (zEv d zmM_isLaid [.ref 866, .int x3, .int x2] M16) (fun v21 M20 => (if v21 = (nI 0) then h_M_goesOn_73 d x1 x2 x3 M20 else h_M_goesOn_26 d x1 x2 (x3 + (nI 1)) M20)) else h_M_goesOn_73 d x1 x2 x3 M16)))))))) = some r) : h_M_goesOn_26 d x1 x2 x3 M = some r := by
  show zEx0 (zEv d) zmM_goesOn (26, [(0, .ref 866), (1, .int x1), (2, .int x2), (3, .int x3)], [], M) = some r
  refine y_pure (pc' := 27) (st' := [.int x3]) rfl rfl ?_
  refine y_pure (pc' := 28) (st' := [.ref 866, .int x3]) rfl rfl ?_
  obtain ⟨v3, M2, he1, h⟩ := zC1_inv h
  refine y_callV (pc' := 31) (y := zmM_top) (a' := []) (st' := [.int x3]) rfl rfl rfl rfl rfl (zrecv_o (o := 10) zc_866 rfl) rfl he1 rfl rfl ?_
  rcases zif_inv h with ⟨hc4, h⟩ | ⟨hc4, h⟩
  · refine y_cmp (pc' := 105) rfl rfl (zc_gtT hc4) rfl ?_
    exact y_ret rfl rfl rfl rfl h
  · refine y_cmp (pc' := 34) rfl rfl (zc_gtF hc4) rfl ?_
    refine y_pure (pc' := 35) (st' := [.ref 866]) rfl rfl ?_
    refine y_pure (pc' := 36) (st' := [.ref 866, .ref 866]) rfl rfl ?_
    refine y_pure (pc' := 37) (st' := [.int x1, .ref 866, .ref 866]) rfl rfl ?_
    refine y_pure (pc' := 38) (st' := [.int x2, .int x1, .ref 866, .ref 866]) rfl rfl ?_
    obtain ⟨v7, M6, he5, h⟩ := zC1_inv h
    refine y_callV (pc' := 41) (y := zmM_cellOf) (a' := [.int x1, .int x2]) (st' := [.ref 866]) rfl rfl rfl rfl rfl (zrecv_o (o := 10) zc_866 rfl) rfl he5 rfl rfl ?_
    obtain ⟨v10, M9, he8, h⟩ := zC1_inv h
    refine y_callV (pc' := 44) (y := zmM_marks) (a' := [.int v7]) (st' := []) rfl rfl rfl rfl rfl (zrecv_o (o := 10) zc_866 rfl) rfl he8 rfl rfl ?_
    refine y_pure (pc' := 45) (st' := [.int x3, .int v10]) rfl rfl ?_
    obtain ⟨v13, M12, he11, h⟩ := zC1_inv h
    refine y_callS (pc' := 48) (y := zmM_holds) (a := [.int v10, .int x3]) (st' := []) rfl rfl rfl rfl rfl rfl he11 rfl rfl ?_
    rcases zif_inv h with ⟨hc14, h⟩ | ⟨hc14, h⟩
    · refine y_cnd (pc' := 99) rfl rfl (zc_eqT hc14) rfl ?_
      refine y_pure (pc' := 102) (ls' := [(0, .ref 866), (1, .int x1), (2, .int x2), (3, .int (x3 + (nI 1)))]) (st' := []) rfl rfl ?_
      refine y_pure (pc' := 26) rfl rfl ?_
      refine zEx_sub ?_ h
      exact ⟨rfl, rfl, rfl, rfl, trivial⟩
    · refine y_cnd (pc' := 51) rfl rfl (zc_eqF hc14) rfl ?_
      refine y_pure (pc' := 52) (st' := [.ref 866]) rfl rfl ?_
      refine y_pure (pc' := 53) (st' := [.int x1, .ref 866]) rfl rfl ?_
      refine y_pure (pc' := 54) (st' := [.int (nI 2), .int x1, .ref 866]) rfl rfl ?_
      obtain ⟨v17, M16, he15, h⟩ := zC1_inv h
      refine y_callV (pc' := 57) (y := zmM_of) (a' := [.int x1, .int (nI 2)]) (st' := []) rfl rfl rfl rfl rfl (zrecv_o (o := 10) zc_866 rfl) rfl he15 rfl rfl ?_
      refine y_pure (pc' := 58) (st' := [.int (nI 1), .int v17]) rfl rfl ?_
      rcases zif_inv h with ⟨hc18, h⟩ | ⟨hc18, h⟩
      · refine y_cmp (pc' := 61) rfl rfl (zc_neF hc18) rfl ?_
        refine y_pure (pc' := 62) (st' := [.ref 866]) rfl rfl ?_
        refine y_pure (pc' := 63) (st' := [.int x3, .ref 866]) rfl rfl ?_
        refine y_pure (pc' := 64) (st' := [.int x2, .int x3, .ref 866]) rfl rfl ?_
        obtain ⟨v21, M20, he19, h⟩ := zC1_inv h
        refine y_callV (pc' := 67) (y := zmM_isLaid) (a' := [.int x3, .int x2]) (st' := []) rfl rfl rfl rfl rfl (zrecv_o (o := 10) zc_866 rfl) rfl he19 rfl rfl ?_
        rcases zif_inv h with ⟨hc22, h⟩ | ⟨hc22, h⟩
        · refine y_cnd (pc' := 73) rfl rfl (zc_eqT hc22) rfl ?_
          refine zEx_sub ?_ h
          exact ⟨rfl, rfl, rfl, rfl, trivial⟩
        · refine y_cnd (pc' := 70) rfl rfl (zc_eqF hc22) rfl ?_
          refine y_pure (pc' := 99) rfl rfl ?_
          refine y_pure (pc' := 102) (ls' := [(0, .ref 866), (1, .int x1), (2, .int x2), (3, .int (x3 + (nI 1)))]) (st' := []) rfl rfl ?_
          refine y_pure (pc' := 26) rfl rfl ?_
          refine zEx_sub ?_ h
          exact ⟨rfl, rfl, rfl, rfl, trivial⟩
      · refine y_cmp (pc' := 73) rfl rfl (zc_neT hc18) rfl ?_
        refine zEx_sub ?_ h
        exact ⟨rfl, rfl, rfl, rfl, trivial⟩
theorem e_M_goesOn_73 {d : Nat} {x1 : Int32} {x2 : Int32} {x3 : Int32} {M : ZM} {r : ZR}  (h : (if zin x2 6 = true then zC1 (zEv d zmM_isTooMuch [.ref 866, .int x1, .int (x2 + (nI 1))] (zpi M 872 (Int32.toNatClampNeg x2) x3)) (fun v4 M3 => (if v4 = (nI 0) then zC0 (zEv d zmM_goesOn [.ref 866, .int x1, .int (x2 + (nI 1))] M3) (fun M7 => h_M_goesOn_26 d x1 x2 (x3 + (nI 1)) M7) else h_M_goesOn_26 d x1 x2 (x3 + (nI 1)) M3)) else none) = some r) : h_M_goesOn_73 d x1 x2 x3 M = some r := by
  show zEx0 (zEv d) zmM_goesOn (73, [(0, .ref 866), (1, .int x1), (2, .int x2), (3, .int x3)], [], M) = some r
  refine y_pure (pc' := 74) (st' := [.ref 866]) rfl rfl ?_
  refine y_getf (pc' := 77) (v := .ref 872) rfl rfl rfl zc_866 rfl rfl ?_
  refine y_pure (pc' := 78) (st' := [.int x2, .ref 872]) rfl rfl ?_
  refine y_pure (pc' := 79) (st' := [.int x3, .int x2, .ref 872]) rfl rfl ?_
  obtain ⟨hi1, h⟩ := zg_inv h
  refine y_iast (pc' := 80) rfl zc_872 hi1 rfl ?_
  refine y_pure (pc' := 81) (st' := [.ref 866]) rfl rfl ?_
  refine y_pure (pc' := 82) (st' := [.int x1, .ref 866]) rfl rfl ?_
  refine y_pure (pc' := 83) (st' := [.int x2, .int x1, .ref 866]) rfl rfl ?_
  refine y_pure (pc' := 84) (st' := [.int (nI 1), .int x2, .int x1, .ref 866]) rfl rfl ?_
  refine y_pure (pc' := 85) (st' := [.int (x2 + (nI 1)), .int x1, .ref 866]) rfl rfl ?_
  obtain ⟨v4, M3, he2, h⟩ := zC1_inv h
  refine y_callV (pc' := 88) (y := zmM_isTooMuch) (a' := [.int x1, .int (x2 + (nI 1))]) (st' := []) rfl rfl rfl rfl rfl (zrecv_o (o := 10) zc_866 rfl) rfl he2 rfl rfl ?_
  rcases zif_inv h with ⟨hc5, h⟩ | ⟨hc5, h⟩
  · refine y_cnd (pc' := 91) rfl rfl (zc_neF hc5) rfl ?_
    refine y_pure (pc' := 92) (st' := [.ref 866]) rfl rfl ?_
    refine y_pure (pc' := 93) (st' := [.int x1, .ref 866]) rfl rfl ?_
    refine y_pure (pc' := 94) (st' := [.int x2, .int x1, .ref 866]) rfl rfl ?_
    refine y_pure (pc' := 95) (st' := [.int (nI 1), .int x2, .int x1, .ref 866]) rfl rfl ?_
    refine y_pure (pc' := 96) (st' := [.int (x2 + (nI 1)), .int x1, .ref 866]) rfl rfl ?_
    obtain ⟨M7, he6, h⟩ := zC0_inv h
    refine y_callV (pc' := 99) (y := zmM_goesOn) (a' := [.int x1, .int (x2 + (nI 1))]) (st' := []) rfl rfl rfl rfl rfl (zrecv_o (o := 10) zc_866 rfl) rfl he6 rfl rfl ?_
    refine y_pure (pc' := 102) (ls' := [(0, .ref 866), (1, .int x1), (2, .int x2), (3, .int (x3 + (nI 1)))]) (st' := []) rfl rfl ?_
    refine y_pure (pc' := 26) rfl rfl ?_
    refine zEx_sub ?_ h
    exact ⟨rfl, rfl, rfl, rfl, trivial⟩
  · refine y_cnd (pc' := 99) rfl rfl (zc_neT hc5) rfl ?_
    refine y_pure (pc' := 102) (ls' := [(0, .ref 866), (1, .int x1), (2, .int x2), (3, .int (x3 + (nI 1)))]) (st' := []) rfl rfl ?_
    refine y_pure (pc' := 26) rfl rfl ?_
    refine zEx_sub ?_ h
    exact ⟨rfl, rfl, rfl, rfl, trivial⟩
theorem e_M_goesOn {d : Nat} {x1 : Int32} {x2 : Int32} {M : ZM} {r : ZR}  (h : zC1 (zEv d zmM_of [.ref 866, .int x1, .int (nI 3)] M) (fun v3 M2 => (if x2 = v3 then zC1 (zEv d zmM_isRight [.ref 866, .int x1] M2) (fun v7 M6 => (if v7 = (nI 0) then some (none, M6) else zC0 (zEv d zmM_met [.ref 866, .int x1] M6) (fun M10 => some (none, M10)))) else h_M_goesOn_26 d x1 x2 (nI 1) M2)) = some r) : zEv (d + 1) zmM_goesOn [.ref 866, .int x1, .int x2] M = some r := by
  rw [zEv_succ]
  show zEx0 (zEv d) zmM_goesOn (0, [(0, .ref 866), (1, .int x1), (2, .int x2)], [], M) = some r
  refine y_pure (pc' := 1) (st' := [.int x2]) rfl rfl ?_
  refine y_pure (pc' := 2) (st' := [.ref 866, .int x2]) rfl rfl ?_
  refine y_pure (pc' := 3) (st' := [.int x1, .ref 866, .int x2]) rfl rfl ?_
  refine y_pure (pc' := 4) (st' := [.int (nI 3), .int x1, .ref 866, .int x2]) rfl rfl ?_
  obtain ⟨v3, M2, he1, h⟩ := zC1_inv h
  refine y_callV (pc' := 7) (y := zmM_of) (a' := [.int x1, .int (nI 3)]) (st' := [.int x2]) rfl rfl rfl rfl rfl (zrecv_o (o := 10) zc_866 rfl) rfl he1 rfl rfl ?_
  rcases zif_inv h with ⟨hc4, h⟩ | ⟨hc4, h⟩
  · refine y_cmp (pc' := 10) rfl rfl (zc_neF hc4) rfl ?_
    refine y_pure (pc' := 11) (st' := [.ref 866]) rfl rfl ?_
    refine y_pure (pc' := 12) (st' := [.int x1, .ref 866]) rfl rfl ?_
    obtain ⟨v7, M6, he5, h⟩ := zC1_inv h
    refine y_callV (pc' := 15) (y := zmM_isRight) (a' := [.int x1]) (st' := []) rfl rfl rfl rfl rfl (zrecv_o (o := 10) zc_866 rfl) rfl he5 rfl rfl ?_
    rcases zif_inv h with ⟨hc8, h⟩ | ⟨hc8, h⟩
    · refine y_cnd (pc' := 23) rfl rfl (zc_eqT hc8) rfl ?_
      exact y_ret rfl rfl rfl rfl h
    · refine y_cnd (pc' := 18) rfl rfl (zc_eqF hc8) rfl ?_
      refine y_pure (pc' := 19) (st' := [.ref 866]) rfl rfl ?_
      refine y_pure (pc' := 20) (st' := [.int x1, .ref 866]) rfl rfl ?_
      obtain ⟨M10, he9, h⟩ := zC0_inv h
      refine y_callV (pc' := 23) (y := zmM_met) (a' := [.int x1]) (st' := []) rfl rfl rfl rfl rfl (zrecv_o (o := 10) zc_866 rfl) rfl he9 rfl rfl ?_
      exact y_ret rfl rfl rfl rfl h
  · refine y_cmp (pc' := 24) rfl rfl (zc_neT hc4) rfl ?_
    refine y_pure (pc' := 25) (st' := [.int (nI 1)]) rfl rfl ?_
    refine y_pure (pc' := 26) (ls' := [(0, .ref 866), (1, .int x1), (2, .int x2), (3, .int (nI 1))]) (st' := []) rfl rfl ?_
    refine zEx_sub ?_ h
    exact ⟨rfl, rfl, rfl, rfl, trivial⟩
noncomputable def h_M_laysWays_15 (d : Nat) (x1 : Int32) (x2 : Int32) (M : ZM) : Option ZR := zEx0 (zEv d) zmM_laysWays (15, [(0, .ref 866), (1, .int x1), (2, .int x2)], [], M)
noncomputable def h_M_laysWays_36 (d : Nat) (x1 : Int32) (x2 : Int32) (M : ZM) : Option ZR := zEx0 (zEv d) zmM_laysWays (36, [(0, .ref 866), (1, .int x1), (2, .int x2)], [], M)
noncomputable def h_M_laysWays_57 (d : Nat) (x1 : Int32) (x2 : Int32) (M : ZM) : Option ZR := zEx0 (zEv d) zmM_laysWays (57, [(0, .ref 866), (1, .int x1), (2, .int x2)], [], M)
theorem e_M_laysWays_15 {d : Nat} {x1 : Int32} {x2 : Int32} {M : ZM} {r : ZR}  (h : (if x2 < (nI 8) then (if zin x2 8 = true then h_M_laysWays_15 d x1 (x2 + (nI 1)) (zpi M 873 (Int32.toNatClampNeg x2) (nI 0)) else none) else h_M_laysWays_36 d x1 (nI 0) M) = some r) : h_M_laysWays_15 d x1 x2 M = some r := by
  show zEx0 (zEv d) zmM_laysWays (15, [(0, .ref 866), (1, .int x1), (2, .int x2)], [], M) = some r
  refine y_pure (pc' := 16) (st' := [.int x2]) rfl rfl ?_
  refine y_pure (pc' := 18) (st' := [.int (nI 8), .int x2]) rfl rfl ?_
  rcases zif_inv h with ⟨hc1, h⟩ | ⟨hc1, h⟩
  · refine y_cmp (pc' := 21) rfl rfl (zc_geF hc1) rfl ?_
    refine y_pure (pc' := 22) (st' := [.ref 866]) rfl rfl ?_
    refine y_getf (pc' := 25) (v := .ref 873) rfl rfl rfl zc_866 rfl rfl ?_
    refine y_pure (pc' := 26) (st' := [.int x2, .ref 873]) rfl rfl ?_
    refine y_pure (pc' := 27) (st' := [.int (nI 0), .int x2, .ref 873]) rfl rfl ?_
    obtain ⟨hi2, h⟩ := zg_inv h
    refine y_iast (pc' := 28) rfl zc_873 hi2 rfl ?_
    refine y_pure (pc' := 31) (ls' := [(0, .ref 866), (1, .int x1), (2, .int (x2 + (nI 1)))]) (st' := []) rfl rfl ?_
    refine y_pure (pc' := 15) rfl rfl ?_
    refine zEx_sub ?_ h
    exact ⟨rfl, rfl, rfl, trivial⟩
  · refine y_cmp (pc' := 34) rfl rfl (zc_geT hc1) rfl ?_
    refine y_pure (pc' := 35) (st' := [.int (nI 0)]) rfl rfl ?_
    refine y_pure (pc' := 36) (ls' := [(0, .ref 866), (1, .int x1), (2, .int (nI 0))]) (st' := []) rfl rfl ?_
    refine zEx_sub ?_ h
    exact ⟨rfl, rfl, rfl, trivial⟩
theorem e_M_laysWays_36 {d : Nat} {x1 : Int32} {x2 : Int32} {M : ZM} {r : ZR}  (h : (if x2 < (nI 6) then (if zin x2 6 = true then h_M_laysWays_36 d x1 (x2 + (nI 1)) (zpi M 874 (Int32.toNatClampNeg x2) (nI 0)) else none) else h_M_laysWays_57 d x1 (nI 0) M) = some r) : h_M_laysWays_36 d x1 x2 M = some r := by
  show zEx0 (zEv d) zmM_laysWays (36, [(0, .ref 866), (1, .int x1), (2, .int x2)], [], M) = some r
  refine y_pure (pc' := 37) (st' := [.int x2]) rfl rfl ?_
  refine y_pure (pc' := 39) (st' := [.int (nI 6), .int x2]) rfl rfl ?_
  rcases zif_inv h with ⟨hc1, h⟩ | ⟨hc1, h⟩
  · refine y_cmp (pc' := 42) rfl rfl (zc_geF hc1) rfl ?_
    refine y_pure (pc' := 43) (st' := [.ref 866]) rfl rfl ?_
    refine y_getf (pc' := 46) (v := .ref 874) rfl rfl rfl zc_866 rfl rfl ?_
    refine y_pure (pc' := 47) (st' := [.int x2, .ref 874]) rfl rfl ?_
    refine y_pure (pc' := 48) (st' := [.int (nI 0), .int x2, .ref 874]) rfl rfl ?_
    obtain ⟨hi2, h⟩ := zg_inv h
    refine y_iast (pc' := 49) rfl zc_874 hi2 rfl ?_
    refine y_pure (pc' := 52) (ls' := [(0, .ref 866), (1, .int x1), (2, .int (x2 + (nI 1)))]) (st' := []) rfl rfl ?_
    refine y_pure (pc' := 36) rfl rfl ?_
    refine zEx_sub ?_ h
    exact ⟨rfl, rfl, rfl, trivial⟩
  · refine y_cmp (pc' := 55) rfl rfl (zc_geT hc1) rfl ?_
    refine y_pure (pc' := 56) (st' := [.int (nI 0)]) rfl rfl ?_
    refine y_pure (pc' := 57) (ls' := [(0, .ref 866), (1, .int x1), (2, .int (nI 0))]) (st' := []) rfl rfl ?_
    refine zEx_sub ?_ h
    exact ⟨rfl, rfl, rfl, trivial⟩
theorem e_M_laysWays_57 {d : Nat} {x1 : Int32} {x2 : Int32} {M : ZM} {r : ZR}  (h : (if x2 < (nI 256) then (if zin x2 256 = true then h_M_laysWays_57 d x1 (x2 + (nI 1)) (zpi M 875 (Int32.toNatClampNeg x2) (vp_nar .boolean (nI 0))) else none) else zC0 (zEv d zmM_goesOn [.ref 866, .int x1, .int (nI 0)] M) (fun M4 => (if (M4.1 866 7) = (nI 0) then some (none, (zpi M4 866 10 (nI 0))) else some (none, M4)))) = some r) : h_M_laysWays_57 d x1 x2 M = some r := by
  show zEx0 (zEv d) zmM_laysWays (57, [(0, .ref 866), (1, .int x1), (2, .int x2)], [], M) = some r
  refine y_pure (pc' := 58) (st' := [.int x2]) rfl rfl ?_
  refine y_pure (pc' := 61) (st' := [.int (nI 256), .int x2]) rfl rfl ?_
  rcases zif_inv h with ⟨hc1, h⟩ | ⟨hc1, h⟩
  · refine y_cmp (pc' := 64) rfl rfl (zc_geF hc1) rfl ?_
    refine y_pure (pc' := 65) (st' := [.ref 866]) rfl rfl ?_
    refine y_getf (pc' := 68) (v := .ref 875) rfl rfl rfl zc_866 rfl rfl ?_
    refine y_pure (pc' := 69) (st' := [.int x2, .ref 875]) rfl rfl ?_
    refine y_pure (pc' := 70) (st' := [.int (nI 0), .int x2, .ref 875]) rfl rfl ?_
    obtain ⟨hi2, h⟩ := zg_inv h
    refine y_zast (pc' := 71) rfl zc_875 hi2 rfl ?_
    refine y_pure (pc' := 74) (ls' := [(0, .ref 866), (1, .int x1), (2, .int (x2 + (nI 1)))]) (st' := []) rfl rfl ?_
    refine y_pure (pc' := 57) rfl rfl ?_
    refine zEx_sub ?_ h
    exact ⟨rfl, rfl, rfl, trivial⟩
  · refine y_cmp (pc' := 77) rfl rfl (zc_geT hc1) rfl ?_
    refine y_pure (pc' := 78) (st' := [.ref 866]) rfl rfl ?_
    refine y_pure (pc' := 79) (st' := [.int x1, .ref 866]) rfl rfl ?_
    refine y_pure (pc' := 80) (st' := [.int (nI 0), .int x1, .ref 866]) rfl rfl ?_
    obtain ⟨M4, he3, h⟩ := zC0_inv h
    refine y_callV (pc' := 83) (y := zmM_goesOn) (a' := [.int x1, .int (nI 0)]) (st' := []) rfl rfl rfl rfl rfl (zrecv_o (o := 10) zc_866 rfl) rfl he3 rfl rfl ?_
    refine y_pure (pc' := 84) (st' := [.ref 866]) rfl rfl ?_
    refine y_getf (pc' := 87) (v := .int (M4.1 866 7)) rfl rfl rfl zc_866 rfl rfl ?_
    rcases zif_inv h with ⟨hc5, h⟩ | ⟨hc5, h⟩
    · refine y_cnd (pc' := 90) rfl rfl (zc_neF hc5) rfl ?_
      refine y_pure (pc' := 91) (st' := [.ref 866]) rfl rfl ?_
      refine y_pure (pc' := 92) (st' := [.int (nI 0), .ref 866]) rfl rfl ?_
      refine y_putI (pc' := 95) rfl rfl zc_866 rfl ?_
      exact y_ret rfl rfl rfl rfl h
    · refine y_cnd (pc' := 95) rfl rfl (zc_neT hc5) rfl ?_
      exact y_ret rfl rfl rfl rfl h
theorem e_M_laysWays {d : Nat} {x1 : Int32} {M : ZM} {r : ZR}  (h : zC1 (zEv d zmM_allMarks [.ref 866] (zpi M 866 7 (nI 0))) (fun v3 M2 => h_M_laysWays_15 d x1 (nI 0) (zpi M2 866 10 v3)) = some r) : zEv (d + 1) zmM_laysWays [.ref 866, .int x1] M = some r := by
  rw [zEv_succ]
  show zEx0 (zEv d) zmM_laysWays (0, [(0, .ref 866), (1, .int x1)], [], M) = some r
  refine y_pure (pc' := 1) (st' := [.ref 866]) rfl rfl ?_
  refine y_pure (pc' := 2) (st' := [.int (nI 0), .ref 866]) rfl rfl ?_
  refine y_putI (pc' := 5) rfl rfl zc_866 rfl ?_
  refine y_pure (pc' := 6) (st' := [.ref 866]) rfl rfl ?_
  refine y_pure (pc' := 7) (st' := [.ref 866, .ref 866]) rfl rfl ?_
  obtain ⟨v3, M2, he1, h⟩ := zC1_inv h
  refine y_callV (pc' := 10) (y := zmM_allMarks) (a' := []) (st' := [.ref 866]) rfl rfl rfl rfl rfl (zrecv_o (o := 10) zc_866 rfl) rfl he1 rfl rfl ?_
  refine y_putI (pc' := 13) rfl rfl zc_866 rfl ?_
  refine y_pure (pc' := 14) (st' := [.int (nI 0)]) rfl rfl ?_
  refine y_pure (pc' := 15) (ls' := [(0, .ref 866), (1, .int x1), (2, .int (nI 0))]) (st' := []) rfl rfl ?_
  refine zEx_sub ?_ h
  exact ⟨rfl, rfl, rfl, trivial⟩
noncomputable def h_M_hasWayFrom_18 (d : Nat) (x1 : Int32) (x2 : Int32) (x3 : Int32) (M : ZM) : Option ZR := zEx0 (zEv d) zmM_hasWayFrom (18, [(0, .ref 866), (1, .int x1), (2, .int x2), (3, .int x3)], [], M)
noncomputable def h_M_hasWayFrom_65 (d : Nat) (x1 : Int32) (x2 : Int32) (x3 : Int32) (M : ZM) : Option ZR := zEx0 (zEv d) zmM_hasWayFrom (65, [(0, .ref 866), (1, .int x1), (2, .int x2), (3, .int x3)], [], M)
theorem e_M_hasWayFrom_18 {d : Nat} {x1 : Int32} {x2 : Int32} {x3 : Int32} {M : ZM} {r : ZR}  (h : zC1 (zEv d zmM_top [.ref 866] M) (fun v3 M2 => (if v3 < x3 then some (some (.int (nI 0)), M2) else zC1 (zEv d zmM_cellOf [.ref 866, .int x1, .int x2] M2) (fun v7 M6 => zC1 (zEv d zmM_marks [.ref 866, .int v7] M6) (fun v10 M9 => zC1 (zEv d zmM_holds [.int v10, .int x3] M9) (fun v13 M12 => (if v13 = (nI 0) then h_M_hasWayFrom_18 d x1 x2 (x3 + (nI 1)) M12 else zC1 (zEv d zmM_of [.ref 866, .int x1, .int (nI 2)] M12) (fun v17 M16 => (if v17 = (nI 1) then zC1 (zEv d zmM_isLaid [.ref 866, .int x3, .int x2] M16) (fun v21 M20 => (if v21 = (nI 0) then h_M_hasWayFrom_65 d x1 x2 x3 M20 else h_M_hasWayFrom_18 d x1 x2 (x3 + (nI 1)) M20)) else h_M_hasWayFrom_65 d x1 x2 x3 M16)))))))) = some r) : h_M_hasWayFrom_18 d x1 x2 x3 M = some r := by
  show zEx0 (zEv d) zmM_hasWayFrom (18, [(0, .ref 866), (1, .int x1), (2, .int x2), (3, .int x3)], [], M) = some r
  refine y_pure (pc' := 19) (st' := [.int x3]) rfl rfl ?_
  refine y_pure (pc' := 20) (st' := [.ref 866, .int x3]) rfl rfl ?_
  obtain ⟨v3, M2, he1, h⟩ := zC1_inv h
  refine y_callV (pc' := 23) (y := zmM_top) (a' := []) (st' := [.int x3]) rfl rfl rfl rfl rfl (zrecv_o (o := 10) zc_866 rfl) rfl he1 rfl rfl ?_
  rcases zif_inv h with ⟨hc4, h⟩ | ⟨hc4, h⟩
  · refine y_cmp (pc' := 102) rfl rfl (zc_gtT hc4) rfl ?_
    refine y_pure (pc' := 103) (st' := [.int (nI 0)]) rfl rfl ?_
    exact y_retZ rfl rfl (by decide) h
  · refine y_cmp (pc' := 26) rfl rfl (zc_gtF hc4) rfl ?_
    refine y_pure (pc' := 27) (st' := [.ref 866]) rfl rfl ?_
    refine y_pure (pc' := 28) (st' := [.ref 866, .ref 866]) rfl rfl ?_
    refine y_pure (pc' := 29) (st' := [.int x1, .ref 866, .ref 866]) rfl rfl ?_
    refine y_pure (pc' := 30) (st' := [.int x2, .int x1, .ref 866, .ref 866]) rfl rfl ?_
    obtain ⟨v7, M6, he5, h⟩ := zC1_inv h
    refine y_callV (pc' := 33) (y := zmM_cellOf) (a' := [.int x1, .int x2]) (st' := [.ref 866]) rfl rfl rfl rfl rfl (zrecv_o (o := 10) zc_866 rfl) rfl he5 rfl rfl ?_
    obtain ⟨v10, M9, he8, h⟩ := zC1_inv h
    refine y_callV (pc' := 36) (y := zmM_marks) (a' := [.int v7]) (st' := []) rfl rfl rfl rfl rfl (zrecv_o (o := 10) zc_866 rfl) rfl he8 rfl rfl ?_
    refine y_pure (pc' := 37) (st' := [.int x3, .int v10]) rfl rfl ?_
    obtain ⟨v13, M12, he11, h⟩ := zC1_inv h
    refine y_callS (pc' := 40) (y := zmM_holds) (a := [.int v10, .int x3]) (st' := []) rfl rfl rfl rfl rfl rfl he11 rfl rfl ?_
    rcases zif_inv h with ⟨hc14, h⟩ | ⟨hc14, h⟩
    · refine y_cnd (pc' := 96) rfl rfl (zc_eqT hc14) rfl ?_
      refine y_pure (pc' := 99) (ls' := [(0, .ref 866), (1, .int x1), (2, .int x2), (3, .int (x3 + (nI 1)))]) (st' := []) rfl rfl ?_
      refine y_pure (pc' := 18) rfl rfl ?_
      refine zEx_sub ?_ h
      exact ⟨rfl, rfl, rfl, rfl, trivial⟩
    · refine y_cnd (pc' := 43) rfl rfl (zc_eqF hc14) rfl ?_
      refine y_pure (pc' := 44) (st' := [.ref 866]) rfl rfl ?_
      refine y_pure (pc' := 45) (st' := [.int x1, .ref 866]) rfl rfl ?_
      refine y_pure (pc' := 46) (st' := [.int (nI 2), .int x1, .ref 866]) rfl rfl ?_
      obtain ⟨v17, M16, he15, h⟩ := zC1_inv h
      refine y_callV (pc' := 49) (y := zmM_of) (a' := [.int x1, .int (nI 2)]) (st' := []) rfl rfl rfl rfl rfl (zrecv_o (o := 10) zc_866 rfl) rfl he15 rfl rfl ?_
      refine y_pure (pc' := 50) (st' := [.int (nI 1), .int v17]) rfl rfl ?_
      rcases zif_inv h with ⟨hc18, h⟩ | ⟨hc18, h⟩
      · refine y_cmp (pc' := 53) rfl rfl (zc_neF hc18) rfl ?_
        refine y_pure (pc' := 54) (st' := [.ref 866]) rfl rfl ?_
        refine y_pure (pc' := 55) (st' := [.int x3, .ref 866]) rfl rfl ?_
        refine y_pure (pc' := 56) (st' := [.int x2, .int x3, .ref 866]) rfl rfl ?_
        obtain ⟨v21, M20, he19, h⟩ := zC1_inv h
        refine y_callV (pc' := 59) (y := zmM_isLaid) (a' := [.int x3, .int x2]) (st' := []) rfl rfl rfl rfl rfl (zrecv_o (o := 10) zc_866 rfl) rfl he19 rfl rfl ?_
        rcases zif_inv h with ⟨hc22, h⟩ | ⟨hc22, h⟩
        · refine y_cnd (pc' := 65) rfl rfl (zc_eqT hc22) rfl ?_
          refine zEx_sub ?_ h
          exact ⟨rfl, rfl, rfl, rfl, trivial⟩
        · refine y_cnd (pc' := 62) rfl rfl (zc_eqF hc22) rfl ?_
          refine y_pure (pc' := 96) rfl rfl ?_
          refine y_pure (pc' := 99) (ls' := [(0, .ref 866), (1, .int x1), (2, .int x2), (3, .int (x3 + (nI 1)))]) (st' := []) rfl rfl ?_
          refine y_pure (pc' := 18) rfl rfl ?_
          refine zEx_sub ?_ h
          exact ⟨rfl, rfl, rfl, rfl, trivial⟩
      · refine y_cmp (pc' := 65) rfl rfl (zc_neT hc18) rfl ?_
        refine zEx_sub ?_ h
        exact ⟨rfl, rfl, rfl, rfl, trivial⟩
theorem e_M_hasWayFrom_65 {d : Nat} {x1 : Int32} {x2 : Int32} {x3 : Int32} {M : ZM} {r : ZR}  (h : (if zin x2 6 = true then zC1 (zEv d zmM_isTooMuch [.ref 866, .int x1, .int (x2 + (nI 1))] (zpi M 872 (Int32.toNatClampNeg x2) x3)) (fun v4 M3 => (if v4 = (nI 0) then zC1 (zEv d zmM_hasWayFrom [.ref 866, .int x1, .int (x2 + (nI 1))] M3) (fun v8 M7 => (if v8 = (nI 0) then h_M_hasWayFrom_18 d x1 x2 (x3 + (nI 1)) M7 else some (some (.int (nI 1)), M7))) else h_M_hasWayFrom_18 d x1 x2 (x3 + (nI 1)) M3)) else none) = some r) : h_M_hasWayFrom_65 d x1 x2 x3 M = some r := by
  show zEx0 (zEv d) zmM_hasWayFrom (65, [(0, .ref 866), (1, .int x1), (2, .int x2), (3, .int x3)], [], M) = some r
  refine y_pure (pc' := 66) (st' := [.ref 866]) rfl rfl ?_
  refine y_getf (pc' := 69) (v := .ref 872) rfl rfl rfl zc_866 rfl rfl ?_
  refine y_pure (pc' := 70) (st' := [.int x2, .ref 872]) rfl rfl ?_
  refine y_pure (pc' := 71) (st' := [.int x3, .int x2, .ref 872]) rfl rfl ?_
  obtain ⟨hi1, h⟩ := zg_inv h
  refine y_iast (pc' := 72) rfl zc_872 hi1 rfl ?_
  refine y_pure (pc' := 73) (st' := [.ref 866]) rfl rfl ?_
  refine y_pure (pc' := 74) (st' := [.int x1, .ref 866]) rfl rfl ?_
  refine y_pure (pc' := 75) (st' := [.int x2, .int x1, .ref 866]) rfl rfl ?_
  refine y_pure (pc' := 76) (st' := [.int (nI 1), .int x2, .int x1, .ref 866]) rfl rfl ?_
  refine y_pure (pc' := 77) (st' := [.int (x2 + (nI 1)), .int x1, .ref 866]) rfl rfl ?_
  obtain ⟨v4, M3, he2, h⟩ := zC1_inv h
  refine y_callV (pc' := 80) (y := zmM_isTooMuch) (a' := [.int x1, .int (x2 + (nI 1))]) (st' := []) rfl rfl rfl rfl rfl (zrecv_o (o := 10) zc_866 rfl) rfl he2 rfl rfl ?_
  rcases zif_inv h with ⟨hc5, h⟩ | ⟨hc5, h⟩
  · refine y_cnd (pc' := 83) rfl rfl (zc_neF hc5) rfl ?_
    refine y_pure (pc' := 84) (st' := [.ref 866]) rfl rfl ?_
    refine y_pure (pc' := 85) (st' := [.int x1, .ref 866]) rfl rfl ?_
    refine y_pure (pc' := 86) (st' := [.int x2, .int x1, .ref 866]) rfl rfl ?_
    refine y_pure (pc' := 87) (st' := [.int (nI 1), .int x2, .int x1, .ref 866]) rfl rfl ?_
    refine y_pure (pc' := 88) (st' := [.int (x2 + (nI 1)), .int x1, .ref 866]) rfl rfl ?_
    obtain ⟨v8, M7, he6, h⟩ := zC1_inv h
    refine y_callV (pc' := 91) (y := zmM_hasWayFrom) (a' := [.int x1, .int (x2 + (nI 1))]) (st' := []) rfl rfl rfl rfl rfl (zrecv_o (o := 10) zc_866 rfl) rfl he6 rfl rfl ?_
    rcases zif_inv h with ⟨hc9, h⟩ | ⟨hc9, h⟩
    · refine y_cnd (pc' := 96) rfl rfl (zc_eqT hc9) rfl ?_
      refine y_pure (pc' := 99) (ls' := [(0, .ref 866), (1, .int x1), (2, .int x2), (3, .int (x3 + (nI 1)))]) (st' := []) rfl rfl ?_
      refine y_pure (pc' := 18) rfl rfl ?_
      refine zEx_sub ?_ h
      exact ⟨rfl, rfl, rfl, rfl, trivial⟩
    · refine y_cnd (pc' := 94) rfl rfl (zc_eqF hc9) rfl ?_
      refine y_pure (pc' := 95) (st' := [.int (nI 1)]) rfl rfl ?_
      exact y_retZ rfl rfl (by decide) h
  · refine y_cnd (pc' := 96) rfl rfl (zc_neT hc5) rfl ?_
    refine y_pure (pc' := 99) (ls' := [(0, .ref 866), (1, .int x1), (2, .int x2), (3, .int (x3 + (nI 1)))]) (st' := []) rfl rfl ?_
    refine y_pure (pc' := 18) rfl rfl ?_
    refine zEx_sub ?_ h
    exact ⟨rfl, rfl, rfl, rfl, trivial⟩
theorem e_M_hasWayFrom {d : Nat} {x1 : Int32} {x2 : Int32} {M : ZM} {r : ZR}  (h : zC1 (zEv d zmM_of [.ref 866, .int x1, .int (nI 3)] M) (fun v3 M2 => (if x2 = v3 then zC1 (zEv d zmM_isRight [.ref 866, .int x1] M2) (fun v7 M6 => (if v7 = nI 0 ∨ v7 = nI 1 then some (some (.int v7), M6) else none)) else h_M_hasWayFrom_18 d x1 x2 (nI 1) M2)) = some r) : zEv (d + 1) zmM_hasWayFrom [.ref 866, .int x1, .int x2] M = some r := by
  rw [zEv_succ]
  show zEx0 (zEv d) zmM_hasWayFrom (0, [(0, .ref 866), (1, .int x1), (2, .int x2)], [], M) = some r
  refine y_pure (pc' := 1) (st' := [.int x2]) rfl rfl ?_
  refine y_pure (pc' := 2) (st' := [.ref 866, .int x2]) rfl rfl ?_
  refine y_pure (pc' := 3) (st' := [.int x1, .ref 866, .int x2]) rfl rfl ?_
  refine y_pure (pc' := 4) (st' := [.int (nI 3), .int x1, .ref 866, .int x2]) rfl rfl ?_
  obtain ⟨v3, M2, he1, h⟩ := zC1_inv h
  refine y_callV (pc' := 7) (y := zmM_of) (a' := [.int x1, .int (nI 3)]) (st' := [.int x2]) rfl rfl rfl rfl rfl (zrecv_o (o := 10) zc_866 rfl) rfl he1 rfl rfl ?_
  rcases zif_inv h with ⟨hc4, h⟩ | ⟨hc4, h⟩
  · refine y_cmp (pc' := 10) rfl rfl (zc_neF hc4) rfl ?_
    refine y_pure (pc' := 11) (st' := [.ref 866]) rfl rfl ?_
    refine y_pure (pc' := 12) (st' := [.int x1, .ref 866]) rfl rfl ?_
    obtain ⟨v7, M6, he5, h⟩ := zC1_inv h
    refine y_callV (pc' := 15) (y := zmM_isRight) (a' := [.int x1]) (st' := []) rfl rfl rfl rfl rfl (zrecv_o (o := 10) zc_866 rfl) rfl he5 rfl rfl ?_
    obtain ⟨hb8, h⟩ := zg_inv h
    exact y_retZ rfl rfl hb8 h
  · refine y_cmp (pc' := 16) rfl rfl (zc_neT hc4) rfl ?_
    refine y_pure (pc' := 17) (st' := [.int (nI 1)]) rfl rfl ?_
    refine y_pure (pc' := 18) (ls' := [(0, .ref 866), (1, .int x1), (2, .int x2), (3, .int (nI 1))]) (st' := []) rfl rfl ?_
    refine zEx_sub ?_ h
    exact ⟨rfl, rfl, rfl, rfl, trivial⟩
theorem e_M_hasWay {d : Nat} {x1 : Int32} {M : ZM} {r : ZR}  (h : zC1 (zEv d zmM_hasWayFrom [.ref 866, .int x1, .int (nI 0)] M) (fun v3 M2 => (if v3 = nI 0 ∨ v3 = nI 1 then some (some (.int v3), M2) else none)) = some r) : zEv (d + 1) zmM_hasWay [.ref 866, .int x1] M = some r := by
  rw [zEv_succ]
  show zEx0 (zEv d) zmM_hasWay (0, [(0, .ref 866), (1, .int x1)], [], M) = some r
  refine y_pure (pc' := 1) (st' := [.ref 866]) rfl rfl ?_
  refine y_pure (pc' := 2) (st' := [.int x1, .ref 866]) rfl rfl ?_
  refine y_pure (pc' := 3) (st' := [.int (nI 0), .int x1, .ref 866]) rfl rfl ?_
  obtain ⟨v3, M2, he1, h⟩ := zC1_inv h
  refine y_callV (pc' := 6) (y := zmM_hasWayFrom) (a' := [.int x1, .int (nI 0)]) (st' := []) rfl rfl rfl rfl rfl (zrecv_o (o := 10) zc_866 rfl) rfl he1 rfl rfl ?_
  obtain ⟨hb4, h⟩ := zg_inv h
  exact y_retZ rfl rfl hb4 h
noncomputable def h_M_cageWithout_2 (d : Nat) (x1 : Int32) (M : ZM) : Option ZR := zEx0 (zEv d) zmM_cageWithout (2, [(0, .ref 866), (1, .int x1)], [], M)
theorem e_M_cageWithout_2 {d : Nat} {x1 : Int32} {M : ZM} {r : ZR}  (h : zC1 (zEv d zmM_cages [.ref 866] M) (fun v3 M2 => (if x1 < v3 then zC1 (zEv d zmM_hasWay [.ref 866, .int x1] M2) (fun v7 M6 => (if v7 = (nI 0) then some (some (.int x1), M6) else h_M_cageWithout_2 d (x1 + (nI 1)) M6)) else some (some (.int (-2 : Int32)), M2))) = some r) : h_M_cageWithout_2 d x1 M = some r := by
  show zEx0 (zEv d) zmM_cageWithout (2, [(0, .ref 866), (1, .int x1)], [], M) = some r
  refine y_pure (pc' := 3) (st' := [.int x1]) rfl rfl ?_
  refine y_pure (pc' := 4) (st' := [.ref 866, .int x1]) rfl rfl ?_
  obtain ⟨v3, M2, he1, h⟩ := zC1_inv h
  refine y_callV (pc' := 7) (y := zmM_cages) (a' := []) (st' := [.int x1]) rfl rfl rfl rfl rfl (zrecv_o (o := 10) zc_866 rfl) rfl he1 rfl rfl ?_
  rcases zif_inv h with ⟨hc4, h⟩ | ⟨hc4, h⟩
  · refine y_cmp (pc' := 10) rfl rfl (zc_geF hc4) rfl ?_
    refine y_pure (pc' := 11) (st' := [.ref 866]) rfl rfl ?_
    refine y_pure (pc' := 12) (st' := [.int x1, .ref 866]) rfl rfl ?_
    obtain ⟨v7, M6, he5, h⟩ := zC1_inv h
    refine y_callV (pc' := 15) (y := zmM_hasWay) (a' := [.int x1]) (st' := []) rfl rfl rfl rfl rfl (zrecv_o (o := 10) zc_866 rfl) rfl he5 rfl rfl ?_
    rcases zif_inv h with ⟨hc8, h⟩ | ⟨hc8, h⟩
    · refine y_cnd (pc' := 18) rfl rfl (zc_neF hc8) rfl ?_
      refine y_pure (pc' := 19) (st' := [.int x1]) rfl rfl ?_
      exact y_ret rfl rfl rfl rfl h
    · refine y_cnd (pc' := 20) rfl rfl (zc_neT hc8) rfl ?_
      refine y_pure (pc' := 23) (ls' := [(0, .ref 866), (1, .int (x1 + (nI 1)))]) (st' := []) rfl rfl ?_
      refine y_pure (pc' := 2) rfl rfl ?_
      refine zEx_sub ?_ h
      exact ⟨rfl, rfl, trivial⟩
  · refine y_cmp (pc' := 26) rfl rfl (zc_geT hc4) rfl ?_
    refine y_pure (pc' := 28) (st' := [.int (-2 : Int32)]) rfl rfl ?_
    exact y_ret rfl rfl rfl rfl h
theorem e_M_cageWithout {d : Nat}  {M : ZM} {r : ZR}  (h : h_M_cageWithout_2 d (nI 0) M = some r) : zEv (d + 1) zmM_cageWithout [.ref 866] M = some r := by
  rw [zEv_succ]
  show zEx0 (zEv d) zmM_cageWithout (0, [(0, .ref 866)], [], M) = some r
  refine y_pure (pc' := 1) (st' := [.int (nI 0)]) rfl rfl ?_
  refine y_pure (pc' := 2) (ls' := [(0, .ref 866), (1, .int (nI 0))]) (st' := []) rfl rfl ?_
  refine zEx_sub ?_ h
  exact ⟨rfl, rfl, trivial⟩
noncomputable def h_M_cellWithout_2 (d : Nat) (x1 : Int32) (M : ZM) : Option ZR := zEx0 (zEv d) zmM_cellWithout (2, [(0, .ref 866), (1, .int x1)], [], M)
theorem e_M_cellWithout_2 {d : Nat} {x1 : Int32} {M : ZM} {r : ZR}  (h : zC1 (zEv d zmM_cells [.ref 866] M) (fun v3 M2 => (if x1 < v3 then zC1 (zEv d zmM_isOpen [.ref 866, .int x1] M2) (fun v7 M6 => (if v7 = (nI 0) then h_M_cellWithout_2 d (x1 + (nI 1)) M6 else zC1 (zEv d zmM_marks [.ref 866, .int x1] M6) (fun v11 M10 => (if v11 = (nI 0) then some (some (.int x1), M10) else h_M_cellWithout_2 d (x1 + (nI 1)) M10)))) else some (some (.int (-2 : Int32)), M2))) = some r) : h_M_cellWithout_2 d x1 M = some r := by
  show zEx0 (zEv d) zmM_cellWithout (2, [(0, .ref 866), (1, .int x1)], [], M) = some r
  refine y_pure (pc' := 3) (st' := [.int x1]) rfl rfl ?_
  refine y_pure (pc' := 4) (st' := [.ref 866, .int x1]) rfl rfl ?_
  obtain ⟨v3, M2, he1, h⟩ := zC1_inv h
  refine y_callV (pc' := 7) (y := zmM_cells) (a' := []) (st' := [.int x1]) rfl rfl rfl rfl rfl (zrecv_o (o := 10) zc_866 rfl) rfl he1 rfl rfl ?_
  rcases zif_inv h with ⟨hc4, h⟩ | ⟨hc4, h⟩
  · refine y_cmp (pc' := 10) rfl rfl (zc_geF hc4) rfl ?_
    refine y_pure (pc' := 11) (st' := [.ref 866]) rfl rfl ?_
    refine y_pure (pc' := 12) (st' := [.int x1, .ref 866]) rfl rfl ?_
    obtain ⟨v7, M6, he5, h⟩ := zC1_inv h
    refine y_callV (pc' := 15) (y := zmM_isOpen) (a' := [.int x1]) (st' := []) rfl rfl rfl rfl rfl (zrecv_o (o := 10) zc_866 rfl) rfl he5 rfl rfl ?_
    rcases zif_inv h with ⟨hc8, h⟩ | ⟨hc8, h⟩
    · refine y_cnd (pc' := 28) rfl rfl (zc_eqT hc8) rfl ?_
      refine y_pure (pc' := 31) (ls' := [(0, .ref 866), (1, .int (x1 + (nI 1)))]) (st' := []) rfl rfl ?_
      refine y_pure (pc' := 2) rfl rfl ?_
      refine zEx_sub ?_ h
      exact ⟨rfl, rfl, trivial⟩
    · refine y_cnd (pc' := 18) rfl rfl (zc_eqF hc8) rfl ?_
      refine y_pure (pc' := 19) (st' := [.ref 866]) rfl rfl ?_
      refine y_pure (pc' := 20) (st' := [.int x1, .ref 866]) rfl rfl ?_
      obtain ⟨v11, M10, he9, h⟩ := zC1_inv h
      refine y_callV (pc' := 23) (y := zmM_marks) (a' := [.int x1]) (st' := []) rfl rfl rfl rfl rfl (zrecv_o (o := 10) zc_866 rfl) rfl he9 rfl rfl ?_
      rcases zif_inv h with ⟨hc12, h⟩ | ⟨hc12, h⟩
      · refine y_cnd (pc' := 26) rfl rfl (zc_neF hc12) rfl ?_
        refine y_pure (pc' := 27) (st' := [.int x1]) rfl rfl ?_
        exact y_ret rfl rfl rfl rfl h
      · refine y_cnd (pc' := 28) rfl rfl (zc_neT hc12) rfl ?_
        refine y_pure (pc' := 31) (ls' := [(0, .ref 866), (1, .int (x1 + (nI 1)))]) (st' := []) rfl rfl ?_
        refine y_pure (pc' := 2) rfl rfl ?_
        refine zEx_sub ?_ h
        exact ⟨rfl, rfl, trivial⟩
  · refine y_cmp (pc' := 34) rfl rfl (zc_geT hc4) rfl ?_
    refine y_pure (pc' := 36) (st' := [.int (-2 : Int32)]) rfl rfl ?_
    exact y_ret rfl rfl rfl rfl h
theorem e_M_cellWithout {d : Nat}  {M : ZM} {r : ZR}  (h : h_M_cellWithout_2 d (nI 0) M = some r) : zEv (d + 1) zmM_cellWithout [.ref 866] M = some r := by
  rw [zEv_succ]
  show zEx0 (zEv d) zmM_cellWithout (0, [(0, .ref 866)], [], M) = some r
  refine y_pure (pc' := 1) (st' := [.int (nI 0)]) rfl rfl ?_
  refine y_pure (pc' := 2) (ls' := [(0, .ref 866), (1, .int (nI 0))]) (st' := []) rfl rfl ?_
  refine zEx_sub ?_ h
  exact ⟨rfl, rfl, trivial⟩
theorem e_M_isBroken {d : Nat}  {M : ZM} {r : ZR}  (h : zC1 (zEv d zmM_cellWithout [.ref 866] M) (fun v3 M2 => (if v3 = (-2 : Int32) then zC1 (zEv d zmM_cageWithout [.ref 866] M2) (fun v7 M6 => (if v7 = (-2 : Int32) then some (some (.int (nI 0)), M6) else some (some (.int (nI 1)), M6))) else some (some (.int (nI 1)), M2))) = some r) : zEv (d + 1) zmM_isBroken [.ref 866] M = some r := by
  rw [zEv_succ]
  show zEx0 (zEv d) zmM_isBroken (0, [(0, .ref 866)], [], M) = some r
  refine y_pure (pc' := 1) (st' := [.ref 866]) rfl rfl ?_
  obtain ⟨v3, M2, he1, h⟩ := zC1_inv h
  refine y_callV (pc' := 4) (y := zmM_cellWithout) (a' := []) (st' := []) rfl rfl rfl rfl rfl (zrecv_o (o := 10) zc_866 rfl) rfl he1 rfl rfl ?_
  refine y_pure (pc' := 6) (st' := [.int (-2 : Int32), .int v3]) rfl rfl ?_
  rcases zif_inv h with ⟨hc4, h⟩ | ⟨hc4, h⟩
  · refine y_cmp (pc' := 9) rfl rfl (zc_neF hc4) rfl ?_
    refine y_pure (pc' := 10) (st' := [.ref 866]) rfl rfl ?_
    obtain ⟨v7, M6, he5, h⟩ := zC1_inv h
    refine y_callV (pc' := 13) (y := zmM_cageWithout) (a' := []) (st' := []) rfl rfl rfl rfl rfl (zrecv_o (o := 10) zc_866 rfl) rfl he5 rfl rfl ?_
    refine y_pure (pc' := 15) (st' := [.int (-2 : Int32), .int v7]) rfl rfl ?_
    rcases zif_inv h with ⟨hc8, h⟩ | ⟨hc8, h⟩
    · refine y_cmp (pc' := 22) rfl rfl (zc_eqT hc8) rfl ?_
      refine y_pure (pc' := 23) (st' := [.int (nI 0)]) rfl rfl ?_
      exact y_retZ rfl rfl (by decide) h
    · refine y_cmp (pc' := 18) rfl rfl (zc_eqF hc8) rfl ?_
      refine y_pure (pc' := 19) (st' := [.int (nI 1)]) rfl rfl ?_
      refine y_pure (pc' := 23) rfl rfl ?_
      exact y_retZ rfl rfl (by decide) h
  · refine y_cmp (pc' := 18) rfl rfl (zc_neT hc4) rfl ?_
    refine y_pure (pc' := 19) (st' := [.int (nI 1)]) rfl rfl ?_
    refine y_pure (pc' := 23) rfl rfl ?_
    exact y_retZ rfl rfl (by decide) h
theorem e_M_broken {d : Nat} {x1 : Int32} {M : ZM} {r : ZR}  (h : zC1 (zEv d zmM_isBoard [.ref 866] M) (fun v3 M2 => (if v3 = (nI 0) then some (some (.int (-1 : Int32)), M2) else zC1 (zEv d zmM_in [.long (Int32.toInt64 x1), .long (nJ 0), .long (nJ 2)] M2) (fun v7 M6 => (if v7 = (nI 0) then some (some (.int (-1 : Int32)), M6) else (if x1 = (nI 0) then zC1 (zEv d zmM_isBroken [.ref 866] M6) (fun v12 M11 => (if v12 = (nI 0) then some (some (.int (nI 0)), M11) else some (some (.int (nI 1)), M11))) else (if x1 = (nI 1) then zC1 (zEv d zmM_cageWithout [.ref 866] M6) (fun v17 M16 => some (some (.int v17), M16)) else zC1 (zEv d zmM_cellWithout [.ref 866] M6) (fun v20 M19 => some (some (.int v20), M19)))))))) = some r) : zEv (d + 1) zmM_broken [.ref 866, .int x1] M = some r := by
  rw [zEv_succ]
  show zEx0 (zEv d) zmM_broken (0, [(0, .ref 866), (1, .int x1)], [], M) = some r
  refine y_pure (pc' := 1) (st' := [.ref 866]) rfl rfl ?_
  obtain ⟨v3, M2, he1, h⟩ := zC1_inv h
  refine y_callV (pc' := 4) (y := zmM_isBoard) (a' := []) (st' := []) rfl rfl rfl rfl rfl (zrecv_o (o := 10) zc_866 rfl) rfl he1 rfl rfl ?_
  rcases zif_inv h with ⟨hc4, h⟩ | ⟨hc4, h⟩
  · refine y_cnd (pc' := 19) rfl rfl (zc_eqT hc4) rfl ?_
    refine y_pure (pc' := 20) (st' := [.int (-1 : Int32)]) rfl rfl ?_
    exact y_ret rfl rfl rfl rfl h
  · refine y_cnd (pc' := 7) rfl rfl (zc_eqF hc4) rfl ?_
    refine y_pure (pc' := 8) (st' := [.int x1]) rfl rfl ?_
    refine y_pure (pc' := 9) (st' := [.long (Int32.toInt64 x1)]) rfl rfl ?_
    refine y_pure (pc' := 10) (st' := [.long (nJ 0), .long (Int32.toInt64 x1)]) rfl rfl ?_
    refine y_pure (pc' := 13) (st' := [.long (nJ 2), .long (nJ 0), .long (Int32.toInt64 x1)]) rfl rfl ?_
    obtain ⟨v7, M6, he5, h⟩ := zC1_inv h
    refine y_callS (pc' := 16) (y := zmM_in) (a := [.long (Int32.toInt64 x1), .long (nJ 0), .long (nJ 2)]) (st' := []) rfl rfl rfl rfl rfl rfl he5 rfl rfl ?_
    rcases zif_inv h with ⟨hc8, h⟩ | ⟨hc8, h⟩
    · refine y_cnd (pc' := 19) rfl rfl (zc_neF hc8) rfl ?_
      refine y_pure (pc' := 20) (st' := [.int (-1 : Int32)]) rfl rfl ?_
      exact y_ret rfl rfl rfl rfl h
    · refine y_cnd (pc' := 21) rfl rfl (zc_neT hc8) rfl ?_
      refine y_pure (pc' := 22) (st' := [.int x1]) rfl rfl ?_
      rcases zif_inv h with ⟨hc9, h⟩ | ⟨hc9, h⟩
      · refine y_cnd (pc' := 25) rfl rfl (zc_neF hc9) rfl ?_
        refine y_pure (pc' := 26) (st' := [.ref 866]) rfl rfl ?_
        obtain ⟨v12, M11, he10, h⟩ := zC1_inv h
        refine y_callV (pc' := 29) (y := zmM_isBroken) (a' := []) (st' := []) rfl rfl rfl rfl rfl (zrecv_o (o := 10) zc_866 rfl) rfl he10 rfl rfl ?_
        rcases zif_inv h with ⟨hc13, h⟩ | ⟨hc13, h⟩
        · refine y_cnd (pc' := 36) rfl rfl (zc_eqT hc13) rfl ?_
          refine y_pure (pc' := 37) (st' := [.int (nI 0)]) rfl rfl ?_
          refine y_pure (pc' := 56) rfl rfl ?_
          exact y_ret rfl rfl rfl rfl h
        · refine y_cnd (pc' := 32) rfl rfl (zc_eqF hc13) rfl ?_
          refine y_pure (pc' := 33) (st' := [.int (nI 1)]) rfl rfl ?_
          refine y_pure (pc' := 56) rfl rfl ?_
          exact y_ret rfl rfl rfl rfl h
      · refine y_cnd (pc' := 40) rfl rfl (zc_neT hc9) rfl ?_
        refine y_pure (pc' := 41) (st' := [.int x1]) rfl rfl ?_
        refine y_pure (pc' := 42) (st' := [.int (nI 1), .int x1]) rfl rfl ?_
        rcases zif_inv h with ⟨hc14, h⟩ | ⟨hc14, h⟩
        · refine y_cmp (pc' := 45) rfl rfl (zc_neF hc14) rfl ?_
          refine y_pure (pc' := 46) (st' := [.ref 866]) rfl rfl ?_
          obtain ⟨v17, M16, he15, h⟩ := zC1_inv h
          refine y_callV (pc' := 49) (y := zmM_cageWithout) (a' := []) (st' := []) rfl rfl rfl rfl rfl (zrecv_o (o := 10) zc_866 rfl) rfl he15 rfl rfl ?_
          refine y_pure (pc' := 56) rfl rfl ?_
          exact y_ret rfl rfl rfl rfl h
        · refine y_cmp (pc' := 52) rfl rfl (zc_neT hc14) rfl ?_
          refine y_pure (pc' := 53) (st' := [.ref 866]) rfl rfl ?_
          obtain ⟨v20, M19, he18, h⟩ := zC1_inv h
          refine y_callV (pc' := 56) (y := zmM_cellWithout) (a' := []) (st' := []) rfl rfl rfl rfl rfl (zrecv_o (o := 10) zc_866 rfl) rfl he18 rfl rfl ?_
          exact y_ret rfl rfl rfl rfl h
theorem e_M_found {d : Nat} {x1 : Int32} {x2 : Int32} {x3 : Int32} {x4 : Int32} {M : ZM} {r : ZR}  (h : some (none, (zpi (zpi (zpi (zpi M 866 12 x1) 866 13 x2) 866 14 x3) 866 16 x4)) = some r) : zEv (d + 1) zmM_found [.ref 866, .int x1, .int x2, .int x3, .int x4] M = some r := by
  rw [zEv_succ]
  show zEx0 (zEv d) zmM_found (0, [(0, .ref 866), (1, .int x1), (2, .int x2), (3, .int x3), (4, .int x4)], [], M) = some r
  refine y_pure (pc' := 1) (st' := [.ref 866]) rfl rfl ?_
  refine y_pure (pc' := 2) (st' := [.int x1, .ref 866]) rfl rfl ?_
  refine y_putI (pc' := 5) rfl rfl zc_866 rfl ?_
  refine y_pure (pc' := 6) (st' := [.ref 866]) rfl rfl ?_
  refine y_pure (pc' := 7) (st' := [.int x2, .ref 866]) rfl rfl ?_
  refine y_putI (pc' := 10) rfl rfl zc_866 rfl ?_
  refine y_pure (pc' := 11) (st' := [.ref 866]) rfl rfl ?_
  refine y_pure (pc' := 12) (st' := [.int x3, .ref 866]) rfl rfl ?_
  refine y_putI (pc' := 15) rfl rfl zc_866 rfl ?_
  refine y_pure (pc' := 16) (st' := [.ref 866]) rfl rfl ?_
  refine y_pure (pc' := 18) (st' := [.int x4, .ref 866]) rfl rfl ?_
  refine y_putI (pc' := 21) rfl rfl zc_866 rfl ?_
  exact y_ret rfl rfl rfl rfl h
noncomputable def h_M_findsAlone_2 (d : Nat) (x1 : Int32) (M : ZM) : Option ZR := zEx0 (zEv d) zmM_findsAlone (2, [(0, .ref 866), (1, .int x1)], [], M)
theorem e_M_findsAlone_2 {d : Nat} {x1 : Int32} {M : ZM} {r : ZR}  (h : zC1 (zEv d zmM_cells [.ref 866] M) (fun v3 M2 => (if x1 < v3 then (if (M2.1 866 12) = (nI 0) then zC1 (zEv d zmM_isOpen [.ref 866, .int x1] M2) (fun v8 M7 => (if v8 = (nI 0) then h_M_findsAlone_2 d (x1 + (nI 1)) M7 else zC1 (zEv d zmM_isDone [.ref 866, .int x1] M7) (fun v12 M11 => (if v12 = (nI 0) then zC1 (zEv d zmM_marks [.ref 866, .int x1] M11) (fun v16 M15 => zC1 (zEv d zmM_bits [.int v16] M15) (fun v19 M18 => (if v19 = (nI 1) then zC1 (zEv d zmM_marks [.ref 866, .int x1] M18) (fun v23 M22 => zC1 (zEv d zmM_least [.ref 866, .int v23] M22) (fun v26 M25 => zC0 (zEv d zmM_found [.ref 866, .int (nI 1), .int (-2 : Int32), .int x1, .int v26] M25) (fun M28 => h_M_findsAlone_2 d (x1 + (nI 1)) M28))) else h_M_findsAlone_2 d (x1 + (nI 1)) M18))) else h_M_findsAlone_2 d (x1 + (nI 1)) M11)))) else some (none, M2)) else some (none, M2))) = some r) : h_M_findsAlone_2 d x1 M = some r := by
  show zEx0 (zEv d) zmM_findsAlone (2, [(0, .ref 866), (1, .int x1)], [], M) = some r
  refine y_pure (pc' := 3) (st' := [.int x1]) rfl rfl ?_
  refine y_pure (pc' := 4) (st' := [.ref 866, .int x1]) rfl rfl ?_
  obtain ⟨v3, M2, he1, h⟩ := zC1_inv h
  refine y_callV (pc' := 7) (y := zmM_cells) (a' := []) (st' := [.int x1]) rfl rfl rfl rfl rfl (zrecv_o (o := 10) zc_866 rfl) rfl he1 rfl rfl ?_
  rcases zif_inv h with ⟨hc4, h⟩ | ⟨hc4, h⟩
  · refine y_cmp (pc' := 10) rfl rfl (zc_geF hc4) rfl ?_
    refine y_pure (pc' := 11) (st' := [.ref 866]) rfl rfl ?_
    refine y_getf (pc' := 14) (v := .int (M2.1 866 12)) rfl rfl rfl zc_866 rfl rfl ?_
    rcases zif_inv h with ⟨hc5, h⟩ | ⟨hc5, h⟩
    · refine y_cnd (pc' := 17) rfl rfl (zc_neF hc5) rfl ?_
      refine y_pure (pc' := 18) (st' := [.ref 866]) rfl rfl ?_
      refine y_pure (pc' := 19) (st' := [.int x1, .ref 866]) rfl rfl ?_
      obtain ⟨v8, M7, he6, h⟩ := zC1_inv h
      refine y_callV (pc' := 22) (y := zmM_isOpen) (a' := [.int x1]) (st' := []) rfl rfl rfl rfl rfl (zrecv_o (o := 10) zc_866 rfl) rfl he6 rfl rfl ?_
      rcases zif_inv h with ⟨hc9, h⟩ | ⟨hc9, h⟩
      · refine y_cnd (pc' := 62) rfl rfl (zc_eqT hc9) rfl ?_
        refine y_pure (pc' := 65) (ls' := [(0, .ref 866), (1, .int (x1 + (nI 1)))]) (st' := []) rfl rfl ?_
        refine y_pure (pc' := 2) rfl rfl ?_
        refine zEx_sub ?_ h
        exact ⟨rfl, rfl, trivial⟩
      · refine y_cnd (pc' := 25) rfl rfl (zc_eqF hc9) rfl ?_
        refine y_pure (pc' := 26) (st' := [.ref 866]) rfl rfl ?_
        refine y_pure (pc' := 27) (st' := [.int x1, .ref 866]) rfl rfl ?_
        obtain ⟨v12, M11, he10, h⟩ := zC1_inv h
        refine y_callV (pc' := 30) (y := zmM_isDone) (a' := [.int x1]) (st' := []) rfl rfl rfl rfl rfl (zrecv_o (o := 10) zc_866 rfl) rfl he10 rfl rfl ?_
        rcases zif_inv h with ⟨hc13, h⟩ | ⟨hc13, h⟩
        · refine y_cnd (pc' := 33) rfl rfl (zc_neF hc13) rfl ?_
          refine y_pure (pc' := 34) (st' := [.ref 866]) rfl rfl ?_
          refine y_pure (pc' := 35) (st' := [.int x1, .ref 866]) rfl rfl ?_
          obtain ⟨v16, M15, he14, h⟩ := zC1_inv h
          refine y_callV (pc' := 38) (y := zmM_marks) (a' := [.int x1]) (st' := []) rfl rfl rfl rfl rfl (zrecv_o (o := 10) zc_866 rfl) rfl he14 rfl rfl ?_
          obtain ⟨v19, M18, he17, h⟩ := zC1_inv h
          refine y_callS (pc' := 41) (y := zmM_bits) (a := [.int v16]) (st' := []) rfl rfl rfl rfl rfl rfl he17 rfl rfl ?_
          refine y_pure (pc' := 42) (st' := [.int (nI 1), .int v19]) rfl rfl ?_
          rcases zif_inv h with ⟨hc20, h⟩ | ⟨hc20, h⟩
          · refine y_cmp (pc' := 45) rfl rfl (zc_neF hc20) rfl ?_
            refine y_pure (pc' := 46) (st' := [.ref 866]) rfl rfl ?_
            refine y_pure (pc' := 47) (st' := [.int (nI 1), .ref 866]) rfl rfl ?_
            refine y_pure (pc' := 49) (st' := [.int (-2 : Int32), .int (nI 1), .ref 866]) rfl rfl ?_
            refine y_pure (pc' := 50) (st' := [.int x1, .int (-2 : Int32), .int (nI 1), .ref 866]) rfl rfl ?_
            refine y_pure (pc' := 51) (st' := [.ref 866, .int x1, .int (-2 : Int32), .int (nI 1), .ref 866]) rfl rfl ?_
            refine y_pure (pc' := 52) (st' := [.ref 866, .ref 866, .int x1, .int (-2 : Int32), .int (nI 1), .ref 866]) rfl rfl ?_
            refine y_pure (pc' := 53) (st' := [.int x1, .ref 866, .ref 866, .int x1, .int (-2 : Int32), .int (nI 1), .ref 866]) rfl rfl ?_
            obtain ⟨v23, M22, he21, h⟩ := zC1_inv h
            refine y_callV (pc' := 56) (y := zmM_marks) (a' := [.int x1]) (st' := [.ref 866, .int x1, .int (-2 : Int32), .int (nI 1), .ref 866]) rfl rfl rfl rfl rfl (zrecv_o (o := 10) zc_866 rfl) rfl he21 rfl rfl ?_
            obtain ⟨v26, M25, he24, h⟩ := zC1_inv h
            refine y_callV (pc' := 59) (y := zmM_least) (a' := [.int v23]) (st' := [.int x1, .int (-2 : Int32), .int (nI 1), .ref 866]) rfl rfl rfl rfl rfl (zrecv_o (o := 10) zc_866 rfl) rfl he24 rfl rfl ?_
            obtain ⟨M28, he27, h⟩ := zC0_inv h
            refine y_callV (pc' := 62) (y := zmM_found) (a' := [.int (nI 1), .int (-2 : Int32), .int x1, .int v26]) (st' := []) rfl rfl rfl rfl rfl (zrecv_o (o := 10) zc_866 rfl) rfl he27 rfl rfl ?_
            refine y_pure (pc' := 65) (ls' := [(0, .ref 866), (1, .int (x1 + (nI 1)))]) (st' := []) rfl rfl ?_
            refine y_pure (pc' := 2) rfl rfl ?_
            refine zEx_sub ?_ h
            exact ⟨rfl, rfl, trivial⟩
          · refine y_cmp (pc' := 62) rfl rfl (zc_neT hc20) rfl ?_
            refine y_pure (pc' := 65) (ls' := [(0, .ref 866), (1, .int (x1 + (nI 1)))]) (st' := []) rfl rfl ?_
            refine y_pure (pc' := 2) rfl rfl ?_
            refine zEx_sub ?_ h
            exact ⟨rfl, rfl, trivial⟩
        · refine y_cnd (pc' := 62) rfl rfl (zc_neT hc13) rfl ?_
          refine y_pure (pc' := 65) (ls' := [(0, .ref 866), (1, .int (x1 + (nI 1)))]) (st' := []) rfl rfl ?_
          refine y_pure (pc' := 2) rfl rfl ?_
          refine zEx_sub ?_ h
          exact ⟨rfl, rfl, trivial⟩
    · refine y_cnd (pc' := 68) rfl rfl (zc_neT hc5) rfl ?_
      exact y_ret rfl rfl rfl rfl h
  · refine y_cmp (pc' := 68) rfl rfl (zc_geT hc4) rfl ?_
    exact y_ret rfl rfl rfl rfl h
theorem e_M_findsAlone {d : Nat}  {M : ZM} {r : ZR}  (h : h_M_findsAlone_2 d (nI 0) M = some r) : zEv (d + 1) zmM_findsAlone [.ref 866] M = some r := by
  rw [zEv_succ]
  show zEx0 (zEv d) zmM_findsAlone (0, [(0, .ref 866)], [], M) = some r
  refine y_pure (pc' := 1) (st' := [.int (nI 0)]) rfl rfl ?_
  refine y_pure (pc' := 2) (ls' := [(0, .ref 866), (1, .int (nI 0))]) (st' := []) rfl rfl ?_
  refine zEx_sub ?_ h
  exact ⟨rfl, rfl, trivial⟩
noncomputable def h_M_findsWays_2 (d : Nat) (x1 : Int32) (M : ZM) : Option ZR := zEx0 (zEv d) zmM_findsWays (2, [(0, .ref 866), (1, .int x1)], [], M)
noncomputable def h_M_findsWays_24 (d : Nat) (x1 : Int32) (x2 : Int32) (M : ZM) : Option ZR := zEx0 (zEv d) zmM_findsWays (24, [(0, .ref 866), (1, .int x1), (2, .int x2)], [], M)
theorem e_M_findsWays_2 {d : Nat} {x1 : Int32} {M : ZM} {r : ZR}  (h : zC1 (zEv d zmM_cages [.ref 866] M) (fun v3 M2 => (if x1 < v3 then (if (M2.1 866 12) = (nI 0) then zC0 (zEv d zmM_laysWays [.ref 866, .int x1] M2) (fun M7 => h_M_findsWays_24 d x1 (nI 0) M7) else some (none, M2)) else some (none, M2))) = some r) : h_M_findsWays_2 d x1 M = some r := by
  show zEx0 (zEv d) zmM_findsWays (2, [(0, .ref 866), (1, .int x1)], [], M) = some r
  refine y_pure (pc' := 3) (st' := [.int x1]) rfl rfl ?_
  refine y_pure (pc' := 4) (st' := [.ref 866, .int x1]) rfl rfl ?_
  obtain ⟨v3, M2, he1, h⟩ := zC1_inv h
  refine y_callV (pc' := 7) (y := zmM_cages) (a' := []) (st' := [.int x1]) rfl rfl rfl rfl rfl (zrecv_o (o := 10) zc_866 rfl) rfl he1 rfl rfl ?_
  rcases zif_inv h with ⟨hc4, h⟩ | ⟨hc4, h⟩
  · refine y_cmp (pc' := 10) rfl rfl (zc_geF hc4) rfl ?_
    refine y_pure (pc' := 11) (st' := [.ref 866]) rfl rfl ?_
    refine y_getf (pc' := 14) (v := .int (M2.1 866 12)) rfl rfl rfl zc_866 rfl rfl ?_
    rcases zif_inv h with ⟨hc5, h⟩ | ⟨hc5, h⟩
    · refine y_cnd (pc' := 17) rfl rfl (zc_neF hc5) rfl ?_
      refine y_pure (pc' := 18) (st' := [.ref 866]) rfl rfl ?_
      refine y_pure (pc' := 19) (st' := [.int x1, .ref 866]) rfl rfl ?_
      obtain ⟨M7, he6, h⟩ := zC0_inv h
      refine y_callV (pc' := 22) (y := zmM_laysWays) (a' := [.int x1]) (st' := []) rfl rfl rfl rfl rfl (zrecv_o (o := 10) zc_866 rfl) rfl he6 rfl rfl ?_
      refine y_pure (pc' := 23) (st' := [.int (nI 0)]) rfl rfl ?_
      refine y_pure (pc' := 24) (ls' := [(0, .ref 866), (1, .int x1), (2, .int (nI 0))]) (st' := []) rfl rfl ?_
      refine zEx_sub ?_ h
      exact ⟨rfl, rfl, rfl, trivial⟩
    · refine y_cnd (pc' := 94) rfl rfl (zc_neT hc5) rfl ?_
      exact y_ret rfl rfl rfl rfl h
  · refine y_cmp (pc' := 94) rfl rfl (zc_geT hc4) rfl ?_
    exact y_ret rfl rfl rfl rfl h
theorem e_M_findsWays_24 {d : Nat} {x1 : Int32} {x2 : Int32} {M : ZM} {r : ZR}  (h : zC1 (zEv d zmM_of [.ref 866, .int x1, .int (nI 3)] M) (fun v3 M2 => (if x2 < v3 then (if (M2.1 866 12) = (nI 0) then zC1 (zEv d zmM_cellOf [.ref 866, .int x1, .int x2] M2) (fun v8 M7 => zC1 (zEv d zmM_marks [.ref 866, .int v8] M7) (fun v11 M10 => (if zin x2 6 = true then zL (v11 &&& ((M10.1 874 (Int32.toNatClampNeg x2)) ^^^ (-1 : Int32))) (fun y13 => (if y13 = (nI 0) then h_M_findsWays_24 d x1 (x2 + (nI 1)) M10 else zC1 (zEv d zmM_cellOf [.ref 866, .int x1, .int x2] M10) (fun v18 M17 => zC1 (zEv d zmM_least [.ref 866, .int y13] M17) (fun v21 M20 => zC0 (zEv d zmM_found [.ref 866, .int (nI 2), .int x1, .int v18, .int v21] M20) (fun M23 => h_M_findsWays_24 d x1 (x2 + (nI 1)) M23))))) else none))) else h_M_findsWays_2 d (x1 + (nI 1)) M2) else h_M_findsWays_2 d (x1 + (nI 1)) M2)) = some r) : h_M_findsWays_24 d x1 x2 M = some r := by
  show zEx0 (zEv d) zmM_findsWays (24, [(0, .ref 866), (1, .int x1), (2, .int x2)], [], M) = some r
  refine y_pure (pc' := 25) (st' := [.int x2]) rfl rfl ?_
  refine y_pure (pc' := 26) (st' := [.ref 866, .int x2]) rfl rfl ?_
  refine y_pure (pc' := 27) (st' := [.int x1, .ref 866, .int x2]) rfl rfl ?_
  refine y_pure (pc' := 28) (st' := [.int (nI 3), .int x1, .ref 866, .int x2]) rfl rfl ?_
  obtain ⟨v3, M2, he1, h⟩ := zC1_inv h
  refine y_callV (pc' := 31) (y := zmM_of) (a' := [.int x1, .int (nI 3)]) (st' := [.int x2]) rfl rfl rfl rfl rfl (zrecv_o (o := 10) zc_866 rfl) rfl he1 rfl rfl ?_
  rcases zif_inv h with ⟨hc4, h⟩ | ⟨hc4, h⟩
  · refine y_cmp (pc' := 34) rfl rfl (zc_geF hc4) rfl ?_
    refine y_pure (pc' := 35) (st' := [.ref 866]) rfl rfl ?_
    refine y_getf (pc' := 38) (v := .int (M2.1 866 12)) rfl rfl rfl zc_866 rfl rfl ?_
    rcases zif_inv h with ⟨hc5, h⟩ | ⟨hc5, h⟩
    · refine y_cnd (pc' := 41) rfl rfl (zc_neF hc5) rfl ?_
      refine y_pure (pc' := 42) (st' := [.ref 866]) rfl rfl ?_
      refine y_pure (pc' := 43) (st' := [.ref 866, .ref 866]) rfl rfl ?_
      refine y_pure (pc' := 44) (st' := [.int x1, .ref 866, .ref 866]) rfl rfl ?_
      refine y_pure (pc' := 45) (st' := [.int x2, .int x1, .ref 866, .ref 866]) rfl rfl ?_
      obtain ⟨v8, M7, he6, h⟩ := zC1_inv h
      refine y_callV (pc' := 48) (y := zmM_cellOf) (a' := [.int x1, .int x2]) (st' := [.ref 866]) rfl rfl rfl rfl rfl (zrecv_o (o := 10) zc_866 rfl) rfl he6 rfl rfl ?_
      obtain ⟨v11, M10, he9, h⟩ := zC1_inv h
      refine y_callV (pc' := 51) (y := zmM_marks) (a' := [.int v8]) (st' := []) rfl rfl rfl rfl rfl (zrecv_o (o := 10) zc_866 rfl) rfl he9 rfl rfl ?_
      refine y_pure (pc' := 52) (st' := [.ref 866, .int v11]) rfl rfl ?_
      refine y_getf (pc' := 55) (v := .ref 874) rfl rfl rfl zc_866 rfl rfl ?_
      refine y_pure (pc' := 56) (st' := [.int x2, .ref 874, .int v11]) rfl rfl ?_
      obtain ⟨hi12, h⟩ := zg_inv h
      refine y_iald (pc' := 57) rfl zc_874 hi12 rfl ?_
      refine y_pure (pc' := 58) (st' := [.int (-1 : Int32), .int (M10.1 874 (Int32.toNatClampNeg x2)), .int v11]) rfl rfl ?_
      refine y_pure (pc' := 59) (st' := [.int ((M10.1 874 (Int32.toNatClampNeg x2)) ^^^ (-1 : Int32)), .int v11]) rfl rfl ?_
      refine y_pure (pc' := 60) (st' := [.int (v11 &&& ((M10.1 874 (Int32.toNatClampNeg x2)) ^^^ (-1 : Int32)))]) rfl rfl ?_
      obtain ⟨y13, e14, h⟩ := zL_inv h
      refine zT_gen e14 ?_
      refine y_pure (pc' := 61) (ls' := [(0, .ref 866), (1, .int x1), (2, .int x2), (3, .int y13)]) (st' := []) rfl rfl ?_
      refine y_pure (pc' := 62) (st' := [.int y13]) rfl rfl ?_
      rcases zif_inv h with ⟨hc15, h⟩ | ⟨hc15, h⟩
      · refine y_cnd (pc' := 82) rfl rfl (zc_eqT hc15) rfl ?_
        refine y_pure (pc' := 85) (ls' := [(0, .ref 866), (1, .int x1), (2, .int (x2 + (nI 1))), (3, .int y13)]) (st' := []) rfl rfl ?_
        refine y_pure (pc' := 24) rfl rfl ?_
        refine zEx_sub ?_ h
        exact ⟨rfl, rfl, rfl, trivial⟩
      · refine y_cnd (pc' := 65) rfl rfl (zc_eqF hc15) rfl ?_
        refine y_pure (pc' := 66) (st' := [.ref 866]) rfl rfl ?_
        refine y_pure (pc' := 67) (st' := [.int (nI 2), .ref 866]) rfl rfl ?_
        refine y_pure (pc' := 68) (st' := [.int x1, .int (nI 2), .ref 866]) rfl rfl ?_
        refine y_pure (pc' := 69) (st' := [.ref 866, .int x1, .int (nI 2), .ref 866]) rfl rfl ?_
        refine y_pure (pc' := 70) (st' := [.int x1, .ref 866, .int x1, .int (nI 2), .ref 866]) rfl rfl ?_
        refine y_pure (pc' := 71) (st' := [.int x2, .int x1, .ref 866, .int x1, .int (nI 2), .ref 866]) rfl rfl ?_
        obtain ⟨v18, M17, he16, h⟩ := zC1_inv h
        refine y_callV (pc' := 74) (y := zmM_cellOf) (a' := [.int x1, .int x2]) (st' := [.int x1, .int (nI 2), .ref 866]) rfl rfl rfl rfl rfl (zrecv_o (o := 10) zc_866 rfl) rfl he16 rfl rfl ?_
        refine y_pure (pc' := 75) (st' := [.ref 866, .int v18, .int x1, .int (nI 2), .ref 866]) rfl rfl ?_
        refine y_pure (pc' := 76) (st' := [.int y13, .ref 866, .int v18, .int x1, .int (nI 2), .ref 866]) rfl rfl ?_
        obtain ⟨v21, M20, he19, h⟩ := zC1_inv h
        refine y_callV (pc' := 79) (y := zmM_least) (a' := [.int y13]) (st' := [.int v18, .int x1, .int (nI 2), .ref 866]) rfl rfl rfl rfl rfl (zrecv_o (o := 10) zc_866 rfl) rfl he19 rfl rfl ?_
        obtain ⟨M23, he22, h⟩ := zC0_inv h
        refine y_callV (pc' := 82) (y := zmM_found) (a' := [.int (nI 2), .int x1, .int v18, .int v21]) (st' := []) rfl rfl rfl rfl rfl (zrecv_o (o := 10) zc_866 rfl) rfl he22 rfl rfl ?_
        refine y_pure (pc' := 85) (ls' := [(0, .ref 866), (1, .int x1), (2, .int (x2 + (nI 1))), (3, .int y13)]) (st' := []) rfl rfl ?_
        refine y_pure (pc' := 24) rfl rfl ?_
        refine zEx_sub ?_ h
        exact ⟨rfl, rfl, rfl, trivial⟩
    · refine y_cnd (pc' := 88) rfl rfl (zc_neT hc5) rfl ?_
      refine y_pure (pc' := 91) (ls' := [(0, .ref 866), (1, .int (x1 + (nI 1))), (2, .int x2)]) (st' := []) rfl rfl ?_
      refine y_pure (pc' := 2) rfl rfl ?_
      refine zEx_sub ?_ h
      exact ⟨rfl, rfl, trivial⟩
  · refine y_cmp (pc' := 88) rfl rfl (zc_geT hc4) rfl ?_
    refine y_pure (pc' := 91) (ls' := [(0, .ref 866), (1, .int (x1 + (nI 1))), (2, .int x2)]) (st' := []) rfl rfl ?_
    refine y_pure (pc' := 2) rfl rfl ?_
    refine zEx_sub ?_ h
    exact ⟨rfl, rfl, trivial⟩
theorem e_M_findsWays {d : Nat}  {M : ZM} {r : ZR}  (h : h_M_findsWays_2 d (nI 0) M = some r) : zEv (d + 1) zmM_findsWays [.ref 866] M = some r := by
  rw [zEv_succ]
  show zEx0 (zEv d) zmM_findsWays (0, [(0, .ref 866)], [], M) = some r
  refine y_pure (pc' := 1) (st' := [.int (nI 0)]) rfl rfl ?_
  refine y_pure (pc' := 2) (ls' := [(0, .ref 866), (1, .int (nI 0))]) (st' := []) rfl rfl ?_
  refine zEx_sub ?_ h
  exact ⟨rfl, rfl, trivial⟩
noncomputable def h_M_onlyOne_5 (d : Nat) (x1 : Int32) (x2 : Int32) (x3 : Int32) (x4 : Int32) (M : ZM) : Option ZR := zEx0 (zEv d) zmM_onlyOne (5, [(0, .ref 866), (1, .int x1), (2, .int x2), (3, .int x3), (4, .int x4)], [], M)
theorem e_M_onlyOne_5 {d : Nat} {x1 : Int32} {x2 : Int32} {x3 : Int32} {x4 : Int32} {M : ZM} {r : ZR}  (h : zC1 (zEv d zmM_of [.ref 866, .int x1, .int (nI 3)] M) (fun v3 M2 => (if x4 < v3 then zC1 (zEv d zmM_cellOf [.ref 866, .int x1, .int x4] M2) (fun v7 M6 => zC1 (zEv d zmM_marks [.ref 866, .int v7] M6) (fun v10 M9 => zC1 (zEv d zmM_holds [.int v10, .int x2] M9) (fun v13 M12 => (if v13 = (nI 0) then h_M_onlyOne_5 d x1 x2 x3 (x4 + (nI 1)) M12 else zC1 (zEv d zmM_isDone [.ref 866, .int v7] M12) (fun v17 M16 => (if v17 = (nI 0) then (if x3 = (-1 : Int32) then h_M_onlyOne_5 d x1 x2 v7 (x4 + (nI 1)) M16 else some (some (.int (-1 : Int32)), M16)) else some (some (.int (-1 : Int32)), M16))))))) else (if x3 = (-1 : Int32) then some (some (.int (-1 : Int32)), M2) else zC1 (zEv d zmM_marks [.ref 866, .int x3] M2) (fun v23 M22 => zC1 (zEv d zmM_bits [.int v23] M22) (fun v26 M25 => (if (nI 1) < v26 then some (some (.int x3), M25) else some (some (.int (-1 : Int32)), M25))))))) = some r) : h_M_onlyOne_5 d x1 x2 x3 x4 M = some r := by
  show zEx0 (zEv d) zmM_onlyOne (5, [(0, .ref 866), (1, .int x1), (2, .int x2), (3, .int x3), (4, .int x4)], [], M) = some r
  refine y_pure (pc' := 7) (st' := [.int x4]) rfl rfl ?_
  refine y_pure (pc' := 8) (st' := [.ref 866, .int x4]) rfl rfl ?_
  refine y_pure (pc' := 9) (st' := [.int x1, .ref 866, .int x4]) rfl rfl ?_
  refine y_pure (pc' := 10) (st' := [.int (nI 3), .int x1, .ref 866, .int x4]) rfl rfl ?_
  obtain ⟨v3, M2, he1, h⟩ := zC1_inv h
  refine y_callV (pc' := 13) (y := zmM_of) (a' := [.int x1, .int (nI 3)]) (st' := [.int x4]) rfl rfl rfl rfl rfl (zrecv_o (o := 10) zc_866 rfl) rfl he1 rfl rfl ?_
  rcases zif_inv h with ⟨hc4, h⟩ | ⟨hc4, h⟩
  · refine y_cmp (pc' := 16) rfl rfl (zc_geF hc4) rfl ?_
    refine y_pure (pc' := 17) (st' := [.ref 866]) rfl rfl ?_
    refine y_pure (pc' := 18) (st' := [.int x1, .ref 866]) rfl rfl ?_
    refine y_pure (pc' := 20) (st' := [.int x4, .int x1, .ref 866]) rfl rfl ?_
    obtain ⟨v7, M6, he5, h⟩ := zC1_inv h
    refine y_callV (pc' := 23) (y := zmM_cellOf) (a' := [.int x1, .int x4]) (st' := []) rfl rfl rfl rfl rfl (zrecv_o (o := 10) zc_866 rfl) rfl he5 rfl rfl ?_
    refine y_pure (pc' := 25) (ls' := [(0, .ref 866), (1, .int x1), (2, .int x2), (3, .int x3), (4, .int x4), (5, .int v7)]) (st' := []) rfl rfl ?_
    refine y_pure (pc' := 26) (st' := [.ref 866]) rfl rfl ?_
    refine y_pure (pc' := 28) (st' := [.int v7, .ref 866]) rfl rfl ?_
    obtain ⟨v10, M9, he8, h⟩ := zC1_inv h
    refine y_callV (pc' := 31) (y := zmM_marks) (a' := [.int v7]) (st' := []) rfl rfl rfl rfl rfl (zrecv_o (o := 10) zc_866 rfl) rfl he8 rfl rfl ?_
    refine y_pure (pc' := 32) (st' := [.int x2, .int v10]) rfl rfl ?_
    obtain ⟨v13, M12, he11, h⟩ := zC1_inv h
    refine y_callS (pc' := 35) (y := zmM_holds) (a := [.int v10, .int x2]) (st' := []) rfl rfl rfl rfl rfl rfl he11 rfl rfl ?_
    rcases zif_inv h with ⟨hc14, h⟩ | ⟨hc14, h⟩
    · refine y_cnd (pc' := 38) rfl rfl (zc_neF hc14) rfl ?_
      refine y_pure (pc' := 60) rfl rfl ?_
      refine y_pure (pc' := 63) (ls' := [(0, .ref 866), (1, .int x1), (2, .int x2), (3, .int x3), (4, .int (x4 + (nI 1))), (5, .int v7)]) (st' := []) rfl rfl ?_
      refine y_pure (pc' := 5) rfl rfl ?_
      refine zEx_sub ?_ h
      exact ⟨rfl, rfl, rfl, rfl, rfl, trivial⟩
    · refine y_cnd (pc' := 41) rfl rfl (zc_neT hc14) rfl ?_
      refine y_pure (pc' := 42) (st' := [.ref 866]) rfl rfl ?_
      refine y_pure (pc' := 44) (st' := [.int v7, .ref 866]) rfl rfl ?_
      obtain ⟨v17, M16, he15, h⟩ := zC1_inv h
      refine y_callV (pc' := 47) (y := zmM_isDone) (a' := [.int v7]) (st' := []) rfl rfl rfl rfl rfl (zrecv_o (o := 10) zc_866 rfl) rfl he15 rfl rfl ?_
      rcases zif_inv h with ⟨hc18, h⟩ | ⟨hc18, h⟩
      · refine y_cnd (pc' := 50) rfl rfl (zc_neF hc18) rfl ?_
        refine y_pure (pc' := 51) (st' := [.int x3]) rfl rfl ?_
        refine y_pure (pc' := 52) (st' := [.int (-1 : Int32), .int x3]) rfl rfl ?_
        rcases zif_inv h with ⟨hc19, h⟩ | ⟨hc19, h⟩
        · refine y_cmp (pc' := 57) rfl rfl (zc_eqT hc19) rfl ?_
          refine y_pure (pc' := 59) (st' := [.int v7]) rfl rfl ?_
          refine y_pure (pc' := 60) (ls' := [(0, .ref 866), (1, .int x1), (2, .int x2), (3, .int v7), (4, .int x4), (5, .int v7)]) (st' := []) rfl rfl ?_
          refine y_pure (pc' := 63) (ls' := [(0, .ref 866), (1, .int x1), (2, .int x2), (3, .int v7), (4, .int (x4 + (nI 1))), (5, .int v7)]) (st' := []) rfl rfl ?_
          refine y_pure (pc' := 5) rfl rfl ?_
          refine zEx_sub ?_ h
          exact ⟨rfl, rfl, rfl, rfl, rfl, trivial⟩
        · refine y_cmp (pc' := 55) rfl rfl (zc_eqF hc19) rfl ?_
          refine y_pure (pc' := 56) (st' := [.int (-1 : Int32)]) rfl rfl ?_
          exact y_ret rfl rfl rfl rfl h
      · refine y_cnd (pc' := 55) rfl rfl (zc_neT hc18) rfl ?_
        refine y_pure (pc' := 56) (st' := [.int (-1 : Int32)]) rfl rfl ?_
        exact y_ret rfl rfl rfl rfl h
  · refine y_cmp (pc' := 66) rfl rfl (zc_geT hc4) rfl ?_
    refine y_pure (pc' := 67) (st' := [.int x3]) rfl rfl ?_
    refine y_pure (pc' := 68) (st' := [.int (-1 : Int32), .int x3]) rfl rfl ?_
    rcases zif_inv h with ⟨hc20, h⟩ | ⟨hc20, h⟩
    · refine y_cmp (pc' := 87) rfl rfl (zc_eqT hc20) rfl ?_
      refine y_pure (pc' := 88) (st' := [.int (-1 : Int32)]) rfl rfl ?_
      exact y_ret rfl rfl rfl rfl h
    · refine y_cmp (pc' := 71) rfl rfl (zc_eqF hc20) rfl ?_
      refine y_pure (pc' := 72) (st' := [.ref 866]) rfl rfl ?_
      refine y_pure (pc' := 73) (st' := [.int x3, .ref 866]) rfl rfl ?_
      obtain ⟨v23, M22, he21, h⟩ := zC1_inv h
      refine y_callV (pc' := 76) (y := zmM_marks) (a' := [.int x3]) (st' := []) rfl rfl rfl rfl rfl (zrecv_o (o := 10) zc_866 rfl) rfl he21 rfl rfl ?_
      obtain ⟨v26, M25, he24, h⟩ := zC1_inv h
      refine y_callS (pc' := 79) (y := zmM_bits) (a := [.int v23]) (st' := []) rfl rfl rfl rfl rfl rfl he24 rfl rfl ?_
      refine y_pure (pc' := 80) (st' := [.int (nI 1), .int v26]) rfl rfl ?_
      rcases zif_inv h with ⟨hc27, h⟩ | ⟨hc27, h⟩
      · refine y_cmp (pc' := 83) rfl rfl (zc_leF hc27) rfl ?_
        refine y_pure (pc' := 84) (st' := [.int x3]) rfl rfl ?_
        refine y_pure (pc' := 88) rfl rfl ?_
        exact y_ret rfl rfl rfl rfl h
      · refine y_cmp (pc' := 87) rfl rfl (zc_leT hc27) rfl ?_
        refine y_pure (pc' := 88) (st' := [.int (-1 : Int32)]) rfl rfl ?_
        exact y_ret rfl rfl rfl rfl h
theorem e_M_onlyOne {d : Nat} {x1 : Int32} {x2 : Int32} {M : ZM} {r : ZR}  (h : h_M_onlyOne_5 d x1 x2 (-1 : Int32) (nI 0) M = some r) : zEv (d + 1) zmM_onlyOne [.ref 866, .int x1, .int x2] M = some r := by
  rw [zEv_succ]
  show zEx0 (zEv d) zmM_onlyOne (0, [(0, .ref 866), (1, .int x1), (2, .int x2)], [], M) = some r
  refine y_pure (pc' := 1) (st' := [.int (-1 : Int32)]) rfl rfl ?_
  refine y_pure (pc' := 2) (ls' := [(0, .ref 866), (1, .int x1), (2, .int x2), (3, .int (-1 : Int32))]) (st' := []) rfl rfl ?_
  refine y_pure (pc' := 3) (st' := [.int (nI 0)]) rfl rfl ?_
  refine y_pure (pc' := 5) (ls' := [(0, .ref 866), (1, .int x1), (2, .int x2), (3, .int (-1 : Int32)), (4, .int (nI 0))]) (st' := []) rfl rfl ?_
  refine zEx_sub ?_ h
  exact ⟨rfl, rfl, rfl, rfl, rfl, trivial⟩
noncomputable def h_M_findsMust_2 (d : Nat) (x1 : Int32) (M : ZM) : Option ZR := zEx0 (zEv d) zmM_findsMust (2, [(0, .ref 866), (1, .int x1)], [], M)
noncomputable def h_M_findsMust_36 (d : Nat) (x1 : Int32) (x2 : Int32) (M : ZM) : Option ZR := zEx0 (zEv d) zmM_findsMust (36, [(0, .ref 866), (1, .int x1), (2, .int x2)], [], M)
theorem e_M_findsMust_2 {d : Nat} {x1 : Int32} {M : ZM} {r : ZR}  (h : zC1 (zEv d zmM_cages [.ref 866] M) (fun v3 M2 => (if x1 < v3 then (if (M2.1 866 12) = (nI 0) then zC1 (zEv d zmM_of [.ref 866, .int x1, .int (nI 2)] M2) (fun v8 M7 => (if v8 = (nI 0) then h_M_findsMust_2 d (x1 + (nI 1)) M7 else zC0 (zEv d zmM_laysWays [.ref 866, .int x1] M7) (fun M11 => h_M_findsMust_36 d x1 (nI 1) M11))) else some (none, M2)) else some (none, M2))) = some r) : h_M_findsMust_2 d x1 M = some r := by
  show zEx0 (zEv d) zmM_findsMust (2, [(0, .ref 866), (1, .int x1)], [], M) = some r
  refine y_pure (pc' := 3) (st' := [.int x1]) rfl rfl ?_
  refine y_pure (pc' := 4) (st' := [.ref 866, .int x1]) rfl rfl ?_
  obtain ⟨v3, M2, he1, h⟩ := zC1_inv h
  refine y_callV (pc' := 7) (y := zmM_cages) (a' := []) (st' := [.int x1]) rfl rfl rfl rfl rfl (zrecv_o (o := 10) zc_866 rfl) rfl he1 rfl rfl ?_
  rcases zif_inv h with ⟨hc4, h⟩ | ⟨hc4, h⟩
  · refine y_cmp (pc' := 10) rfl rfl (zc_geF hc4) rfl ?_
    refine y_pure (pc' := 11) (st' := [.ref 866]) rfl rfl ?_
    refine y_getf (pc' := 14) (v := .int (M2.1 866 12)) rfl rfl rfl zc_866 rfl rfl ?_
    rcases zif_inv h with ⟨hc5, h⟩ | ⟨hc5, h⟩
    · refine y_cnd (pc' := 17) rfl rfl (zc_neF hc5) rfl ?_
      refine y_pure (pc' := 18) (st' := [.ref 866]) rfl rfl ?_
      refine y_pure (pc' := 19) (st' := [.int x1, .ref 866]) rfl rfl ?_
      refine y_pure (pc' := 20) (st' := [.int (nI 2), .int x1, .ref 866]) rfl rfl ?_
      obtain ⟨v8, M7, he6, h⟩ := zC1_inv h
      refine y_callV (pc' := 23) (y := zmM_of) (a' := [.int x1, .int (nI 2)]) (st' := []) rfl rfl rfl rfl rfl (zrecv_o (o := 10) zc_866 rfl) rfl he6 rfl rfl ?_
      rcases zif_inv h with ⟨hc9, h⟩ | ⟨hc9, h⟩
      · refine y_cnd (pc' := 26) rfl rfl (zc_neF hc9) rfl ?_
        refine y_pure (pc' := 91) rfl rfl ?_
        refine y_pure (pc' := 94) (ls' := [(0, .ref 866), (1, .int (x1 + (nI 1)))]) (st' := []) rfl rfl ?_
        refine y_pure (pc' := 2) rfl rfl ?_
        refine zEx_sub ?_ h
        exact ⟨rfl, rfl, trivial⟩
      · refine y_cnd (pc' := 29) rfl rfl (zc_neT hc9) rfl ?_
        refine y_pure (pc' := 30) (st' := [.ref 866]) rfl rfl ?_
        refine y_pure (pc' := 31) (st' := [.int x1, .ref 866]) rfl rfl ?_
        obtain ⟨M11, he10, h⟩ := zC0_inv h
        refine y_callV (pc' := 34) (y := zmM_laysWays) (a' := [.int x1]) (st' := []) rfl rfl rfl rfl rfl (zrecv_o (o := 10) zc_866 rfl) rfl he10 rfl rfl ?_
        refine y_pure (pc' := 35) (st' := [.int (nI 1)]) rfl rfl ?_
        refine y_pure (pc' := 36) (ls' := [(0, .ref 866), (1, .int x1), (2, .int (nI 1))]) (st' := []) rfl rfl ?_
        refine zEx_sub ?_ h
        exact ⟨rfl, rfl, rfl, trivial⟩
    · refine y_cnd (pc' := 97) rfl rfl (zc_neT hc5) rfl ?_
      exact y_ret rfl rfl rfl rfl h
  · refine y_cmp (pc' := 97) rfl rfl (zc_geT hc4) rfl ?_
    exact y_ret rfl rfl rfl rfl h
theorem e_M_findsMust_36 {d : Nat} {x1 : Int32} {x2 : Int32} {M : ZM} {r : ZR}  (h : zC1 (zEv d zmM_top [.ref 866] M) (fun v3 M2 => (if v3 < x2 then h_M_findsMust_2 d (x1 + (nI 1)) M2 else (if (M2.1 866 12) = (nI 0) then zC1 (zEv d zmM_holds [.int (M2.1 866 10), .int x2] M2) (fun v8 M7 => (if v8 = (nI 0) then h_M_findsMust_36 d x1 (x2 + (nI 1)) M7 else zC1 (zEv d zmM_onlyOne [.ref 866, .int x1, .int x2] M7) (fun v12 M11 => (if v12 = (-1 : Int32) then h_M_findsMust_36 d x1 (x2 + (nI 1)) M11 else zC1 (zEv d zmM_onlyOne [.ref 866, .int x1, .int x2] M11) (fun v16 M15 => zC0 (zEv d zmM_found [.ref 866, .int (nI 3), .int x1, .int v16, .int x2] M15) (fun M18 => h_M_findsMust_36 d x1 (x2 + (nI 1)) M18)))))) else h_M_findsMust_2 d (x1 + (nI 1)) M2))) = some r) : h_M_findsMust_36 d x1 x2 M = some r := by
  show zEx0 (zEv d) zmM_findsMust (36, [(0, .ref 866), (1, .int x1), (2, .int x2)], [], M) = some r
  refine y_pure (pc' := 37) (st' := [.int x2]) rfl rfl ?_
  refine y_pure (pc' := 38) (st' := [.ref 866, .int x2]) rfl rfl ?_
  obtain ⟨v3, M2, he1, h⟩ := zC1_inv h
  refine y_callV (pc' := 41) (y := zmM_top) (a' := []) (st' := [.int x2]) rfl rfl rfl rfl rfl (zrecv_o (o := 10) zc_866 rfl) rfl he1 rfl rfl ?_
  rcases zif_inv h with ⟨hc4, h⟩ | ⟨hc4, h⟩
  · refine y_cmp (pc' := 91) rfl rfl (zc_gtT hc4) rfl ?_
    refine y_pure (pc' := 94) (ls' := [(0, .ref 866), (1, .int (x1 + (nI 1))), (2, .int x2)]) (st' := []) rfl rfl ?_
    refine y_pure (pc' := 2) rfl rfl ?_
    refine zEx_sub ?_ h
    exact ⟨rfl, rfl, trivial⟩
  · refine y_cmp (pc' := 44) rfl rfl (zc_gtF hc4) rfl ?_
    refine y_pure (pc' := 45) (st' := [.ref 866]) rfl rfl ?_
    refine y_getf (pc' := 48) (v := .int (M2.1 866 12)) rfl rfl rfl zc_866 rfl rfl ?_
    rcases zif_inv h with ⟨hc5, h⟩ | ⟨hc5, h⟩
    · refine y_cnd (pc' := 51) rfl rfl (zc_neF hc5) rfl ?_
      refine y_pure (pc' := 52) (st' := [.ref 866]) rfl rfl ?_
      refine y_getf (pc' := 55) (v := .int (M2.1 866 10)) rfl rfl rfl zc_866 rfl rfl ?_
      refine y_pure (pc' := 56) (st' := [.int x2, .int (M2.1 866 10)]) rfl rfl ?_
      obtain ⟨v8, M7, he6, h⟩ := zC1_inv h
      refine y_callS (pc' := 59) (y := zmM_holds) (a := [.int (M2.1 866 10), .int x2]) (st' := []) rfl rfl rfl rfl rfl rfl he6 rfl rfl ?_
      rcases zif_inv h with ⟨hc9, h⟩ | ⟨hc9, h⟩
      · refine y_cnd (pc' := 85) rfl rfl (zc_eqT hc9) rfl ?_
        refine y_pure (pc' := 88) (ls' := [(0, .ref 866), (1, .int x1), (2, .int (x2 + (nI 1)))]) (st' := []) rfl rfl ?_
        refine y_pure (pc' := 36) rfl rfl ?_
        refine zEx_sub ?_ h
        exact ⟨rfl, rfl, rfl, trivial⟩
      · refine y_cnd (pc' := 62) rfl rfl (zc_eqF hc9) rfl ?_
        refine y_pure (pc' := 63) (st' := [.ref 866]) rfl rfl ?_
        refine y_pure (pc' := 64) (st' := [.int x1, .ref 866]) rfl rfl ?_
        refine y_pure (pc' := 65) (st' := [.int x2, .int x1, .ref 866]) rfl rfl ?_
        obtain ⟨v12, M11, he10, h⟩ := zC1_inv h
        refine y_callV (pc' := 68) (y := zmM_onlyOne) (a' := [.int x1, .int x2]) (st' := []) rfl rfl rfl rfl rfl (zrecv_o (o := 10) zc_866 rfl) rfl he10 rfl rfl ?_
        refine y_pure (pc' := 69) (st' := [.int (-1 : Int32), .int v12]) rfl rfl ?_
        rcases zif_inv h with ⟨hc13, h⟩ | ⟨hc13, h⟩
        · refine y_cmp (pc' := 85) rfl rfl (zc_eqT hc13) rfl ?_
          refine y_pure (pc' := 88) (ls' := [(0, .ref 866), (1, .int x1), (2, .int (x2 + (nI 1)))]) (st' := []) rfl rfl ?_
          refine y_pure (pc' := 36) rfl rfl ?_
          refine zEx_sub ?_ h
          exact ⟨rfl, rfl, rfl, trivial⟩
        · refine y_cmp (pc' := 72) rfl rfl (zc_eqF hc13) rfl ?_
          refine y_pure (pc' := 73) (st' := [.ref 866]) rfl rfl ?_
          refine y_pure (pc' := 74) (st' := [.int (nI 3), .ref 866]) rfl rfl ?_
          refine y_pure (pc' := 75) (st' := [.int x1, .int (nI 3), .ref 866]) rfl rfl ?_
          refine y_pure (pc' := 76) (st' := [.ref 866, .int x1, .int (nI 3), .ref 866]) rfl rfl ?_
          refine y_pure (pc' := 77) (st' := [.int x1, .ref 866, .int x1, .int (nI 3), .ref 866]) rfl rfl ?_
          refine y_pure (pc' := 78) (st' := [.int x2, .int x1, .ref 866, .int x1, .int (nI 3), .ref 866]) rfl rfl ?_
          obtain ⟨v16, M15, he14, h⟩ := zC1_inv h
          refine y_callV (pc' := 81) (y := zmM_onlyOne) (a' := [.int x1, .int x2]) (st' := [.int x1, .int (nI 3), .ref 866]) rfl rfl rfl rfl rfl (zrecv_o (o := 10) zc_866 rfl) rfl he14 rfl rfl ?_
          refine y_pure (pc' := 82) (st' := [.int x2, .int v16, .int x1, .int (nI 3), .ref 866]) rfl rfl ?_
          obtain ⟨M18, he17, h⟩ := zC0_inv h
          refine y_callV (pc' := 85) (y := zmM_found) (a' := [.int (nI 3), .int x1, .int v16, .int x2]) (st' := []) rfl rfl rfl rfl rfl (zrecv_o (o := 10) zc_866 rfl) rfl he17 rfl rfl ?_
          refine y_pure (pc' := 88) (ls' := [(0, .ref 866), (1, .int x1), (2, .int (x2 + (nI 1)))]) (st' := []) rfl rfl ?_
          refine y_pure (pc' := 36) rfl rfl ?_
          refine zEx_sub ?_ h
          exact ⟨rfl, rfl, rfl, trivial⟩
    · refine y_cnd (pc' := 91) rfl rfl (zc_neT hc5) rfl ?_
      refine y_pure (pc' := 94) (ls' := [(0, .ref 866), (1, .int (x1 + (nI 1))), (2, .int x2)]) (st' := []) rfl rfl ?_
      refine y_pure (pc' := 2) rfl rfl ?_
      refine zEx_sub ?_ h
      exact ⟨rfl, rfl, trivial⟩
theorem e_M_findsMust {d : Nat}  {M : ZM} {r : ZR}  (h : h_M_findsMust_2 d (nI 0) M = some r) : zEv (d + 1) zmM_findsMust [.ref 866] M = some r := by
  rw [zEv_succ]
  show zEx0 (zEv d) zmM_findsMust (0, [(0, .ref 866)], [], M) = some r
  refine y_pure (pc' := 1) (st' := [.int (nI 0)]) rfl rfl ?_
  refine y_pure (pc' := 2) (ls' := [(0, .ref 866), (1, .int (nI 0))]) (st' := []) rfl rfl ?_
  refine zEx_sub ?_ h
  exact ⟨rfl, rfl, trivial⟩
theorem e_M_areTwins {d : Nat} {x1 : Int32} {x2 : Int32} {M : ZM} {r : ZR}  (h : zC1 (zEv d zmM_isDone [.ref 866, .int x1] M) (fun v3 M2 => (if v3 = (nI 0) then zC1 (zEv d zmM_isDone [.ref 866, .int x2] M2) (fun v7 M6 => (if v7 = (nI 0) then zC1 (zEv d zmM_marks [.ref 866, .int x1] M6) (fun v11 M10 => zC1 (zEv d zmM_bits [.int v11] M10) (fun v14 M13 => (if v14 = (nI 2) then zC1 (zEv d zmM_marks [.ref 866, .int x1] M13) (fun v18 M17 => zC1 (zEv d zmM_marks [.ref 866, .int x2] M17) (fun v21 M20 => (if v18 = v21 then some (some (.int (nI 1)), M20) else some (some (.int (nI 0)), M20)))) else some (some (.int (nI 0)), M13)))) else some (some (.int (nI 0)), M6))) else some (some (.int (nI 0)), M2))) = some r) : zEv (d + 1) zmM_areTwins [.ref 866, .int x1, .int x2] M = some r := by
  rw [zEv_succ]
  show zEx0 (zEv d) zmM_areTwins (0, [(0, .ref 866), (1, .int x1), (2, .int x2)], [], M) = some r
  refine y_pure (pc' := 1) (st' := [.ref 866]) rfl rfl ?_
  refine y_pure (pc' := 2) (st' := [.int x1, .ref 866]) rfl rfl ?_
  obtain ⟨v3, M2, he1, h⟩ := zC1_inv h
  refine y_callV (pc' := 5) (y := zmM_isDone) (a' := [.int x1]) (st' := []) rfl rfl rfl rfl rfl (zrecv_o (o := 10) zc_866 rfl) rfl he1 rfl rfl ?_
  rcases zif_inv h with ⟨hc4, h⟩ | ⟨hc4, h⟩
  · refine y_cnd (pc' := 8) rfl rfl (zc_neF hc4) rfl ?_
    refine y_pure (pc' := 9) (st' := [.ref 866]) rfl rfl ?_
    refine y_pure (pc' := 10) (st' := [.int x2, .ref 866]) rfl rfl ?_
    obtain ⟨v7, M6, he5, h⟩ := zC1_inv h
    refine y_callV (pc' := 13) (y := zmM_isDone) (a' := [.int x2]) (st' := []) rfl rfl rfl rfl rfl (zrecv_o (o := 10) zc_866 rfl) rfl he5 rfl rfl ?_
    rcases zif_inv h with ⟨hc8, h⟩ | ⟨hc8, h⟩
    · refine y_cnd (pc' := 16) rfl rfl (zc_neF hc8) rfl ?_
      refine y_pure (pc' := 17) (st' := [.ref 866]) rfl rfl ?_
      refine y_pure (pc' := 18) (st' := [.int x1, .ref 866]) rfl rfl ?_
      obtain ⟨v11, M10, he9, h⟩ := zC1_inv h
      refine y_callV (pc' := 21) (y := zmM_marks) (a' := [.int x1]) (st' := []) rfl rfl rfl rfl rfl (zrecv_o (o := 10) zc_866 rfl) rfl he9 rfl rfl ?_
      obtain ⟨v14, M13, he12, h⟩ := zC1_inv h
      refine y_callS (pc' := 24) (y := zmM_bits) (a := [.int v11]) (st' := []) rfl rfl rfl rfl rfl rfl he12 rfl rfl ?_
      refine y_pure (pc' := 25) (st' := [.int (nI 2), .int v14]) rfl rfl ?_
      rcases zif_inv h with ⟨hc15, h⟩ | ⟨hc15, h⟩
      · refine y_cmp (pc' := 28) rfl rfl (zc_neF hc15) rfl ?_
        refine y_pure (pc' := 29) (st' := [.ref 866]) rfl rfl ?_
        refine y_pure (pc' := 30) (st' := [.int x1, .ref 866]) rfl rfl ?_
        obtain ⟨v18, M17, he16, h⟩ := zC1_inv h
        refine y_callV (pc' := 33) (y := zmM_marks) (a' := [.int x1]) (st' := []) rfl rfl rfl rfl rfl (zrecv_o (o := 10) zc_866 rfl) rfl he16 rfl rfl ?_
        refine y_pure (pc' := 34) (st' := [.ref 866, .int v18]) rfl rfl ?_
        refine y_pure (pc' := 35) (st' := [.int x2, .ref 866, .int v18]) rfl rfl ?_
        obtain ⟨v21, M20, he19, h⟩ := zC1_inv h
        refine y_callV (pc' := 38) (y := zmM_marks) (a' := [.int x2]) (st' := [.int v18]) rfl rfl rfl rfl rfl (zrecv_o (o := 10) zc_866 rfl) rfl he19 rfl rfl ?_
        rcases zif_inv h with ⟨hc22, h⟩ | ⟨hc22, h⟩
        · refine y_cmp (pc' := 41) rfl rfl (zc_neF hc22) rfl ?_
          refine y_pure (pc' := 42) (st' := [.int (nI 1)]) rfl rfl ?_
          refine y_pure (pc' := 46) rfl rfl ?_
          exact y_retZ rfl rfl (by decide) h
        · refine y_cmp (pc' := 45) rfl rfl (zc_neT hc22) rfl ?_
          refine y_pure (pc' := 46) (st' := [.int (nI 0)]) rfl rfl ?_
          exact y_retZ rfl rfl (by decide) h
      · refine y_cmp (pc' := 45) rfl rfl (zc_neT hc15) rfl ?_
        refine y_pure (pc' := 46) (st' := [.int (nI 0)]) rfl rfl ?_
        exact y_retZ rfl rfl (by decide) h
    · refine y_cnd (pc' := 45) rfl rfl (zc_neT hc8) rfl ?_
      refine y_pure (pc' := 46) (st' := [.int (nI 0)]) rfl rfl ?_
      exact y_retZ rfl rfl (by decide) h
  · refine y_cnd (pc' := 45) rfl rfl (zc_neT hc4) rfl ?_
    refine y_pure (pc' := 46) (st' := [.int (nI 0)]) rfl rfl ?_
    exact y_retZ rfl rfl (by decide) h
noncomputable def h_M_isElsewhere_3 (d : Nat) (x1 : Int32) (x2 : Int32) (x3 : Int32) (x4 : Int32) (M : ZM) : Option ZR := zEx0 (zEv d) zmM_isElsewhere (3, [(0, .ref 866), (1, .int x1), (2, .int x2), (3, .int x3), (4, .int x4)], [], M)
theorem e_M_isElsewhere_3 {d : Nat} {x1 : Int32} {x2 : Int32} {x3 : Int32} {x4 : Int32} {M : ZM} {r : ZR}  (h : zC1 (zEv d zmM_of [.ref 866, .int x1, .int (nI 3)] M) (fun v3 M2 => (if x4 < v3 then zC1 (zEv d zmM_cellOf [.ref 866, .int x1, .int x4] M2) (fun v7 M6 => (if v7 = x2 then h_M_isElsewhere_3 d x1 x2 x3 (x4 + (nI 1)) M6 else (if v7 = x3 then h_M_isElsewhere_3 d x1 x2 x3 (x4 + (nI 1)) M6 else zC1 (zEv d zmM_marks [.ref 866, .int v7] M6) (fun v12 M11 => zC1 (zEv d zmM_marks [.ref 866, .int x2] M11) (fun v15 M14 => (if (v12 &&& v15) = (nI 0) then h_M_isElsewhere_3 d x1 x2 x3 (x4 + (nI 1)) M14 else some (some (.int (nI 1)), M14))))))) else some (some (.int (nI 0)), M2))) = some r) : h_M_isElsewhere_3 d x1 x2 x3 x4 M = some r := by
  show zEx0 (zEv d) zmM_isElsewhere (3, [(0, .ref 866), (1, .int x1), (2, .int x2), (3, .int x3), (4, .int x4)], [], M) = some r
  refine y_pure (pc' := 5) (st' := [.int x4]) rfl rfl ?_
  refine y_pure (pc' := 6) (st' := [.ref 866, .int x4]) rfl rfl ?_
  refine y_pure (pc' := 7) (st' := [.int x1, .ref 866, .int x4]) rfl rfl ?_
  refine y_pure (pc' := 8) (st' := [.int (nI 3), .int x1, .ref 866, .int x4]) rfl rfl ?_
  obtain ⟨v3, M2, he1, h⟩ := zC1_inv h
  refine y_callV (pc' := 11) (y := zmM_of) (a' := [.int x1, .int (nI 3)]) (st' := [.int x4]) rfl rfl rfl rfl rfl (zrecv_o (o := 10) zc_866 rfl) rfl he1 rfl rfl ?_
  rcases zif_inv h with ⟨hc4, h⟩ | ⟨hc4, h⟩
  · refine y_cmp (pc' := 14) rfl rfl (zc_geF hc4) rfl ?_
    refine y_pure (pc' := 15) (st' := [.ref 866]) rfl rfl ?_
    refine y_pure (pc' := 16) (st' := [.int x1, .ref 866]) rfl rfl ?_
    refine y_pure (pc' := 18) (st' := [.int x4, .int x1, .ref 866]) rfl rfl ?_
    obtain ⟨v7, M6, he5, h⟩ := zC1_inv h
    refine y_callV (pc' := 21) (y := zmM_cellOf) (a' := [.int x1, .int x4]) (st' := []) rfl rfl rfl rfl rfl (zrecv_o (o := 10) zc_866 rfl) rfl he5 rfl rfl ?_
    refine y_pure (pc' := 23) (ls' := [(0, .ref 866), (1, .int x1), (2, .int x2), (3, .int x3), (4, .int x4), (5, .int v7)]) (st' := []) rfl rfl ?_
    refine y_pure (pc' := 25) (st' := [.int v7]) rfl rfl ?_
    refine y_pure (pc' := 26) (st' := [.int x2, .int v7]) rfl rfl ?_
    rcases zif_inv h with ⟨hc8, h⟩ | ⟨hc8, h⟩
    · refine y_cmp (pc' := 52) rfl rfl (zc_eqT hc8) rfl ?_
      refine y_pure (pc' := 55) (ls' := [(0, .ref 866), (1, .int x1), (2, .int x2), (3, .int x3), (4, .int (x4 + (nI 1))), (5, .int v7)]) (st' := []) rfl rfl ?_
      refine y_pure (pc' := 3) rfl rfl ?_
      refine zEx_sub ?_ h
      exact ⟨rfl, rfl, rfl, rfl, rfl, trivial⟩
    · refine y_cmp (pc' := 29) rfl rfl (zc_eqF hc8) rfl ?_
      refine y_pure (pc' := 31) (st' := [.int v7]) rfl rfl ?_
      refine y_pure (pc' := 32) (st' := [.int x3, .int v7]) rfl rfl ?_
      rcases zif_inv h with ⟨hc9, h⟩ | ⟨hc9, h⟩
      · refine y_cmp (pc' := 52) rfl rfl (zc_eqT hc9) rfl ?_
        refine y_pure (pc' := 55) (ls' := [(0, .ref 866), (1, .int x1), (2, .int x2), (3, .int x3), (4, .int (x4 + (nI 1))), (5, .int v7)]) (st' := []) rfl rfl ?_
        refine y_pure (pc' := 3) rfl rfl ?_
        refine zEx_sub ?_ h
        exact ⟨rfl, rfl, rfl, rfl, rfl, trivial⟩
      · refine y_cmp (pc' := 35) rfl rfl (zc_eqF hc9) rfl ?_
        refine y_pure (pc' := 36) (st' := [.ref 866]) rfl rfl ?_
        refine y_pure (pc' := 38) (st' := [.int v7, .ref 866]) rfl rfl ?_
        obtain ⟨v12, M11, he10, h⟩ := zC1_inv h
        refine y_callV (pc' := 41) (y := zmM_marks) (a' := [.int v7]) (st' := []) rfl rfl rfl rfl rfl (zrecv_o (o := 10) zc_866 rfl) rfl he10 rfl rfl ?_
        refine y_pure (pc' := 42) (st' := [.ref 866, .int v12]) rfl rfl ?_
        refine y_pure (pc' := 43) (st' := [.int x2, .ref 866, .int v12]) rfl rfl ?_
        obtain ⟨v15, M14, he13, h⟩ := zC1_inv h
        refine y_callV (pc' := 46) (y := zmM_marks) (a' := [.int x2]) (st' := [.int v12]) rfl rfl rfl rfl rfl (zrecv_o (o := 10) zc_866 rfl) rfl he13 rfl rfl ?_
        refine y_pure (pc' := 47) (st' := [.int (v12 &&& v15)]) rfl rfl ?_
        rcases zif_inv h with ⟨hc16, h⟩ | ⟨hc16, h⟩
        · refine y_cnd (pc' := 52) rfl rfl (zc_eqT hc16) rfl ?_
          refine y_pure (pc' := 55) (ls' := [(0, .ref 866), (1, .int x1), (2, .int x2), (3, .int x3), (4, .int (x4 + (nI 1))), (5, .int v7)]) (st' := []) rfl rfl ?_
          refine y_pure (pc' := 3) rfl rfl ?_
          refine zEx_sub ?_ h
          exact ⟨rfl, rfl, rfl, rfl, rfl, trivial⟩
        · refine y_cnd (pc' := 50) rfl rfl (zc_eqF hc16) rfl ?_
          refine y_pure (pc' := 51) (st' := [.int (nI 1)]) rfl rfl ?_
          exact y_retZ rfl rfl (by decide) h
  · refine y_cmp (pc' := 58) rfl rfl (zc_geT hc4) rfl ?_
    refine y_pure (pc' := 59) (st' := [.int (nI 0)]) rfl rfl ?_
    exact y_retZ rfl rfl (by decide) h
theorem e_M_isElsewhere {d : Nat} {x1 : Int32} {x2 : Int32} {x3 : Int32} {M : ZM} {r : ZR}  (h : h_M_isElsewhere_3 d x1 x2 x3 (nI 0) M = some r) : zEv (d + 1) zmM_isElsewhere [.ref 866, .int x1, .int x2, .int x3] M = some r := by
  rw [zEv_succ]
  show zEx0 (zEv d) zmM_isElsewhere (0, [(0, .ref 866), (1, .int x1), (2, .int x2), (3, .int x3)], [], M) = some r
  refine y_pure (pc' := 1) (st' := [.int (nI 0)]) rfl rfl ?_
  refine y_pure (pc' := 3) (ls' := [(0, .ref 866), (1, .int x1), (2, .int x2), (3, .int x3), (4, .int (nI 0))]) (st' := []) rfl rfl ?_
  refine zEx_sub ?_ h
  exact ⟨rfl, rfl, rfl, rfl, rfl, trivial⟩
noncomputable def h_M_findsTwins_2 (d : Nat) (x1 : Int32) (M : ZM) : Option ZR := zEx0 (zEv d) zmM_findsTwins (2, [(0, .ref 866), (1, .int x1)], [], M)
noncomputable def h_M_findsTwins_19 (d : Nat) (x1 : Int32) (x2 : Int32) (M : ZM) : Option ZR := zEx0 (zEv d) zmM_findsTwins (19, [(0, .ref 866), (1, .int x1), (2, .int x2)], [], M)
noncomputable def h_M_findsTwins_50 (d : Nat) (x1 : Int32) (x2 : Int32) (x3 : Int32) (M : ZM) : Option ZR := zEx0 (zEv d) zmM_findsTwins (50, [(0, .ref 866), (1, .int x1), (2, .int x2), (3, .int x3)], [], M)
theorem e_M_findsTwins_2 {d : Nat} {x1 : Int32} {M : ZM} {r : ZR}  (h : zC1 (zEv d zmM_cages [.ref 866] M) (fun v3 M2 => (if x1 < v3 then (if (M2.1 866 12) = (nI 0) then h_M_findsTwins_19 d x1 (nI 0) M2 else some (none, M2)) else some (none, M2))) = some r) : h_M_findsTwins_2 d x1 M = some r := by
  show zEx0 (zEv d) zmM_findsTwins (2, [(0, .ref 866), (1, .int x1)], [], M) = some r
  refine y_pure (pc' := 3) (st' := [.int x1]) rfl rfl ?_
  refine y_pure (pc' := 4) (st' := [.ref 866, .int x1]) rfl rfl ?_
  obtain ⟨v3, M2, he1, h⟩ := zC1_inv h
  refine y_callV (pc' := 7) (y := zmM_cages) (a' := []) (st' := [.int x1]) rfl rfl rfl rfl rfl (zrecv_o (o := 10) zc_866 rfl) rfl he1 rfl rfl ?_
  rcases zif_inv h with ⟨hc4, h⟩ | ⟨hc4, h⟩
  · refine y_cmp (pc' := 10) rfl rfl (zc_geF hc4) rfl ?_
    refine y_pure (pc' := 11) (st' := [.ref 866]) rfl rfl ?_
    refine y_getf (pc' := 14) (v := .int (M2.1 866 12)) rfl rfl rfl zc_866 rfl rfl ?_
    rcases zif_inv h with ⟨hc5, h⟩ | ⟨hc5, h⟩
    · refine y_cnd (pc' := 17) rfl rfl (zc_neF hc5) rfl ?_
      refine y_pure (pc' := 18) (st' := [.int (nI 0)]) rfl rfl ?_
      refine y_pure (pc' := 19) (ls' := [(0, .ref 866), (1, .int x1), (2, .int (nI 0))]) (st' := []) rfl rfl ?_
      refine zEx_sub ?_ h
      exact ⟨rfl, rfl, rfl, trivial⟩
    · refine y_cnd (pc' := 151) rfl rfl (zc_neT hc5) rfl ?_
      exact y_ret rfl rfl rfl rfl h
  · refine y_cmp (pc' := 151) rfl rfl (zc_geT hc4) rfl ?_
    exact y_ret rfl rfl rfl rfl h
theorem e_M_findsTwins_19 {d : Nat} {x1 : Int32} {x2 : Int32} {M : ZM} {r : ZR}  (h : zC1 (zEv d zmM_of [.ref 866, .int x1, .int (nI 3)] M) (fun v3 M2 => (if x2 < v3 then zC1 (zEv d zmM_of [.ref 866, .int x1, .int (nI 2)] M2) (fun v7 M6 => (if v7 = (nI 1) then (if (M6.1 866 12) = (nI 0) then h_M_findsTwins_50 d x1 x2 (x2 + (nI 1)) M6 else h_M_findsTwins_2 d (x1 + (nI 1)) M6) else h_M_findsTwins_2 d (x1 + (nI 1)) M6)) else h_M_findsTwins_2 d (x1 + (nI 1)) M2)) = some r) : h_M_findsTwins_19 d x1 x2 M = some r := by
  show zEx0 (zEv d) zmM_findsTwins (19, [(0, .ref 866), (1, .int x1), (2, .int x2)], [], M) = some r
  refine y_pure (pc' := 20) (st' := [.int x2]) rfl rfl ?_
  refine y_pure (pc' := 21) (st' := [.ref 866, .int x2]) rfl rfl ?_
  refine y_pure (pc' := 22) (st' := [.int x1, .ref 866, .int x2]) rfl rfl ?_
  refine y_pure (pc' := 23) (st' := [.int (nI 3), .int x1, .ref 866, .int x2]) rfl rfl ?_
  obtain ⟨v3, M2, he1, h⟩ := zC1_inv h
  refine y_callV (pc' := 26) (y := zmM_of) (a' := [.int x1, .int (nI 3)]) (st' := [.int x2]) rfl rfl rfl rfl rfl (zrecv_o (o := 10) zc_866 rfl) rfl he1 rfl rfl ?_
  rcases zif_inv h with ⟨hc4, h⟩ | ⟨hc4, h⟩
  · refine y_cmp (pc' := 29) rfl rfl (zc_geF hc4) rfl ?_
    refine y_pure (pc' := 30) (st' := [.ref 866]) rfl rfl ?_
    refine y_pure (pc' := 31) (st' := [.int x1, .ref 866]) rfl rfl ?_
    refine y_pure (pc' := 32) (st' := [.int (nI 2), .int x1, .ref 866]) rfl rfl ?_
    obtain ⟨v7, M6, he5, h⟩ := zC1_inv h
    refine y_callV (pc' := 35) (y := zmM_of) (a' := [.int x1, .int (nI 2)]) (st' := []) rfl rfl rfl rfl rfl (zrecv_o (o := 10) zc_866 rfl) rfl he5 rfl rfl ?_
    refine y_pure (pc' := 36) (st' := [.int (nI 1), .int v7]) rfl rfl ?_
    rcases zif_inv h with ⟨hc8, h⟩ | ⟨hc8, h⟩
    · refine y_cmp (pc' := 39) rfl rfl (zc_neF hc8) rfl ?_
      refine y_pure (pc' := 40) (st' := [.ref 866]) rfl rfl ?_
      refine y_getf (pc' := 43) (v := .int (M6.1 866 12)) rfl rfl rfl zc_866 rfl rfl ?_
      rcases zif_inv h with ⟨hc9, h⟩ | ⟨hc9, h⟩
      · refine y_cnd (pc' := 46) rfl rfl (zc_neF hc9) rfl ?_
        refine y_pure (pc' := 47) (st' := [.int x2]) rfl rfl ?_
        refine y_pure (pc' := 48) (st' := [.int (nI 1), .int x2]) rfl rfl ?_
        refine y_pure (pc' := 49) (st' := [.int (x2 + (nI 1))]) rfl rfl ?_
        refine y_pure (pc' := 50) (ls' := [(0, .ref 866), (1, .int x1), (2, .int x2), (3, .int (x2 + (nI 1)))]) (st' := []) rfl rfl ?_
        refine zEx_sub ?_ h
        exact ⟨rfl, rfl, rfl, rfl, trivial⟩
      · refine y_cnd (pc' := 145) rfl rfl (zc_neT hc9) rfl ?_
        refine y_pure (pc' := 148) (ls' := [(0, .ref 866), (1, .int (x1 + (nI 1))), (2, .int x2)]) (st' := []) rfl rfl ?_
        refine y_pure (pc' := 2) rfl rfl ?_
        refine zEx_sub ?_ h
        exact ⟨rfl, rfl, trivial⟩
    · refine y_cmp (pc' := 145) rfl rfl (zc_neT hc8) rfl ?_
      refine y_pure (pc' := 148) (ls' := [(0, .ref 866), (1, .int (x1 + (nI 1))), (2, .int x2)]) (st' := []) rfl rfl ?_
      refine y_pure (pc' := 2) rfl rfl ?_
      refine zEx_sub ?_ h
      exact ⟨rfl, rfl, trivial⟩
  · refine y_cmp (pc' := 145) rfl rfl (zc_geT hc4) rfl ?_
    refine y_pure (pc' := 148) (ls' := [(0, .ref 866), (1, .int (x1 + (nI 1))), (2, .int x2)]) (st' := []) rfl rfl ?_
    refine y_pure (pc' := 2) rfl rfl ?_
    refine zEx_sub ?_ h
    exact ⟨rfl, rfl, trivial⟩
theorem e_M_findsTwins_50 {d : Nat} {x1 : Int32} {x2 : Int32} {x3 : Int32} {M : ZM} {r : ZR}  (h : zC1 (zEv d zmM_of [.ref 866, .int x1, .int (nI 3)] M) (fun v3 M2 => (if x3 < v3 then (if (M2.1 866 12) = (nI 0) then zC1 (zEv d zmM_cellOf [.ref 866, .int x1, .int x2] M2) (fun v8 M7 => zC1 (zEv d zmM_cellOf [.ref 866, .int x1, .int x3] M7) (fun v11 M10 => zC1 (zEv d zmM_areTwins [.ref 866, .int v8, .int v11] M10) (fun v14 M13 => (if v14 = (nI 0) then h_M_findsTwins_50 d x1 x2 (x3 + (nI 1)) M13 else zC1 (zEv d zmM_isElsewhere [.ref 866, .int x1, .int v8, .int v11] M13) (fun v18 M17 => (if v18 = (nI 0) then h_M_findsTwins_50 d x1 x2 (x3 + (nI 1)) M17 else zC1 (zEv d zmM_marks [.ref 866, .int v8] M17) (fun v22 M21 => zC1 (zEv d zmM_least [.ref 866, .int v22] M21) (fun v25 M24 => zC0 (zEv d zmM_found [.ref 866, .int (nI 4), .int x1, .int v8, .int v25] M24) (fun M27 => h_M_findsTwins_50 d x1 x2 (x3 + (nI 1)) (zpi M27 866 15 v11)))))))))) else h_M_findsTwins_19 d x1 (x2 + (nI 1)) M2) else h_M_findsTwins_19 d x1 (x2 + (nI 1)) M2)) = some r) : h_M_findsTwins_50 d x1 x2 x3 M = some r := by
  show zEx0 (zEv d) zmM_findsTwins (50, [(0, .ref 866), (1, .int x1), (2, .int x2), (3, .int x3)], [], M) = some r
  refine y_pure (pc' := 51) (st' := [.int x3]) rfl rfl ?_
  refine y_pure (pc' := 52) (st' := [.ref 866, .int x3]) rfl rfl ?_
  refine y_pure (pc' := 53) (st' := [.int x1, .ref 866, .int x3]) rfl rfl ?_
  refine y_pure (pc' := 54) (st' := [.int (nI 3), .int x1, .ref 866, .int x3]) rfl rfl ?_
  obtain ⟨v3, M2, he1, h⟩ := zC1_inv h
  refine y_callV (pc' := 57) (y := zmM_of) (a' := [.int x1, .int (nI 3)]) (st' := [.int x3]) rfl rfl rfl rfl rfl (zrecv_o (o := 10) zc_866 rfl) rfl he1 rfl rfl ?_
  rcases zif_inv h with ⟨hc4, h⟩ | ⟨hc4, h⟩
  · refine y_cmp (pc' := 60) rfl rfl (zc_geF hc4) rfl ?_
    refine y_pure (pc' := 61) (st' := [.ref 866]) rfl rfl ?_
    refine y_getf (pc' := 64) (v := .int (M2.1 866 12)) rfl rfl rfl zc_866 rfl rfl ?_
    rcases zif_inv h with ⟨hc5, h⟩ | ⟨hc5, h⟩
    · refine y_cnd (pc' := 67) rfl rfl (zc_neF hc5) rfl ?_
      refine y_pure (pc' := 68) (st' := [.ref 866]) rfl rfl ?_
      refine y_pure (pc' := 69) (st' := [.int x1, .ref 866]) rfl rfl ?_
      refine y_pure (pc' := 70) (st' := [.int x2, .int x1, .ref 866]) rfl rfl ?_
      obtain ⟨v8, M7, he6, h⟩ := zC1_inv h
      refine y_callV (pc' := 73) (y := zmM_cellOf) (a' := [.int x1, .int x2]) (st' := []) rfl rfl rfl rfl rfl (zrecv_o (o := 10) zc_866 rfl) rfl he6 rfl rfl ?_
      refine y_pure (pc' := 75) (ls' := [(0, .ref 866), (1, .int x1), (2, .int x2), (3, .int x3), (4, .int v8)]) (st' := []) rfl rfl ?_
      refine y_pure (pc' := 76) (st' := [.ref 866]) rfl rfl ?_
      refine y_pure (pc' := 77) (st' := [.int x1, .ref 866]) rfl rfl ?_
      refine y_pure (pc' := 78) (st' := [.int x3, .int x1, .ref 866]) rfl rfl ?_
      obtain ⟨v11, M10, he9, h⟩ := zC1_inv h
      refine y_callV (pc' := 81) (y := zmM_cellOf) (a' := [.int x1, .int x3]) (st' := []) rfl rfl rfl rfl rfl (zrecv_o (o := 10) zc_866 rfl) rfl he9 rfl rfl ?_
      refine y_pure (pc' := 83) (ls' := [(0, .ref 866), (1, .int x1), (2, .int x2), (3, .int x3), (4, .int v8), (5, .int v11)]) (st' := []) rfl rfl ?_
      refine y_pure (pc' := 84) (st' := [.ref 866]) rfl rfl ?_
      refine y_pure (pc' := 86) (st' := [.int v8, .ref 866]) rfl rfl ?_
      refine y_pure (pc' := 88) (st' := [.int v11, .int v8, .ref 866]) rfl rfl ?_
      obtain ⟨v14, M13, he12, h⟩ := zC1_inv h
      refine y_callV (pc' := 91) (y := zmM_areTwins) (a' := [.int v8, .int v11]) (st' := []) rfl rfl rfl rfl rfl (zrecv_o (o := 10) zc_866 rfl) rfl he12 rfl rfl ?_
      rcases zif_inv h with ⟨hc15, h⟩ | ⟨hc15, h⟩
      · refine y_cnd (pc' := 133) rfl rfl (zc_eqT hc15) rfl ?_
        refine y_pure (pc' := 136) (ls' := [(0, .ref 866), (1, .int x1), (2, .int x2), (3, .int (x3 + (nI 1))), (4, .int v8), (5, .int v11)]) (st' := []) rfl rfl ?_
        refine y_pure (pc' := 50) rfl rfl ?_
        refine zEx_sub ?_ h
        exact ⟨rfl, rfl, rfl, rfl, trivial⟩
      · refine y_cnd (pc' := 94) rfl rfl (zc_eqF hc15) rfl ?_
        refine y_pure (pc' := 95) (st' := [.ref 866]) rfl rfl ?_
        refine y_pure (pc' := 96) (st' := [.int x1, .ref 866]) rfl rfl ?_
        refine y_pure (pc' := 98) (st' := [.int v8, .int x1, .ref 866]) rfl rfl ?_
        refine y_pure (pc' := 100) (st' := [.int v11, .int v8, .int x1, .ref 866]) rfl rfl ?_
        obtain ⟨v18, M17, he16, h⟩ := zC1_inv h
        refine y_callV (pc' := 103) (y := zmM_isElsewhere) (a' := [.int x1, .int v8, .int v11]) (st' := []) rfl rfl rfl rfl rfl (zrecv_o (o := 10) zc_866 rfl) rfl he16 rfl rfl ?_
        rcases zif_inv h with ⟨hc19, h⟩ | ⟨hc19, h⟩
        · refine y_cnd (pc' := 106) rfl rfl (zc_neF hc19) rfl ?_
          refine y_pure (pc' := 133) rfl rfl ?_
          refine y_pure (pc' := 136) (ls' := [(0, .ref 866), (1, .int x1), (2, .int x2), (3, .int (x3 + (nI 1))), (4, .int v8), (5, .int v11)]) (st' := []) rfl rfl ?_
          refine y_pure (pc' := 50) rfl rfl ?_
          refine zEx_sub ?_ h
          exact ⟨rfl, rfl, rfl, rfl, trivial⟩
        · refine y_cnd (pc' := 109) rfl rfl (zc_neT hc19) rfl ?_
          refine y_pure (pc' := 110) (st' := [.ref 866]) rfl rfl ?_
          refine y_pure (pc' := 111) (st' := [.int (nI 4), .ref 866]) rfl rfl ?_
          refine y_pure (pc' := 112) (st' := [.int x1, .int (nI 4), .ref 866]) rfl rfl ?_
          refine y_pure (pc' := 114) (st' := [.int v8, .int x1, .int (nI 4), .ref 866]) rfl rfl ?_
          refine y_pure (pc' := 115) (st' := [.ref 866, .int v8, .int x1, .int (nI 4), .ref 866]) rfl rfl ?_
          refine y_pure (pc' := 116) (st' := [.ref 866, .ref 866, .int v8, .int x1, .int (nI 4), .ref 866]) rfl rfl ?_
          refine y_pure (pc' := 118) (st' := [.int v8, .ref 866, .ref 866, .int v8, .int x1, .int (nI 4), .ref 866]) rfl rfl ?_
          obtain ⟨v22, M21, he20, h⟩ := zC1_inv h
          refine y_callV (pc' := 121) (y := zmM_marks) (a' := [.int v8]) (st' := [.ref 866, .int v8, .int x1, .int (nI 4), .ref 866]) rfl rfl rfl rfl rfl (zrecv_o (o := 10) zc_866 rfl) rfl he20 rfl rfl ?_
          obtain ⟨v25, M24, he23, h⟩ := zC1_inv h
          refine y_callV (pc' := 124) (y := zmM_least) (a' := [.int v22]) (st' := [.int v8, .int x1, .int (nI 4), .ref 866]) rfl rfl rfl rfl rfl (zrecv_o (o := 10) zc_866 rfl) rfl he23 rfl rfl ?_
          obtain ⟨M27, he26, h⟩ := zC0_inv h
          refine y_callV (pc' := 127) (y := zmM_found) (a' := [.int (nI 4), .int x1, .int v8, .int v25]) (st' := []) rfl rfl rfl rfl rfl (zrecv_o (o := 10) zc_866 rfl) rfl he26 rfl rfl ?_
          refine y_pure (pc' := 128) (st' := [.ref 866]) rfl rfl ?_
          refine y_pure (pc' := 130) (st' := [.int v11, .ref 866]) rfl rfl ?_
          refine y_putI (pc' := 133) rfl rfl zc_866 rfl ?_
          refine y_pure (pc' := 136) (ls' := [(0, .ref 866), (1, .int x1), (2, .int x2), (3, .int (x3 + (nI 1))), (4, .int v8), (5, .int v11)]) (st' := []) rfl rfl ?_
          refine y_pure (pc' := 50) rfl rfl ?_
          refine zEx_sub ?_ h
          exact ⟨rfl, rfl, rfl, rfl, trivial⟩
    · refine y_cnd (pc' := 139) rfl rfl (zc_neT hc5) rfl ?_
      refine y_pure (pc' := 142) (ls' := [(0, .ref 866), (1, .int x1), (2, .int (x2 + (nI 1))), (3, .int x3)]) (st' := []) rfl rfl ?_
      refine y_pure (pc' := 19) rfl rfl ?_
      refine zEx_sub ?_ h
      exact ⟨rfl, rfl, rfl, trivial⟩
  · refine y_cmp (pc' := 139) rfl rfl (zc_geT hc4) rfl ?_
    refine y_pure (pc' := 142) (ls' := [(0, .ref 866), (1, .int x1), (2, .int (x2 + (nI 1))), (3, .int x3)]) (st' := []) rfl rfl ?_
    refine y_pure (pc' := 19) rfl rfl ?_
    refine zEx_sub ?_ h
    exact ⟨rfl, rfl, rfl, trivial⟩
theorem e_M_findsTwins {d : Nat}  {M : ZM} {r : ZR}  (h : h_M_findsTwins_2 d (nI 0) M = some r) : zEv (d + 1) zmM_findsTwins [.ref 866] M = some r := by
  rw [zEv_succ]
  show zEx0 (zEv d) zmM_findsTwins (0, [(0, .ref 866)], [], M) = some r
  refine y_pure (pc' := 1) (st' := [.int (nI 0)]) rfl rfl ?_
  refine y_pure (pc' := 2) (ls' := [(0, .ref 866), (1, .int (nI 0))]) (st' := []) rfl rfl ?_
  refine zEx_sub ?_ h
  exact ⟨rfl, rfl, trivial⟩
theorem e_M_findsStep {d : Nat}  {M : ZM} {r : ZR}  (h : zC0 (zEv d zmM_found [.ref 866, .int (nI 0), .int (-2 : Int32), .int (-2 : Int32), .int (-2 : Int32)] M) (fun M2 => zC1 (zEv d zmM_isBroken [.ref 866] M2) (fun v5 M4 => (if v5 = (nI 0) then zC0 (zEv d zmM_findsAlone [.ref 866] M4) (fun M8 => zC0 (zEv d zmM_findsWays [.ref 866] M8) (fun M10 => zC0 (zEv d zmM_findsMust [.ref 866] M10) (fun M12 => zC0 (zEv d zmM_findsTwins [.ref 866] M12) (fun M14 => some (none, M14))))) else some (none, M4)))) = some r) : zEv (d + 1) zmM_findsStep [.ref 866] M = some r := by
  rw [zEv_succ]
  show zEx0 (zEv d) zmM_findsStep (0, [(0, .ref 866)], [], M) = some r
  refine y_pure (pc' := 1) (st' := [.ref 866]) rfl rfl ?_
  refine y_pure (pc' := 2) (st' := [.int (nI 0), .ref 866]) rfl rfl ?_
  refine y_pure (pc' := 4) (st' := [.int (-2 : Int32), .int (nI 0), .ref 866]) rfl rfl ?_
  refine y_pure (pc' := 6) (st' := [.int (-2 : Int32), .int (-2 : Int32), .int (nI 0), .ref 866]) rfl rfl ?_
  refine y_pure (pc' := 8) (st' := [.int (-2 : Int32), .int (-2 : Int32), .int (-2 : Int32), .int (nI 0), .ref 866]) rfl rfl ?_
  obtain ⟨M2, he1, h⟩ := zC0_inv h
  refine y_callV (pc' := 11) (y := zmM_found) (a' := [.int (nI 0), .int (-2 : Int32), .int (-2 : Int32), .int (-2 : Int32)]) (st' := []) rfl rfl rfl rfl rfl (zrecv_o (o := 10) zc_866 rfl) rfl he1 rfl rfl ?_
  refine y_pure (pc' := 12) (st' := [.ref 866]) rfl rfl ?_
  obtain ⟨v5, M4, he3, h⟩ := zC1_inv h
  refine y_callV (pc' := 15) (y := zmM_isBroken) (a' := []) (st' := []) rfl rfl rfl rfl rfl (zrecv_o (o := 10) zc_866 rfl) rfl he3 rfl rfl ?_
  rcases zif_inv h with ⟨hc6, h⟩ | ⟨hc6, h⟩
  · refine y_cnd (pc' := 19) rfl rfl (zc_eqT hc6) rfl ?_
    refine y_pure (pc' := 20) (st' := [.ref 866]) rfl rfl ?_
    obtain ⟨M8, he7, h⟩ := zC0_inv h
    refine y_callV (pc' := 23) (y := zmM_findsAlone) (a' := []) (st' := []) rfl rfl rfl rfl rfl (zrecv_o (o := 10) zc_866 rfl) rfl he7 rfl rfl ?_
    refine y_pure (pc' := 24) (st' := [.ref 866]) rfl rfl ?_
    obtain ⟨M10, he9, h⟩ := zC0_inv h
    refine y_callV (pc' := 27) (y := zmM_findsWays) (a' := []) (st' := []) rfl rfl rfl rfl rfl (zrecv_o (o := 10) zc_866 rfl) rfl he9 rfl rfl ?_
    refine y_pure (pc' := 28) (st' := [.ref 866]) rfl rfl ?_
    obtain ⟨M12, he11, h⟩ := zC0_inv h
    refine y_callV (pc' := 31) (y := zmM_findsMust) (a' := []) (st' := []) rfl rfl rfl rfl rfl (zrecv_o (o := 10) zc_866 rfl) rfl he11 rfl rfl ?_
    refine y_pure (pc' := 32) (st' := [.ref 866]) rfl rfl ?_
    obtain ⟨M14, he13, h⟩ := zC0_inv h
    refine y_callV (pc' := 35) (y := zmM_findsTwins) (a' := []) (st' := []) rfl rfl rfl rfl rfl (zrecv_o (o := 10) zc_866 rfl) rfl he13 rfl rfl ?_
    exact y_ret rfl rfl rfl rfl h
  · refine y_cnd (pc' := 18) rfl rfl (zc_eqF hc6) rfl ?_
    exact y_ret rfl rfl rfl rfl h
theorem e_M_puts {d : Nat} {x1 : Int32} {x2 : Int32} {M : ZM} {r : ZR}  (h : (if zin ((nI 40) + x1) 268 = true then (if zin ((nI 112) + x1) 268 = true then some (none, (zpi (zpi M 867 (Int32.toNatClampNeg ((nI 40) + x1)) x2) 867 (Int32.toNatClampNeg ((nI 112) + x1)) ((nI 1) <<< (x2 &&& 31)))) else none) else none) = some r) : zEv (d + 1) zmM_puts [.ref 866, .int x1, .int x2] M = some r := by
  rw [zEv_succ]
  show zEx0 (zEv d) zmM_puts (0, [(0, .ref 866), (1, .int x1), (2, .int x2)], [], M) = some r
  refine y_pure (pc' := 1) (st' := [.ref 866]) rfl rfl ?_
  refine y_getf (pc' := 4) (v := .ref 867) rfl rfl rfl zc_866 rfl rfl ?_
  refine y_pure (pc' := 6) (st' := [.int (nI 40), .ref 867]) rfl rfl ?_
  refine y_pure (pc' := 7) (st' := [.int x1, .int (nI 40), .ref 867]) rfl rfl ?_
  refine y_pure (pc' := 8) (st' := [.int ((nI 40) + x1), .ref 867]) rfl rfl ?_
  refine y_pure (pc' := 9) (st' := [.int x2, .int ((nI 40) + x1), .ref 867]) rfl rfl ?_
  obtain ⟨hi1, h⟩ := zg_inv h
  refine y_iast (pc' := 10) rfl zc_867 hi1 rfl ?_
  refine y_pure (pc' := 11) (st' := [.ref 866]) rfl rfl ?_
  refine y_getf (pc' := 14) (v := .ref 867) rfl rfl rfl zc_866 rfl rfl ?_
  refine y_pure (pc' := 16) (st' := [.int (nI 112), .ref 867]) rfl rfl ?_
  refine y_pure (pc' := 17) (st' := [.int x1, .int (nI 112), .ref 867]) rfl rfl ?_
  refine y_pure (pc' := 18) (st' := [.int ((nI 112) + x1), .ref 867]) rfl rfl ?_
  refine y_pure (pc' := 19) (st' := [.int (nI 1), .int ((nI 112) + x1), .ref 867]) rfl rfl ?_
  refine y_pure (pc' := 20) (st' := [.int x2, .int (nI 1), .int ((nI 112) + x1), .ref 867]) rfl rfl ?_
  refine y_pure (pc' := 21) (st' := [.int ((nI 1) <<< (x2 &&& 31)), .int ((nI 112) + x1), .ref 867]) rfl rfl ?_
  obtain ⟨hi2, h⟩ := zg_inv h
  refine y_iast (pc' := 22) rfl zc_867 hi2 rfl ?_
  exact y_ret rfl rfl rfl rfl h
noncomputable def h_M_goesStep_28 (d : Nat) (M : ZM) : Option ZR := zEx0 (zEv d) zmM_goesStep (28, [(0, .ref 866)], [], M)
noncomputable def h_M_goesStep_79 (d : Nat) (x1 : Int32) (x2 : Int32) (M : ZM) : Option ZR := zEx0 (zEv d) zmM_goesStep (79, [(0, .ref 866), (1, .int x1), (2, .int x2)], [], M)
theorem e_M_goesStep_28 {d : Nat} {M : ZM} {r : ZR}  (h : (if (M.1 866 12) = (nI 2) then (if zin ((nI 112) + (M.1 866 14)) 268 = true then zL (zpi M 867 (Int32.toNatClampNeg ((nI 112) + (M.1 866 14))) ((M.1 867 (Int32.toNatClampNeg ((nI 112) + (M.1 866 14)))) &&& (((nI 1) <<< ((M.1 866 16) &&& 31)) ^^^ (-1 : Int32)))) (fun M3 => (if (M3.1 866 12) = (nI 4) then zC1 (zEv d zmM_marks [.ref 866, .int (M3.1 866 14)] M3) (fun v8 M7 => h_M_goesStep_79 d v8 (nI 0) M7) else some (none, M3))) else none) else (if (M.1 866 12) = (nI 4) then zC1 (zEv d zmM_marks [.ref 866, .int (M.1 866 14)] M) (fun v12 M11 => h_M_goesStep_79 d v12 (nI 0) M11) else some (none, M))) = some r) : h_M_goesStep_28 d M = some r := by
  show zEx0 (zEv d) zmM_goesStep (28, [(0, .ref 866)], [], M) = some r
  refine y_pure (pc' := 29) (st' := [.ref 866]) rfl rfl ?_
  refine y_getf (pc' := 32) (v := .int (M.1 866 12)) rfl rfl rfl zc_866 rfl rfl ?_
  refine y_pure (pc' := 33) (st' := [.int (nI 2), .int (M.1 866 12)]) rfl rfl ?_
  rcases zif_inv h with ⟨hc1, h⟩ | ⟨hc1, h⟩
  · refine y_cmp (pc' := 36) rfl rfl (zc_neF hc1) rfl ?_
    refine y_pure (pc' := 37) (st' := [.ref 866]) rfl rfl ?_
    refine y_getf (pc' := 40) (v := .ref 867) rfl rfl rfl zc_866 rfl rfl ?_
    refine y_pure (pc' := 42) (st' := [.int (nI 112), .ref 867]) rfl rfl ?_
    refine y_pure (pc' := 43) (st' := [.ref 866, .int (nI 112), .ref 867]) rfl rfl ?_
    refine y_getf (pc' := 46) (v := .int (M.1 866 14)) rfl rfl rfl zc_866 rfl rfl ?_
    refine y_pure (pc' := 47) (st' := [.int ((nI 112) + (M.1 866 14)), .ref 867]) rfl rfl ?_
    refine y_pure (pc' := 48) (st' := [.int ((nI 112) + (M.1 866 14)), .ref 867, .int ((nI 112) + (M.1 866 14)), .ref 867]) rfl rfl ?_
    obtain ⟨hi2, h⟩ := zg_inv h
    refine y_iald (pc' := 49) rfl zc_867 hi2 rfl ?_
    refine y_pure (pc' := 50) (st' := [.int (nI 1), .int (M.1 867 (Int32.toNatClampNeg ((nI 112) + (M.1 866 14)))), .int ((nI 112) + (M.1 866 14)), .ref 867]) rfl rfl ?_
    refine y_pure (pc' := 51) (st' := [.ref 866, .int (nI 1), .int (M.1 867 (Int32.toNatClampNeg ((nI 112) + (M.1 866 14)))), .int ((nI 112) + (M.1 866 14)), .ref 867]) rfl rfl ?_
    refine y_getf (pc' := 54) (v := .int (M.1 866 16)) rfl rfl rfl zc_866 rfl rfl ?_
    refine y_pure (pc' := 55) (st' := [.int ((nI 1) <<< ((M.1 866 16) &&& 31)), .int (M.1 867 (Int32.toNatClampNeg ((nI 112) + (M.1 866 14)))), .int ((nI 112) + (M.1 866 14)), .ref 867]) rfl rfl ?_
    refine y_pure (pc' := 56) (st' := [.int (-1 : Int32), .int ((nI 1) <<< ((M.1 866 16) &&& 31)), .int (M.1 867 (Int32.toNatClampNeg ((nI 112) + (M.1 866 14)))), .int ((nI 112) + (M.1 866 14)), .ref 867]) rfl rfl ?_
    refine y_pure (pc' := 57) (st' := [.int (((nI 1) <<< ((M.1 866 16) &&& 31)) ^^^ (-1 : Int32)), .int (M.1 867 (Int32.toNatClampNeg ((nI 112) + (M.1 866 14)))), .int ((nI 112) + (M.1 866 14)), .ref 867]) rfl rfl ?_
    refine y_pure (pc' := 58) (st' := [.int ((M.1 867 (Int32.toNatClampNeg ((nI 112) + (M.1 866 14)))) &&& (((nI 1) <<< ((M.1 866 16) &&& 31)) ^^^ (-1 : Int32))), .int ((nI 112) + (M.1 866 14)), .ref 867]) rfl rfl ?_
    refine y_iast (pc' := 59) rfl zc_867 hi2 rfl ?_
    obtain ⟨M3, e4, h⟩ := zL_inv h
    refine zM_gen e4 ?_
    refine y_pure (pc' := 60) (st' := [.ref 866]) rfl rfl ?_
    refine y_getf (pc' := 63) (v := .int (M3.1 866 12)) rfl rfl rfl zc_866 rfl rfl ?_
    refine y_pure (pc' := 64) (st' := [.int (nI 4), .int (M3.1 866 12)]) rfl rfl ?_
    rcases zif_inv h with ⟨hc5, h⟩ | ⟨hc5, h⟩
    · refine y_cmp (pc' := 68) rfl rfl (zc_eqT hc5) rfl ?_
      refine y_pure (pc' := 69) (st' := [.ref 866]) rfl rfl ?_
      refine y_pure (pc' := 70) (st' := [.ref 866, .ref 866]) rfl rfl ?_
      refine y_getf (pc' := 73) (v := .int (M3.1 866 14)) rfl rfl rfl zc_866 rfl rfl ?_
      obtain ⟨v8, M7, he6, h⟩ := zC1_inv h
      refine y_callV (pc' := 76) (y := zmM_marks) (a' := [.int (M3.1 866 14)]) (st' := []) rfl rfl rfl rfl rfl (zrecv_o (o := 10) zc_866 rfl) rfl he6 rfl rfl ?_
      refine y_pure (pc' := 77) (ls' := [(0, .ref 866), (1, .int v8)]) (st' := []) rfl rfl ?_
      refine y_pure (pc' := 78) (st' := [.int (nI 0)]) rfl rfl ?_
      refine y_pure (pc' := 79) (ls' := [(0, .ref 866), (1, .int v8), (2, .int (nI 0))]) (st' := []) rfl rfl ?_
      refine zEx_sub ?_ h
      exact ⟨rfl, rfl, rfl, trivial⟩
    · refine y_cmp (pc' := 67) rfl rfl (zc_eqF hc5) rfl ?_
      exact y_ret rfl rfl rfl rfl h
  · refine y_cmp (pc' := 59) rfl rfl (zc_neT hc1) rfl ?_
    refine y_pure (pc' := 60) (st' := [.ref 866]) rfl rfl ?_
    refine y_getf (pc' := 63) (v := .int (M.1 866 12)) rfl rfl rfl zc_866 rfl rfl ?_
    refine y_pure (pc' := 64) (st' := [.int (nI 4), .int (M.1 866 12)]) rfl rfl ?_
    rcases zif_inv h with ⟨hc9, h⟩ | ⟨hc9, h⟩
    · refine y_cmp (pc' := 68) rfl rfl (zc_eqT hc9) rfl ?_
      refine y_pure (pc' := 69) (st' := [.ref 866]) rfl rfl ?_
      refine y_pure (pc' := 70) (st' := [.ref 866, .ref 866]) rfl rfl ?_
      refine y_getf (pc' := 73) (v := .int (M.1 866 14)) rfl rfl rfl zc_866 rfl rfl ?_
      obtain ⟨v12, M11, he10, h⟩ := zC1_inv h
      refine y_callV (pc' := 76) (y := zmM_marks) (a' := [.int (M.1 866 14)]) (st' := []) rfl rfl rfl rfl rfl (zrecv_o (o := 10) zc_866 rfl) rfl he10 rfl rfl ?_
      refine y_pure (pc' := 77) (ls' := [(0, .ref 866), (1, .int v12)]) (st' := []) rfl rfl ?_
      refine y_pure (pc' := 78) (st' := [.int (nI 0)]) rfl rfl ?_
      refine y_pure (pc' := 79) (ls' := [(0, .ref 866), (1, .int v12), (2, .int (nI 0))]) (st' := []) rfl rfl ?_
      refine zEx_sub ?_ h
      exact ⟨rfl, rfl, rfl, trivial⟩
    · refine y_cmp (pc' := 67) rfl rfl (zc_eqF hc9) rfl ?_
      exact y_ret rfl rfl rfl rfl h
theorem e_M_goesStep_79 {d : Nat} {x1 : Int32} {x2 : Int32} {M : ZM} {r : ZR}  (h : zC1 (zEv d zmM_of [.ref 866, .int (M.1 866 13), .int (nI 3)] M) (fun v3 M2 => (if x2 < v3 then zC1 (zEv d zmM_cellOf [.ref 866, .int (M2.1 866 13), .int x2] M2) (fun v7 M6 => (if v7 = (M6.1 866 14) then h_M_goesStep_79 d x1 (x2 + (nI 1)) M6 else (if v7 = (M6.1 866 15) then h_M_goesStep_79 d x1 (x2 + (nI 1)) M6 else (if zin ((nI 112) + v7) 268 = true then h_M_goesStep_79 d x1 (x2 + (nI 1)) (zpi M6 867 (Int32.toNatClampNeg ((nI 112) + v7)) ((M6.1 867 (Int32.toNatClampNeg ((nI 112) + v7))) &&& (x1 ^^^ (-1 : Int32)))) else none)))) else some (none, M2))) = some r) : h_M_goesStep_79 d x1 x2 M = some r := by
  show zEx0 (zEv d) zmM_goesStep (79, [(0, .ref 866), (1, .int x1), (2, .int x2)], [], M) = some r
  refine y_pure (pc' := 80) (st' := [.int x2]) rfl rfl ?_
  refine y_pure (pc' := 81) (st' := [.ref 866, .int x2]) rfl rfl ?_
  refine y_pure (pc' := 82) (st' := [.ref 866, .ref 866, .int x2]) rfl rfl ?_
  refine y_getf (pc' := 85) (v := .int (M.1 866 13)) rfl rfl rfl zc_866 rfl rfl ?_
  refine y_pure (pc' := 86) (st' := [.int (nI 3), .int (M.1 866 13), .ref 866, .int x2]) rfl rfl ?_
  obtain ⟨v3, M2, he1, h⟩ := zC1_inv h
  refine y_callV (pc' := 89) (y := zmM_of) (a' := [.int (M.1 866 13), .int (nI 3)]) (st' := [.int x2]) rfl rfl rfl rfl rfl (zrecv_o (o := 10) zc_866 rfl) rfl he1 rfl rfl ?_
  rcases zif_inv h with ⟨hc4, h⟩ | ⟨hc4, h⟩
  · refine y_cmp (pc' := 92) rfl rfl (zc_geF hc4) rfl ?_
    refine y_pure (pc' := 93) (st' := [.ref 866]) rfl rfl ?_
    refine y_pure (pc' := 94) (st' := [.ref 866, .ref 866]) rfl rfl ?_
    refine y_getf (pc' := 97) (v := .int (M2.1 866 13)) rfl rfl rfl zc_866 rfl rfl ?_
    refine y_pure (pc' := 98) (st' := [.int x2, .int (M2.1 866 13), .ref 866]) rfl rfl ?_
    obtain ⟨v7, M6, he5, h⟩ := zC1_inv h
    refine y_callV (pc' := 101) (y := zmM_cellOf) (a' := [.int (M2.1 866 13), .int x2]) (st' := []) rfl rfl rfl rfl rfl (zrecv_o (o := 10) zc_866 rfl) rfl he5 rfl rfl ?_
    refine y_pure (pc' := 102) (ls' := [(0, .ref 866), (1, .int x1), (2, .int x2), (3, .int v7)]) (st' := []) rfl rfl ?_
    refine y_pure (pc' := 103) (st' := [.int v7]) rfl rfl ?_
    refine y_pure (pc' := 104) (st' := [.ref 866, .int v7]) rfl rfl ?_
    refine y_getf (pc' := 107) (v := .int (M6.1 866 14)) rfl rfl rfl zc_866 rfl rfl ?_
    rcases zif_inv h with ⟨hc8, h⟩ | ⟨hc8, h⟩
    · refine y_cmp (pc' := 133) rfl rfl (zc_eqT hc8) rfl ?_
      refine y_pure (pc' := 136) (ls' := [(0, .ref 866), (1, .int x1), (2, .int (x2 + (nI 1))), (3, .int v7)]) (st' := []) rfl rfl ?_
      refine y_pure (pc' := 79) rfl rfl ?_
      refine zEx_sub ?_ h
      exact ⟨rfl, rfl, rfl, trivial⟩
    · refine y_cmp (pc' := 110) rfl rfl (zc_eqF hc8) rfl ?_
      refine y_pure (pc' := 111) (st' := [.int v7]) rfl rfl ?_
      refine y_pure (pc' := 112) (st' := [.ref 866, .int v7]) rfl rfl ?_
      refine y_getf (pc' := 115) (v := .int (M6.1 866 15)) rfl rfl rfl zc_866 rfl rfl ?_
      rcases zif_inv h with ⟨hc9, h⟩ | ⟨hc9, h⟩
      · refine y_cmp (pc' := 133) rfl rfl (zc_eqT hc9) rfl ?_
        refine y_pure (pc' := 136) (ls' := [(0, .ref 866), (1, .int x1), (2, .int (x2 + (nI 1))), (3, .int v7)]) (st' := []) rfl rfl ?_
        refine y_pure (pc' := 79) rfl rfl ?_
        refine zEx_sub ?_ h
        exact ⟨rfl, rfl, rfl, trivial⟩
      · refine y_cmp (pc' := 118) rfl rfl (zc_eqF hc9) rfl ?_
        refine y_pure (pc' := 119) (st' := [.ref 866]) rfl rfl ?_
        refine y_getf (pc' := 122) (v := .ref 867) rfl rfl rfl zc_866 rfl rfl ?_
        refine y_pure (pc' := 124) (st' := [.int (nI 112), .ref 867]) rfl rfl ?_
        refine y_pure (pc' := 125) (st' := [.int v7, .int (nI 112), .ref 867]) rfl rfl ?_
        refine y_pure (pc' := 126) (st' := [.int ((nI 112) + v7), .ref 867]) rfl rfl ?_
        refine y_pure (pc' := 127) (st' := [.int ((nI 112) + v7), .ref 867, .int ((nI 112) + v7), .ref 867]) rfl rfl ?_
        obtain ⟨hi10, h⟩ := zg_inv h
        refine y_iald (pc' := 128) rfl zc_867 hi10 rfl ?_
        refine y_pure (pc' := 129) (st' := [.int x1, .int (M6.1 867 (Int32.toNatClampNeg ((nI 112) + v7))), .int ((nI 112) + v7), .ref 867]) rfl rfl ?_
        refine y_pure (pc' := 130) (st' := [.int (-1 : Int32), .int x1, .int (M6.1 867 (Int32.toNatClampNeg ((nI 112) + v7))), .int ((nI 112) + v7), .ref 867]) rfl rfl ?_
        refine y_pure (pc' := 131) (st' := [.int (x1 ^^^ (-1 : Int32)), .int (M6.1 867 (Int32.toNatClampNeg ((nI 112) + v7))), .int ((nI 112) + v7), .ref 867]) rfl rfl ?_
        refine y_pure (pc' := 132) (st' := [.int ((M6.1 867 (Int32.toNatClampNeg ((nI 112) + v7))) &&& (x1 ^^^ (-1 : Int32))), .int ((nI 112) + v7), .ref 867]) rfl rfl ?_
        refine y_iast (pc' := 133) rfl zc_867 hi10 rfl ?_
        refine y_pure (pc' := 136) (ls' := [(0, .ref 866), (1, .int x1), (2, .int (x2 + (nI 1))), (3, .int v7)]) (st' := []) rfl rfl ?_
        refine y_pure (pc' := 79) rfl rfl ?_
        refine zEx_sub ?_ h
        exact ⟨rfl, rfl, rfl, trivial⟩
  · refine y_cmp (pc' := 139) rfl rfl (zc_geT hc4) rfl ?_
    exact y_ret rfl rfl rfl rfl h
theorem e_M_goesStep {d : Nat}  {M : ZM} {r : ZR}  (h : (if (M.1 866 12) = (nI 1) then zC0 (zEv d zmM_puts [.ref 866, .int (M.1 866 14), .int (M.1 866 16)] M) (fun M3 => h_M_goesStep_28 d  M3) else (if (M.1 866 12) = (nI 3) then zC0 (zEv d zmM_puts [.ref 866, .int (M.1 866 14), .int (M.1 866 16)] M) (fun M6 => h_M_goesStep_28 d  M6) else h_M_goesStep_28 d  M)) = some r) : zEv (d + 1) zmM_goesStep [.ref 866] M = some r := by
  rw [zEv_succ]
  show zEx0 (zEv d) zmM_goesStep (0, [(0, .ref 866)], [], M) = some r
  refine y_pure (pc' := 1) (st' := [.ref 866]) rfl rfl ?_
  refine y_getf (pc' := 4) (v := .int (M.1 866 12)) rfl rfl rfl zc_866 rfl rfl ?_
  refine y_pure (pc' := 5) (st' := [.int (nI 1), .int (M.1 866 12)]) rfl rfl ?_
  rcases zif_inv h with ⟨hc1, h⟩ | ⟨hc1, h⟩
  · refine y_cmp (pc' := 16) rfl rfl (zc_eqT hc1) rfl ?_
    refine y_pure (pc' := 17) (st' := [.ref 866]) rfl rfl ?_
    refine y_pure (pc' := 18) (st' := [.ref 866, .ref 866]) rfl rfl ?_
    refine y_getf (pc' := 21) (v := .int (M.1 866 14)) rfl rfl rfl zc_866 rfl rfl ?_
    refine y_pure (pc' := 22) (st' := [.ref 866, .int (M.1 866 14), .ref 866]) rfl rfl ?_
    refine y_getf (pc' := 25) (v := .int (M.1 866 16)) rfl rfl rfl zc_866 rfl rfl ?_
    obtain ⟨M3, he2, h⟩ := zC0_inv h
    refine y_callV (pc' := 28) (y := zmM_puts) (a' := [.int (M.1 866 14), .int (M.1 866 16)]) (st' := []) rfl rfl rfl rfl rfl (zrecv_o (o := 10) zc_866 rfl) rfl he2 rfl rfl ?_
    refine zEx_sub ?_ h
    exact ⟨rfl, trivial⟩
  · refine y_cmp (pc' := 8) rfl rfl (zc_eqF hc1) rfl ?_
    refine y_pure (pc' := 9) (st' := [.ref 866]) rfl rfl ?_
    refine y_getf (pc' := 12) (v := .int (M.1 866 12)) rfl rfl rfl zc_866 rfl rfl ?_
    refine y_pure (pc' := 13) (st' := [.int (nI 3), .int (M.1 866 12)]) rfl rfl ?_
    rcases zif_inv h with ⟨hc4, h⟩ | ⟨hc4, h⟩
    · refine y_cmp (pc' := 16) rfl rfl (zc_neF hc4) rfl ?_
      refine y_pure (pc' := 17) (st' := [.ref 866]) rfl rfl ?_
      refine y_pure (pc' := 18) (st' := [.ref 866, .ref 866]) rfl rfl ?_
      refine y_getf (pc' := 21) (v := .int (M.1 866 14)) rfl rfl rfl zc_866 rfl rfl ?_
      refine y_pure (pc' := 22) (st' := [.ref 866, .int (M.1 866 14), .ref 866]) rfl rfl ?_
      refine y_getf (pc' := 25) (v := .int (M.1 866 16)) rfl rfl rfl zc_866 rfl rfl ?_
      obtain ⟨M6, he5, h⟩ := zC0_inv h
      refine y_callV (pc' := 28) (y := zmM_puts) (a' := [.int (M.1 866 14), .int (M.1 866 16)]) (st' := []) rfl rfl rfl rfl rfl (zrecv_o (o := 10) zc_866 rfl) rfl he5 rfl rfl ?_
      refine zEx_sub ?_ h
      exact ⟨rfl, trivial⟩
    · refine y_cmp (pc' := 28) rfl rfl (zc_neT hc4) rfl ?_
      refine zEx_sub ?_ h
      exact ⟨rfl, trivial⟩
noncomputable def h_M_goesAll_14 (d : Nat) (M : ZM) : Option ZR := zEx0 (zEv d) zmM_goesAll (14, [(0, .ref 866)], [], M)
theorem e_M_goesAll_14 {d : Nat} {M : ZM} {r : ZR}  (h : (if (nI 0) < (M.1 866 12) then zL (zpi (zpi M 866 17 ((M.1 866 17) + (nI 1))) 866 18 (((zpi M 866 17 ((M.1 866 17) + (nI 1))).1 866 18) + ((zpi M 866 17 ((M.1 866 17) + (nI 1))).1 866 12))) (fun M2 => zC0 (zEv d zmM_goesStep [.ref 866] M2) (fun M5 => zC0 (zEv d zmM_findsStep [.ref 866] M5) (fun M7 => h_M_goesAll_14 d  M7))) else some (none, M)) = some r) : h_M_goesAll_14 d M = some r := by
  show zEx0 (zEv d) zmM_goesAll (14, [(0, .ref 866)], [], M) = some r
  refine y_pure (pc' := 15) (st' := [.ref 866]) rfl rfl ?_
  refine y_getf (pc' := 18) (v := .int (M.1 866 12)) rfl rfl rfl zc_866 rfl rfl ?_
  rcases zif_inv h with ⟨hc1, h⟩ | ⟨hc1, h⟩
  · refine y_cnd (pc' := 21) rfl rfl (zc_leF hc1) rfl ?_
    refine y_pure (pc' := 22) (st' := [.ref 866]) rfl rfl ?_
    refine y_pure (pc' := 23) (st' := [.ref 866, .ref 866]) rfl rfl ?_
    refine y_getf (pc' := 26) (v := .int (M.1 866 17)) rfl rfl rfl zc_866 rfl rfl ?_
    refine y_pure (pc' := 27) (st' := [.int (nI 1), .int (M.1 866 17), .ref 866]) rfl rfl ?_
    refine y_pure (pc' := 28) (st' := [.int ((M.1 866 17) + (nI 1)), .ref 866]) rfl rfl ?_
    refine y_putI (pc' := 31) rfl rfl zc_866 rfl ?_
    refine y_pure (pc' := 32) (st' := [.ref 866]) rfl rfl ?_
    refine y_pure (pc' := 33) (st' := [.ref 866, .ref 866]) rfl rfl ?_
    refine y_getf (pc' := 36) (v := .int ((zpi M 866 17 ((M.1 866 17) + (nI 1))).1 866 18)) rfl rfl rfl zc_866 rfl rfl ?_
    refine y_pure (pc' := 37) (st' := [.ref 866, .int ((zpi M 866 17 ((M.1 866 17) + (nI 1))).1 866 18), .ref 866]) rfl rfl ?_
    refine y_getf (pc' := 40) (v := .int ((zpi M 866 17 ((M.1 866 17) + (nI 1))).1 866 12)) rfl rfl rfl zc_866 rfl rfl ?_
    refine y_pure (pc' := 41) (st' := [.int (((zpi M 866 17 ((M.1 866 17) + (nI 1))).1 866 18) + ((zpi M 866 17 ((M.1 866 17) + (nI 1))).1 866 12)), .ref 866]) rfl rfl ?_
    refine y_putI (pc' := 44) rfl rfl zc_866 rfl ?_
    obtain ⟨M2, e3, h⟩ := zL_inv h
    refine zM_gen e3 ?_
    refine y_pure (pc' := 45) (st' := [.ref 866]) rfl rfl ?_
    obtain ⟨M5, he4, h⟩ := zC0_inv h
    refine y_callV (pc' := 48) (y := zmM_goesStep) (a' := []) (st' := []) rfl rfl rfl rfl rfl (zrecv_o (o := 10) zc_866 rfl) rfl he4 rfl rfl ?_
    refine y_pure (pc' := 49) (st' := [.ref 866]) rfl rfl ?_
    obtain ⟨M7, he6, h⟩ := zC0_inv h
    refine y_callV (pc' := 52) (y := zmM_findsStep) (a' := []) (st' := []) rfl rfl rfl rfl rfl (zrecv_o (o := 10) zc_866 rfl) rfl he6 rfl rfl ?_
    refine y_pure (pc' := 14) rfl rfl ?_
    refine zEx_sub ?_ h
    exact ⟨rfl, trivial⟩
  · refine y_cnd (pc' := 55) rfl rfl (zc_leT hc1) rfl ?_
    exact y_ret rfl rfl rfl rfl h
theorem e_M_goesAll {d : Nat}  {M : ZM} {r : ZR}  (h : zC0 (zEv d zmM_findsStep [.ref 866] (zpi (zpi M 866 17 (nI 0)) 866 18 (nI 0))) (fun M2 => h_M_goesAll_14 d  M2) = some r) : zEv (d + 1) zmM_goesAll [.ref 866] M = some r := by
  rw [zEv_succ]
  show zEx0 (zEv d) zmM_goesAll (0, [(0, .ref 866)], [], M) = some r
  refine y_pure (pc' := 1) (st' := [.ref 866]) rfl rfl ?_
  refine y_pure (pc' := 2) (st' := [.int (nI 0), .ref 866]) rfl rfl ?_
  refine y_putI (pc' := 5) rfl rfl zc_866 rfl ?_
  refine y_pure (pc' := 6) (st' := [.ref 866]) rfl rfl ?_
  refine y_pure (pc' := 7) (st' := [.int (nI 0), .ref 866]) rfl rfl ?_
  refine y_putI (pc' := 10) rfl rfl zc_866 rfl ?_
  refine y_pure (pc' := 11) (st' := [.ref 866]) rfl rfl ?_
  obtain ⟨M2, he1, h⟩ := zC0_inv h
  refine y_callV (pc' := 14) (y := zmM_findsStep) (a' := []) (st' := []) rfl rfl rfl rfl rfl (zrecv_o (o := 10) zc_866 rfl) rfl he1 rfl rfl ?_
  refine zEx_sub ?_ h
  exact ⟨rfl, trivial⟩
theorem e_M_next {d : Nat} {x1 : Int32} {M : ZM} {r : ZR}  (h : zC1 (zEv d zmM_isBoard [.ref 866] M) (fun v3 M2 => (if v3 = (nI 0) then some (some (.int (-1 : Int32)), M2) else zC1 (zEv d zmM_in [.long (Int32.toInt64 x1), .long (nJ 0), .long (nJ 3)] M2) (fun v7 M6 => (if v7 = (nI 0) then some (some (.int (-1 : Int32)), M6) else zC0 (zEv d zmM_findsStep [.ref 866] M6) (fun M10 => (if x1 = (nI 0) then some (some (.int (M10.1 866 12)), M10) else (if x1 = (nI 1) then some (some (.int (M10.1 866 13)), M10) else (if x1 = (nI 2) then some (some (.int (M10.1 866 14)), M10) else some (some (.int (M10.1 866 16)), M10))))))))) = some r) : zEv (d + 1) zmM_next [.ref 866, .int x1] M = some r := by
  rw [zEv_succ]
  show zEx0 (zEv d) zmM_next (0, [(0, .ref 866), (1, .int x1)], [], M) = some r
  refine y_pure (pc' := 1) (st' := [.ref 866]) rfl rfl ?_
  obtain ⟨v3, M2, he1, h⟩ := zC1_inv h
  refine y_callV (pc' := 4) (y := zmM_isBoard) (a' := []) (st' := []) rfl rfl rfl rfl rfl (zrecv_o (o := 10) zc_866 rfl) rfl he1 rfl rfl ?_
  rcases zif_inv h with ⟨hc4, h⟩ | ⟨hc4, h⟩
  · refine y_cnd (pc' := 19) rfl rfl (zc_eqT hc4) rfl ?_
    refine y_pure (pc' := 20) (st' := [.int (-1 : Int32)]) rfl rfl ?_
    exact y_ret rfl rfl rfl rfl h
  · refine y_cnd (pc' := 7) rfl rfl (zc_eqF hc4) rfl ?_
    refine y_pure (pc' := 8) (st' := [.int x1]) rfl rfl ?_
    refine y_pure (pc' := 9) (st' := [.long (Int32.toInt64 x1)]) rfl rfl ?_
    refine y_pure (pc' := 10) (st' := [.long (nJ 0), .long (Int32.toInt64 x1)]) rfl rfl ?_
    refine y_pure (pc' := 13) (st' := [.long (nJ 3), .long (nJ 0), .long (Int32.toInt64 x1)]) rfl rfl ?_
    obtain ⟨v7, M6, he5, h⟩ := zC1_inv h
    refine y_callS (pc' := 16) (y := zmM_in) (a := [.long (Int32.toInt64 x1), .long (nJ 0), .long (nJ 3)]) (st' := []) rfl rfl rfl rfl rfl rfl he5 rfl rfl ?_
    rcases zif_inv h with ⟨hc8, h⟩ | ⟨hc8, h⟩
    · refine y_cnd (pc' := 19) rfl rfl (zc_neF hc8) rfl ?_
      refine y_pure (pc' := 20) (st' := [.int (-1 : Int32)]) rfl rfl ?_
      exact y_ret rfl rfl rfl rfl h
    · refine y_cnd (pc' := 21) rfl rfl (zc_neT hc8) rfl ?_
      refine y_pure (pc' := 22) (st' := [.ref 866]) rfl rfl ?_
      obtain ⟨M10, he9, h⟩ := zC0_inv h
      refine y_callV (pc' := 25) (y := zmM_findsStep) (a' := []) (st' := []) rfl rfl rfl rfl rfl (zrecv_o (o := 10) zc_866 rfl) rfl he9 rfl rfl ?_
      refine y_pure (pc' := 26) (st' := [.int x1]) rfl rfl ?_
      rcases zif_inv h with ⟨hc11, h⟩ | ⟨hc11, h⟩
      · refine y_cnd (pc' := 29) rfl rfl (zc_neF hc11) rfl ?_
        refine y_pure (pc' := 30) (st' := [.ref 866]) rfl rfl ?_
        refine y_getf (pc' := 33) (v := .int (M10.1 866 12)) rfl rfl rfl zc_866 rfl rfl ?_
        refine y_pure (pc' := 64) rfl rfl ?_
        exact y_ret rfl rfl rfl rfl h
      · refine y_cnd (pc' := 36) rfl rfl (zc_neT hc11) rfl ?_
        refine y_pure (pc' := 37) (st' := [.int x1]) rfl rfl ?_
        refine y_pure (pc' := 38) (st' := [.int (nI 1), .int x1]) rfl rfl ?_
        rcases zif_inv h with ⟨hc12, h⟩ | ⟨hc12, h⟩
        · refine y_cmp (pc' := 41) rfl rfl (zc_neF hc12) rfl ?_
          refine y_pure (pc' := 42) (st' := [.ref 866]) rfl rfl ?_
          refine y_getf (pc' := 45) (v := .int (M10.1 866 13)) rfl rfl rfl zc_866 rfl rfl ?_
          refine y_pure (pc' := 64) rfl rfl ?_
          exact y_ret rfl rfl rfl rfl h
        · refine y_cmp (pc' := 48) rfl rfl (zc_neT hc12) rfl ?_
          refine y_pure (pc' := 49) (st' := [.int x1]) rfl rfl ?_
          refine y_pure (pc' := 50) (st' := [.int (nI 2), .int x1]) rfl rfl ?_
          rcases zif_inv h with ⟨hc13, h⟩ | ⟨hc13, h⟩
          · refine y_cmp (pc' := 53) rfl rfl (zc_neF hc13) rfl ?_
            refine y_pure (pc' := 54) (st' := [.ref 866]) rfl rfl ?_
            refine y_getf (pc' := 57) (v := .int (M10.1 866 14)) rfl rfl rfl zc_866 rfl rfl ?_
            refine y_pure (pc' := 64) rfl rfl ?_
            exact y_ret rfl rfl rfl rfl h
          · refine y_cmp (pc' := 60) rfl rfl (zc_neT hc13) rfl ?_
            refine y_pure (pc' := 61) (st' := [.ref 866]) rfl rfl ?_
            refine y_getf (pc' := 64) (v := .int (M10.1 866 16)) rfl rfl rfl zc_866 rfl rfl ?_
            exact y_ret rfl rfl rfl rfl h
noncomputable def h_M_putsAside_2 (d : Nat) (x1 : Int32) (M : ZM) : Option ZR := zEx0 (zEv d) zmM_putsAside (2, [(0, .ref 866), (1, .int x1)], [], M)
theorem e_M_putsAside_2 {d : Nat} {x1 : Int32} {M : ZM} {r : ZR}  (h : (if x1 < (nI 268) then (if zin x1 268 = true then h_M_putsAside_2 d (x1 + (nI 1)) (zpi M 871 (Int32.toNatClampNeg x1) (M.1 867 (Int32.toNatClampNeg x1))) else none) else some (none, M)) = some r) : h_M_putsAside_2 d x1 M = some r := by
  show zEx0 (zEv d) zmM_putsAside (2, [(0, .ref 866), (1, .int x1)], [], M) = some r
  refine y_pure (pc' := 3) (st' := [.int x1]) rfl rfl ?_
  refine y_pure (pc' := 6) (st' := [.int (nI 268), .int x1]) rfl rfl ?_
  rcases zif_inv h with ⟨hc1, h⟩ | ⟨hc1, h⟩
  · refine y_cmp (pc' := 9) rfl rfl (zc_geF hc1) rfl ?_
    refine y_pure (pc' := 10) (st' := [.ref 866]) rfl rfl ?_
    refine y_getf (pc' := 13) (v := .ref 871) rfl rfl rfl zc_866 rfl rfl ?_
    refine y_pure (pc' := 14) (st' := [.int x1, .ref 871]) rfl rfl ?_
    refine y_pure (pc' := 15) (st' := [.ref 866, .int x1, .ref 871]) rfl rfl ?_
    refine y_getf (pc' := 18) (v := .ref 867) rfl rfl rfl zc_866 rfl rfl ?_
    refine y_pure (pc' := 19) (st' := [.int x1, .ref 867, .int x1, .ref 871]) rfl rfl ?_
    obtain ⟨hi2, h⟩ := zg_inv h
    refine y_iald (pc' := 20) rfl zc_867 hi2 rfl ?_
    refine y_iast (pc' := 21) rfl zc_871 hi2 rfl ?_
    refine y_pure (pc' := 24) (ls' := [(0, .ref 866), (1, .int (x1 + (nI 1)))]) (st' := []) rfl rfl ?_
    refine y_pure (pc' := 2) rfl rfl ?_
    refine zEx_sub ?_ h
    exact ⟨rfl, rfl, trivial⟩
  · refine y_cmp (pc' := 27) rfl rfl (zc_geT hc1) rfl ?_
    exact y_ret rfl rfl rfl rfl h
theorem e_M_putsAside {d : Nat}  {M : ZM} {r : ZR}  (h : h_M_putsAside_2 d (nI 0) M = some r) : zEv (d + 1) zmM_putsAside [.ref 866] M = some r := by
  rw [zEv_succ]
  show zEx0 (zEv d) zmM_putsAside (0, [(0, .ref 866)], [], M) = some r
  refine y_pure (pc' := 1) (st' := [.int (nI 0)]) rfl rfl ?_
  refine y_pure (pc' := 2) (ls' := [(0, .ref 866), (1, .int (nI 0))]) (st' := []) rfl rfl ?_
  refine zEx_sub ?_ h
  exact ⟨rfl, rfl, trivial⟩
noncomputable def h_M_takesBack_2 (d : Nat) (x1 : Int32) (M : ZM) : Option ZR := zEx0 (zEv d) zmM_takesBack (2, [(0, .ref 866), (1, .int x1)], [], M)
theorem e_M_takesBack_2 {d : Nat} {x1 : Int32} {M : ZM} {r : ZR}  (h : (if x1 < (nI 268) then (if zin x1 268 = true then h_M_takesBack_2 d (x1 + (nI 1)) (zpi M 867 (Int32.toNatClampNeg x1) (M.1 871 (Int32.toNatClampNeg x1))) else none) else some (none, M)) = some r) : h_M_takesBack_2 d x1 M = some r := by
  show zEx0 (zEv d) zmM_takesBack (2, [(0, .ref 866), (1, .int x1)], [], M) = some r
  refine y_pure (pc' := 3) (st' := [.int x1]) rfl rfl ?_
  refine y_pure (pc' := 6) (st' := [.int (nI 268), .int x1]) rfl rfl ?_
  rcases zif_inv h with ⟨hc1, h⟩ | ⟨hc1, h⟩
  · refine y_cmp (pc' := 9) rfl rfl (zc_geF hc1) rfl ?_
    refine y_pure (pc' := 10) (st' := [.ref 866]) rfl rfl ?_
    refine y_getf (pc' := 13) (v := .ref 867) rfl rfl rfl zc_866 rfl rfl ?_
    refine y_pure (pc' := 14) (st' := [.int x1, .ref 867]) rfl rfl ?_
    refine y_pure (pc' := 15) (st' := [.ref 866, .int x1, .ref 867]) rfl rfl ?_
    refine y_getf (pc' := 18) (v := .ref 871) rfl rfl rfl zc_866 rfl rfl ?_
    refine y_pure (pc' := 19) (st' := [.int x1, .ref 871, .int x1, .ref 867]) rfl rfl ?_
    obtain ⟨hi2, h⟩ := zg_inv h
    refine y_iald (pc' := 20) rfl zc_871 hi2 rfl ?_
    refine y_iast (pc' := 21) rfl zc_867 hi2 rfl ?_
    refine y_pure (pc' := 24) (ls' := [(0, .ref 866), (1, .int (x1 + (nI 1)))]) (st' := []) rfl rfl ?_
    refine y_pure (pc' := 2) rfl rfl ?_
    refine zEx_sub ?_ h
    exact ⟨rfl, rfl, trivial⟩
  · refine y_cmp (pc' := 27) rfl rfl (zc_geT hc1) rfl ?_
    exact y_ret rfl rfl rfl rfl h
theorem e_M_takesBack {d : Nat}  {M : ZM} {r : ZR}  (h : h_M_takesBack_2 d (nI 0) M = some r) : zEv (d + 1) zmM_takesBack [.ref 866] M = some r := by
  rw [zEv_succ]
  show zEx0 (zEv d) zmM_takesBack (0, [(0, .ref 866)], [], M) = some r
  refine y_pure (pc' := 1) (st' := [.int (nI 0)]) rfl rfl ?_
  refine y_pure (pc' := 2) (ls' := [(0, .ref 866), (1, .int (nI 0))]) (st' := []) rfl rfl ?_
  refine zEx_sub ?_ h
  exact ⟨rfl, rfl, trivial⟩
noncomputable def h_M_notDone_4 (d : Nat) (x1 : Int32) (x2 : Int32) (M : ZM) : Option ZR := zEx0 (zEv d) zmM_notDone (4, [(0, .ref 866), (1, .int x1), (2, .int x2)], [], M)
theorem e_M_notDone_4 {d : Nat} {x1 : Int32} {x2 : Int32} {M : ZM} {r : ZR}  (h : zC1 (zEv d zmM_cells [.ref 866] M) (fun v3 M2 => (if x2 < v3 then zC1 (zEv d zmM_isOpen [.ref 866, .int x2] M2) (fun v7 M6 => (if v7 = (nI 0) then h_M_notDone_4 d (x1 + (nI 0)) (x2 + (nI 1)) M6 else zC1 (zEv d zmM_isDone [.ref 866, .int x2] M6) (fun v11 M10 => (if v11 = (nI 0) then h_M_notDone_4 d (x1 + (nI 1)) (x2 + (nI 1)) M10 else h_M_notDone_4 d (x1 + (nI 0)) (x2 + (nI 1)) M10)))) else some (some (.int x1), M2))) = some r) : h_M_notDone_4 d x1 x2 M = some r := by
  show zEx0 (zEv d) zmM_notDone (4, [(0, .ref 866), (1, .int x1), (2, .int x2)], [], M) = some r
  refine y_pure (pc' := 5) (st' := [.int x2]) rfl rfl ?_
  refine y_pure (pc' := 6) (st' := [.ref 866, .int x2]) rfl rfl ?_
  obtain ⟨v3, M2, he1, h⟩ := zC1_inv h
  refine y_callV (pc' := 9) (y := zmM_cells) (a' := []) (st' := [.int x2]) rfl rfl rfl rfl rfl (zrecv_o (o := 10) zc_866 rfl) rfl he1 rfl rfl ?_
  rcases zif_inv h with ⟨hc4, h⟩ | ⟨hc4, h⟩
  · refine y_cmp (pc' := 12) rfl rfl (zc_geF hc4) rfl ?_
    refine y_pure (pc' := 13) (st' := [.int x1]) rfl rfl ?_
    refine y_pure (pc' := 14) (st' := [.ref 866, .int x1]) rfl rfl ?_
    refine y_pure (pc' := 15) (st' := [.int x2, .ref 866, .int x1]) rfl rfl ?_
    obtain ⟨v7, M6, he5, h⟩ := zC1_inv h
    refine y_callV (pc' := 18) (y := zmM_isOpen) (a' := [.int x2]) (st' := [.int x1]) rfl rfl rfl rfl rfl (zrecv_o (o := 10) zc_866 rfl) rfl he5 rfl rfl ?_
    rcases zif_inv h with ⟨hc8, h⟩ | ⟨hc8, h⟩
    · refine y_cnd (pc' := 33) rfl rfl (zc_eqT hc8) rfl ?_
      refine y_pure (pc' := 34) (st' := [.int (nI 0), .int x1]) rfl rfl ?_
      refine y_pure (pc' := 35) (st' := [.int (x1 + (nI 0))]) rfl rfl ?_
      refine y_pure (pc' := 36) (ls' := [(0, .ref 866), (1, .int (x1 + (nI 0))), (2, .int x2)]) (st' := []) rfl rfl ?_
      refine y_pure (pc' := 39) (ls' := [(0, .ref 866), (1, .int (x1 + (nI 0))), (2, .int (x2 + (nI 1)))]) (st' := []) rfl rfl ?_
      refine y_pure (pc' := 4) rfl rfl ?_
      refine zEx_sub ?_ h
      exact ⟨rfl, rfl, rfl, trivial⟩
    · refine y_cnd (pc' := 21) rfl rfl (zc_eqF hc8) rfl ?_
      refine y_pure (pc' := 22) (st' := [.ref 866, .int x1]) rfl rfl ?_
      refine y_pure (pc' := 23) (st' := [.int x2, .ref 866, .int x1]) rfl rfl ?_
      obtain ⟨v11, M10, he9, h⟩ := zC1_inv h
      refine y_callV (pc' := 26) (y := zmM_isDone) (a' := [.int x2]) (st' := [.int x1]) rfl rfl rfl rfl rfl (zrecv_o (o := 10) zc_866 rfl) rfl he9 rfl rfl ?_
      rcases zif_inv h with ⟨hc12, h⟩ | ⟨hc12, h⟩
      · refine y_cnd (pc' := 29) rfl rfl (zc_neF hc12) rfl ?_
        refine y_pure (pc' := 30) (st' := [.int (nI 1), .int x1]) rfl rfl ?_
        refine y_pure (pc' := 34) rfl rfl ?_
        refine y_pure (pc' := 35) (st' := [.int (x1 + (nI 1))]) rfl rfl ?_
        refine y_pure (pc' := 36) (ls' := [(0, .ref 866), (1, .int (x1 + (nI 1))), (2, .int x2)]) (st' := []) rfl rfl ?_
        refine y_pure (pc' := 39) (ls' := [(0, .ref 866), (1, .int (x1 + (nI 1))), (2, .int (x2 + (nI 1)))]) (st' := []) rfl rfl ?_
        refine y_pure (pc' := 4) rfl rfl ?_
        refine zEx_sub ?_ h
        exact ⟨rfl, rfl, rfl, trivial⟩
      · refine y_cnd (pc' := 33) rfl rfl (zc_neT hc12) rfl ?_
        refine y_pure (pc' := 34) (st' := [.int (nI 0), .int x1]) rfl rfl ?_
        refine y_pure (pc' := 35) (st' := [.int (x1 + (nI 0))]) rfl rfl ?_
        refine y_pure (pc' := 36) (ls' := [(0, .ref 866), (1, .int (x1 + (nI 0))), (2, .int x2)]) (st' := []) rfl rfl ?_
        refine y_pure (pc' := 39) (ls' := [(0, .ref 866), (1, .int (x1 + (nI 0))), (2, .int (x2 + (nI 1)))]) (st' := []) rfl rfl ?_
        refine y_pure (pc' := 4) rfl rfl ?_
        refine zEx_sub ?_ h
        exact ⟨rfl, rfl, rfl, trivial⟩
  · refine y_cmp (pc' := 42) rfl rfl (zc_geT hc4) rfl ?_
    refine y_pure (pc' := 43) (st' := [.int x1]) rfl rfl ?_
    exact y_ret rfl rfl rfl rfl h
theorem e_M_notDone {d : Nat}  {M : ZM} {r : ZR}  (h : h_M_notDone_4 d (nI 0) (nI 0) M = some r) : zEv (d + 1) zmM_notDone [.ref 866] M = some r := by
  rw [zEv_succ]
  show zEx0 (zEv d) zmM_notDone (0, [(0, .ref 866)], [], M) = some r
  refine y_pure (pc' := 1) (st' := [.int (nI 0)]) rfl rfl ?_
  refine y_pure (pc' := 2) (ls' := [(0, .ref 866), (1, .int (nI 0))]) (st' := []) rfl rfl ?_
  refine y_pure (pc' := 3) (st' := [.int (nI 0)]) rfl rfl ?_
  refine y_pure (pc' := 4) (ls' := [(0, .ref 866), (1, .int (nI 0)), (2, .int (nI 0))]) (st' := []) rfl rfl ?_
  refine zEx_sub ?_ h
  exact ⟨rfl, rfl, rfl, trivial⟩
theorem e_M_weighed {d : Nat} {x1 : Int32} {M : ZM} {r : ZR}  (h : (if x1 = (nI 0) then some (some (.int (M.1 866 17)), M) else (if x1 = (nI 1) then some (some (.int (M.1 866 18)), M) else (if x1 = (nI 2) then zC1 (zEv d zmM_notDone [.ref 866] M) (fun v7 M6 => some (some (.int v7), M6)) else (if x1 = (nI 3) then zC1 (zEv d zmM_isBroken [.ref 866] M) (fun v10 M9 => (if v10 = (nI 0) then some (some (.int (nI 0)), M9) else some (some (.int (nI 1)), M9))) else zC1 (zEv d zmM_isOpen [.ref 866, .int (x1 - (nI 10))] M) (fun v14 M13 => (if v14 = (nI 0) then some (some (.int (nI 0)), M13) else zC1 (zEv d zmM_marks [.ref 866, .int (x1 - (nI 10))] M13) (fun v18 M17 => some (some (.int v18), M17)))))))) = some r) : zEv (d + 1) zmM_weighed [.ref 866, .int x1] M = some r := by
  rw [zEv_succ]
  show zEx0 (zEv d) zmM_weighed (0, [(0, .ref 866), (1, .int x1)], [], M) = some r
  refine y_pure (pc' := 1) (st' := [.int x1]) rfl rfl ?_
  rcases zif_inv h with ⟨hc1, h⟩ | ⟨hc1, h⟩
  · refine y_sw (k := 0) (t := 32) rfl (by rw [hc1]; decide) (by decide) rfl rfl ?_
    refine y_pure (pc' := 33) (st' := [.ref 866]) rfl rfl ?_
    refine y_getf (pc' := 36) (v := .int (M.1 866 17)) rfl rfl rfl zc_866 rfl rfl ?_
    exact y_ret rfl rfl rfl rfl h
  · rcases zif_inv h with ⟨hc2, h⟩ | ⟨hc2, h⟩
    · refine y_sw (k := 1) (t := 37) rfl (by rw [hc2]; decide) (by decide) rfl rfl ?_
      refine y_pure (pc' := 38) (st' := [.ref 866]) rfl rfl ?_
      refine y_getf (pc' := 41) (v := .int (M.1 866 18)) rfl rfl rfl zc_866 rfl rfl ?_
      exact y_ret rfl rfl rfl rfl h
    · rcases zif_inv h with ⟨hc3, h⟩ | ⟨hc3, h⟩
      · refine y_sw (k := 2) (t := 42) rfl (by rw [hc3]; decide) (by decide) rfl rfl ?_
        refine y_pure (pc' := 43) (st' := [.ref 866]) rfl rfl ?_
        obtain ⟨v7, M6, he5, h⟩ := zC1_inv h
        refine y_callV (pc' := 46) (y := zmM_notDone) (a' := []) (st' := []) rfl rfl rfl rfl rfl (zrecv_o (o := 10) zc_866 rfl) rfl he5 rfl rfl ?_
        exact y_ret rfl rfl rfl rfl h
      · rcases zif_inv h with ⟨hc4, h⟩ | ⟨hc4, h⟩
        · refine y_sw (k := 3) (t := 47) rfl (by rw [hc4]; decide) (by decide) rfl rfl ?_
          refine y_pure (pc' := 48) (st' := [.ref 866]) rfl rfl ?_
          obtain ⟨v10, M9, he8, h⟩ := zC1_inv h
          refine y_callV (pc' := 51) (y := zmM_isBroken) (a' := []) (st' := []) rfl rfl rfl rfl rfl (zrecv_o (o := 10) zc_866 rfl) rfl he8 rfl rfl ?_
          rcases zif_inv h with ⟨hc11, h⟩ | ⟨hc11, h⟩
          · refine y_cnd (pc' := 58) rfl rfl (zc_eqT hc11) rfl ?_
            refine y_pure (pc' := 59) (st' := [.int (nI 0)]) rfl rfl ?_
            exact y_ret rfl rfl rfl rfl h
          · refine y_cnd (pc' := 54) rfl rfl (zc_eqF hc11) rfl ?_
            refine y_pure (pc' := 55) (st' := [.int (nI 1)]) rfl rfl ?_
            refine y_pure (pc' := 59) rfl rfl ?_
            exact y_ret rfl rfl rfl rfl h
        · refine y_swD (t := 60) rfl (by have q0 := zsw_ne (k := 0) (by decide) hc1; have q1 := zsw_ne (k := 1) (by decide) hc2; have q2 := zsw_ne (k := 2) (by decide) hc3; have q3 := zsw_ne (k := 3) (by decide) hc4; omega) rfl ?_
          refine y_pure (pc' := 61) (st' := [.ref 866]) rfl rfl ?_
          refine y_pure (pc' := 62) (st' := [.int x1, .ref 866]) rfl rfl ?_
          refine y_pure (pc' := 64) (st' := [.int (nI 10), .int x1, .ref 866]) rfl rfl ?_
          refine y_pure (pc' := 65) (st' := [.int (x1 - (nI 10)), .ref 866]) rfl rfl ?_
          obtain ⟨v14, M13, he12, h⟩ := zC1_inv h
          refine y_callV (pc' := 68) (y := zmM_isOpen) (a' := [.int (x1 - (nI 10))]) (st' := []) rfl rfl rfl rfl rfl (zrecv_o (o := 10) zc_866 rfl) rfl he12 rfl rfl ?_
          rcases zif_inv h with ⟨hc15, h⟩ | ⟨hc15, h⟩
          · refine y_cnd (pc' := 82) rfl rfl (zc_eqT hc15) rfl ?_
            refine y_pure (pc' := 83) (st' := [.int (nI 0)]) rfl rfl ?_
            exact y_ret rfl rfl rfl rfl h
          · refine y_cnd (pc' := 71) rfl rfl (zc_eqF hc15) rfl ?_
            refine y_pure (pc' := 72) (st' := [.ref 866]) rfl rfl ?_
            refine y_pure (pc' := 73) (st' := [.int x1, .ref 866]) rfl rfl ?_
            refine y_pure (pc' := 75) (st' := [.int (nI 10), .int x1, .ref 866]) rfl rfl ?_
            refine y_pure (pc' := 76) (st' := [.int (x1 - (nI 10)), .ref 866]) rfl rfl ?_
            obtain ⟨v18, M17, he16, h⟩ := zC1_inv h
            refine y_callV (pc' := 79) (y := zmM_marks) (a' := [.int (x1 - (nI 10))]) (st' := []) rfl rfl rfl rfl rfl (zrecv_o (o := 10) zc_866 rfl) rfl he16 rfl rfl ?_
            refine y_pure (pc' := 83) rfl rfl ?_
            exact y_ret rfl rfl rfl rfl h
theorem e_M_weight {d : Nat} {x1 : Int32} {M : ZM} {r : ZR}  (h : zC1 (zEv d zmM_isBoard [.ref 866] M) (fun v3 M2 => (if v3 = (nI 0) then some (some (.int (-1 : Int32)), M2) else zC1 (zEv d zmM_in [.long (Int32.toInt64 x1), .long (nJ 0), .long (nJ 3)] M2) (fun v7 M6 => (if v7 = (nI 0) then zC1 (zEv d zmM_isCell [.ref 866, .int (x1 - (nI 10))] M6) (fun v11 M10 => (if v11 = (nI 0) then some (some (.int (-1 : Int32)), M10) else zC0 (zEv d zmM_putsAside [.ref 866] M10) (fun M14 => zC0 (zEv d zmM_goesAll [.ref 866] M14) (fun M16 => zC1 (zEv d zmM_weighed [.ref 866, .int x1] M16) (fun v19 M18 => zC0 (zEv d zmM_takesBack [.ref 866] M18) (fun M21 => some (some (.int v19), M21))))))) else zC0 (zEv d zmM_putsAside [.ref 866] M6) (fun M23 => zC0 (zEv d zmM_goesAll [.ref 866] M23) (fun M25 => zC1 (zEv d zmM_weighed [.ref 866, .int x1] M25) (fun v28 M27 => zC0 (zEv d zmM_takesBack [.ref 866] M27) (fun M30 => some (some (.int v28), M30))))))))) = some r) : zEv (d + 1) zmM_weight [.ref 866, .int x1] M = some r := by
  rw [zEv_succ]
  show zEx0 (zEv d) zmM_weight (0, [(0, .ref 866), (1, .int x1)], [], M) = some r
  refine y_pure (pc' := 1) (st' := [.ref 866]) rfl rfl ?_
  obtain ⟨v3, M2, he1, h⟩ := zC1_inv h
  refine y_callV (pc' := 4) (y := zmM_isBoard) (a' := []) (st' := []) rfl rfl rfl rfl rfl (zrecv_o (o := 10) zc_866 rfl) rfl he1 rfl rfl ?_
  rcases zif_inv h with ⟨hc4, h⟩ | ⟨hc4, h⟩
  · refine y_cnd (pc' := 30) rfl rfl (zc_eqT hc4) rfl ?_
    refine y_pure (pc' := 31) (st' := [.int (-1 : Int32)]) rfl rfl ?_
    exact y_ret rfl rfl rfl rfl h
  · refine y_cnd (pc' := 7) rfl rfl (zc_eqF hc4) rfl ?_
    refine y_pure (pc' := 8) (st' := [.int x1]) rfl rfl ?_
    refine y_pure (pc' := 9) (st' := [.long (Int32.toInt64 x1)]) rfl rfl ?_
    refine y_pure (pc' := 10) (st' := [.long (nJ 0), .long (Int32.toInt64 x1)]) rfl rfl ?_
    refine y_pure (pc' := 13) (st' := [.long (nJ 3), .long (nJ 0), .long (Int32.toInt64 x1)]) rfl rfl ?_
    obtain ⟨v7, M6, he5, h⟩ := zC1_inv h
    refine y_callS (pc' := 16) (y := zmM_in) (a := [.long (Int32.toInt64 x1), .long (nJ 0), .long (nJ 3)]) (st' := []) rfl rfl rfl rfl rfl rfl he5 rfl rfl ?_
    rcases zif_inv h with ⟨hc8, h⟩ | ⟨hc8, h⟩
    · refine y_cnd (pc' := 19) rfl rfl (zc_neF hc8) rfl ?_
      refine y_pure (pc' := 20) (st' := [.ref 866]) rfl rfl ?_
      refine y_pure (pc' := 21) (st' := [.int x1, .ref 866]) rfl rfl ?_
      refine y_pure (pc' := 23) (st' := [.int (nI 10), .int x1, .ref 866]) rfl rfl ?_
      refine y_pure (pc' := 24) (st' := [.int (x1 - (nI 10)), .ref 866]) rfl rfl ?_
      obtain ⟨v11, M10, he9, h⟩ := zC1_inv h
      refine y_callV (pc' := 27) (y := zmM_isCell) (a' := [.int (x1 - (nI 10))]) (st' := []) rfl rfl rfl rfl rfl (zrecv_o (o := 10) zc_866 rfl) rfl he9 rfl rfl ?_
      rcases zif_inv h with ⟨hc12, h⟩ | ⟨hc12, h⟩
      · refine y_cnd (pc' := 30) rfl rfl (zc_neF hc12) rfl ?_
        refine y_pure (pc' := 31) (st' := [.int (-1 : Int32)]) rfl rfl ?_
        exact y_ret rfl rfl rfl rfl h
      · refine y_cnd (pc' := 32) rfl rfl (zc_neT hc12) rfl ?_
        refine y_pure (pc' := 33) (st' := [.ref 866]) rfl rfl ?_
        obtain ⟨M14, he13, h⟩ := zC0_inv h
        refine y_callV (pc' := 36) (y := zmM_putsAside) (a' := []) (st' := []) rfl rfl rfl rfl rfl (zrecv_o (o := 10) zc_866 rfl) rfl he13 rfl rfl ?_
        refine y_pure (pc' := 37) (st' := [.ref 866]) rfl rfl ?_
        obtain ⟨M16, he15, h⟩ := zC0_inv h
        refine y_callV (pc' := 40) (y := zmM_goesAll) (a' := []) (st' := []) rfl rfl rfl rfl rfl (zrecv_o (o := 10) zc_866 rfl) rfl he15 rfl rfl ?_
        refine y_pure (pc' := 41) (st' := [.ref 866]) rfl rfl ?_
        refine y_pure (pc' := 42) (st' := [.int x1, .ref 866]) rfl rfl ?_
        obtain ⟨v19, M18, he17, h⟩ := zC1_inv h
        refine y_callV (pc' := 45) (y := zmM_weighed) (a' := [.int x1]) (st' := []) rfl rfl rfl rfl rfl (zrecv_o (o := 10) zc_866 rfl) rfl he17 rfl rfl ?_
        refine y_pure (pc' := 46) (ls' := [(0, .ref 866), (1, .int x1), (2, .int v19)]) (st' := []) rfl rfl ?_
        refine y_pure (pc' := 47) (st' := [.ref 866]) rfl rfl ?_
        obtain ⟨M21, he20, h⟩ := zC0_inv h
        refine y_callV (pc' := 50) (y := zmM_takesBack) (a' := []) (st' := []) rfl rfl rfl rfl rfl (zrecv_o (o := 10) zc_866 rfl) rfl he20 rfl rfl ?_
        refine y_pure (pc' := 51) (st' := [.int v19]) rfl rfl ?_
        exact y_ret rfl rfl rfl rfl h
    · refine y_cnd (pc' := 32) rfl rfl (zc_neT hc8) rfl ?_
      refine y_pure (pc' := 33) (st' := [.ref 866]) rfl rfl ?_
      obtain ⟨M23, he22, h⟩ := zC0_inv h
      refine y_callV (pc' := 36) (y := zmM_putsAside) (a' := []) (st' := []) rfl rfl rfl rfl rfl (zrecv_o (o := 10) zc_866 rfl) rfl he22 rfl rfl ?_
      refine y_pure (pc' := 37) (st' := [.ref 866]) rfl rfl ?_
      obtain ⟨M25, he24, h⟩ := zC0_inv h
      refine y_callV (pc' := 40) (y := zmM_goesAll) (a' := []) (st' := []) rfl rfl rfl rfl rfl (zrecv_o (o := 10) zc_866 rfl) rfl he24 rfl rfl ?_
      refine y_pure (pc' := 41) (st' := [.ref 866]) rfl rfl ?_
      refine y_pure (pc' := 42) (st' := [.int x1, .ref 866]) rfl rfl ?_
      obtain ⟨v28, M27, he26, h⟩ := zC1_inv h
      refine y_callV (pc' := 45) (y := zmM_weighed) (a' := [.int x1]) (st' := []) rfl rfl rfl rfl rfl (zrecv_o (o := 10) zc_866 rfl) rfl he26 rfl rfl ?_
      refine y_pure (pc' := 46) (ls' := [(0, .ref 866), (1, .int x1), (2, .int v28)]) (st' := []) rfl rfl ?_
      refine y_pure (pc' := 47) (st' := [.ref 866]) rfl rfl ?_
      obtain ⟨M30, he29, h⟩ := zC0_inv h
      refine y_callV (pc' := 50) (y := zmM_takesBack) (a' := []) (st' := []) rfl rfl rfl rfl rfl (zrecv_o (o := 10) zc_866 rfl) rfl he29 rfl rfl ?_
      refine y_pure (pc' := 51) (st' := [.int v28]) rfl rfl ?_
      exact y_ret rfl rfl rfl rfl h
noncomputable def h_M_haveWays_8 (d : Nat) (x2 : Int32) (x3 : Int32) (M : ZM) : Option ZR := zEx0 (zEv d) zmM_haveWays (8, [(0, .ref 866), (2, .int x2), (3, .int x3)], [], M)
theorem e_M_haveWays_8 {d : Nat} {x2 : Int32} {x3 : Int32} {M : ZM} {r : ZR}  (h : zC1 (zEv d zmM_cages [.ref 866] M) (fun v3 M2 => (if x3 < v3 then zC1 (zEv d zmM_holds [.int x2, .int x3] M2) (fun v7 M6 => (if v7 = (nI 0) then h_M_haveWays_8 d x2 (x3 + (nI 1)) M6 else zC1 (zEv d zmM_hasWay [.ref 866, .int x3] M6) (fun v11 M10 => (if v11 = (nI 0) then some (some (.int (nI 0)), M10) else h_M_haveWays_8 d x2 (x3 + (nI 1)) M10)))) else some (some (.int (nI 1)), M2))) = some r) : h_M_haveWays_8 d x2 x3 M = some r := by
  show zEx0 (zEv d) zmM_haveWays (8, [(0, .ref 866), (2, .int x2), (3, .int x3)], [], M) = some r
  refine y_pure (pc' := 9) (st' := [.int x3]) rfl rfl ?_
  refine y_pure (pc' := 10) (st' := [.ref 866, .int x3]) rfl rfl ?_
  obtain ⟨v3, M2, he1, h⟩ := zC1_inv h
  refine y_callV (pc' := 13) (y := zmM_cages) (a' := []) (st' := [.int x3]) rfl rfl rfl rfl rfl (zrecv_o (o := 10) zc_866 rfl) rfl he1 rfl rfl ?_
  rcases zif_inv h with ⟨hc4, h⟩ | ⟨hc4, h⟩
  · refine y_cmp (pc' := 16) rfl rfl (zc_geF hc4) rfl ?_
    refine y_pure (pc' := 17) (st' := [.int x2]) rfl rfl ?_
    refine y_pure (pc' := 18) (st' := [.int x3, .int x2]) rfl rfl ?_
    obtain ⟨v7, M6, he5, h⟩ := zC1_inv h
    refine y_callS (pc' := 21) (y := zmM_holds) (a := [.int x2, .int x3]) (st' := []) rfl rfl rfl rfl rfl rfl he5 rfl rfl ?_
    rcases zif_inv h with ⟨hc8, h⟩ | ⟨hc8, h⟩
    · refine y_cnd (pc' := 34) rfl rfl (zc_eqT hc8) rfl ?_
      refine y_pure (pc' := 37) (ls' := [(0, .ref 866), (2, .int x2), (3, .int (x3 + (nI 1)))]) (st' := []) rfl rfl ?_
      refine y_pure (pc' := 8) rfl rfl ?_
      refine zEx_sub ?_ h
      exact ⟨rfl, rfl, rfl, trivial⟩
    · refine y_cnd (pc' := 24) rfl rfl (zc_eqF hc8) rfl ?_
      refine y_pure (pc' := 25) (st' := [.ref 866]) rfl rfl ?_
      refine y_pure (pc' := 26) (st' := [.int x3, .ref 866]) rfl rfl ?_
      obtain ⟨v11, M10, he9, h⟩ := zC1_inv h
      refine y_callV (pc' := 29) (y := zmM_hasWay) (a' := [.int x3]) (st' := []) rfl rfl rfl rfl rfl (zrecv_o (o := 10) zc_866 rfl) rfl he9 rfl rfl ?_
      rcases zif_inv h with ⟨hc12, h⟩ | ⟨hc12, h⟩
      · refine y_cnd (pc' := 32) rfl rfl (zc_neF hc12) rfl ?_
        refine y_pure (pc' := 33) (st' := [.int (nI 0)]) rfl rfl ?_
        exact y_retZ rfl rfl (by decide) h
      · refine y_cnd (pc' := 34) rfl rfl (zc_neT hc12) rfl ?_
        refine y_pure (pc' := 37) (ls' := [(0, .ref 866), (2, .int x2), (3, .int (x3 + (nI 1)))]) (st' := []) rfl rfl ?_
        refine y_pure (pc' := 8) rfl rfl ?_
        refine zEx_sub ?_ h
        exact ⟨rfl, rfl, rfl, trivial⟩
  · refine y_cmp (pc' := 40) rfl rfl (zc_geT hc4) rfl ?_
    refine y_pure (pc' := 41) (st' := [.int (nI 1)]) rfl rfl ?_
    exact y_retZ rfl rfl (by decide) h
theorem e_M_haveWays {d : Nat} {x1 : Int32} {M : ZM} {r : ZR}  (h : zC1 (zEv d zmM_cagesOf [.ref 866, .int x1] M) (fun v3 M2 => h_M_haveWays_8 d v3 (nI 0) M2) = some r) : zEv (d + 1) zmM_haveWays [.ref 866, .int x1] M = some r := by
  rw [zEv_succ]
  show zEx0 (zEv d) zmM_haveWays (0, [(0, .ref 866), (1, .int x1)], [], M) = some r
  refine y_pure (pc' := 1) (st' := [.ref 866]) rfl rfl ?_
  refine y_pure (pc' := 2) (st' := [.int x1, .ref 866]) rfl rfl ?_
  obtain ⟨v3, M2, he1, h⟩ := zC1_inv h
  refine y_callV (pc' := 5) (y := zmM_cagesOf) (a' := [.int x1]) (st' := []) rfl rfl rfl rfl rfl (zrecv_o (o := 10) zc_866 rfl) rfl he1 rfl rfl ?_
  refine y_pure (pc' := 6) (ls' := [(0, .ref 866), (1, .int x1), (2, .int v3)]) (st' := []) rfl rfl ?_
  refine y_pure (pc' := 7) (st' := [.int (nI 0)]) rfl rfl ?_
  refine y_pure (pc' := 8) (ls' := [(0, .ref 866), (1, .int x1), (2, .int v3), (3, .int (nI 0))]) (st' := []) rfl rfl ?_
  refine zEx_sub ?_ h
  exact ⟨rfl, rfl, rfl, trivial⟩
noncomputable def h_M_parts_2 (d : Nat) (x1 : Int32) (M : ZM) : Option ZR := zEx0 (zEv d) zmM_parts (2, [(0, .ref 866), (1, .int x1)], [], M)
noncomputable def h_M_parts_25 (d : Nat) (x1 : Int32) (M : ZM) : Option ZR := zEx0 (zEv d) zmM_parts (25, [(0, .ref 866), (1, .int x1)], [], M)
noncomputable def h_M_parts_33 (d : Nat) (x1 : Int32) (x2 : Int32) (M : ZM) : Option ZR := zEx0 (zEv d) zmM_parts (33, [(0, .ref 866), (1, .int x1), (2, .int x2)], [], M)
noncomputable def h_M_parts_56 (d : Nat) (x1 : Int32) (x2 : Int32) (x3 : Int32) (x4 : Int32) (M : ZM) : Option ZR := zEx0 (zEv d) zmM_parts (56, [(0, .ref 866), (1, .int x1), (2, .int x2), (3, .int x3), (4, .int x4)], [], M)
noncomputable def h_M_parts_93 (d : Nat) (x1 : Int32) (x2 : Int32) (x3 : Int32) (x4 : Int32) (M : ZM) : Option ZR := zEx0 (zEv d) zmM_parts (93, [(0, .ref 866), (1, .int x1), (2, .int x2), (3, .int x3), (4, .int x4)], [], M)
theorem e_M_parts_2 {d : Nat} {x1 : Int32} {M : ZM} {r : ZR}  (h : zC1 (zEv d zmM_cells [.ref 866] M) (fun v3 M2 => (if x1 < v3 then (if zin x1 36 = true then h_M_parts_2 d (x1 + (nI 1)) (zpi M2 877 (Int32.toNatClampNeg x1) x1) else none) else h_M_parts_25 d (nI 1) M2)) = some r) : h_M_parts_2 d x1 M = some r := by
  show zEx0 (zEv d) zmM_parts (2, [(0, .ref 866), (1, .int x1)], [], M) = some r
  refine y_pure (pc' := 3) (st' := [.int x1]) rfl rfl ?_
  refine y_pure (pc' := 4) (st' := [.ref 866, .int x1]) rfl rfl ?_
  obtain ⟨v3, M2, he1, h⟩ := zC1_inv h
  refine y_callV (pc' := 7) (y := zmM_cells) (a' := []) (st' := [.int x1]) rfl rfl rfl rfl rfl (zrecv_o (o := 10) zc_866 rfl) rfl he1 rfl rfl ?_
  rcases zif_inv h with ⟨hc4, h⟩ | ⟨hc4, h⟩
  · refine y_cmp (pc' := 10) rfl rfl (zc_geF hc4) rfl ?_
    refine y_pure (pc' := 11) (st' := [.ref 866]) rfl rfl ?_
    refine y_getf (pc' := 14) (v := .ref 877) rfl rfl rfl zc_866 rfl rfl ?_
    refine y_pure (pc' := 15) (st' := [.int x1, .ref 877]) rfl rfl ?_
    refine y_pure (pc' := 16) (st' := [.int x1, .int x1, .ref 877]) rfl rfl ?_
    obtain ⟨hi5, h⟩ := zg_inv h
    refine y_iast (pc' := 17) rfl zc_877 hi5 rfl ?_
    refine y_pure (pc' := 20) (ls' := [(0, .ref 866), (1, .int (x1 + (nI 1)))]) (st' := []) rfl rfl ?_
    refine y_pure (pc' := 2) rfl rfl ?_
    refine zEx_sub ?_ h
    exact ⟨rfl, rfl, trivial⟩
  · refine y_cmp (pc' := 23) rfl rfl (zc_geT hc4) rfl ?_
    refine y_pure (pc' := 24) (st' := [.int (nI 1)]) rfl rfl ?_
    refine y_pure (pc' := 25) (ls' := [(0, .ref 866), (1, .int (nI 1))]) (st' := []) rfl rfl ?_
    refine zEx_sub ?_ h
    exact ⟨rfl, rfl, trivial⟩
theorem e_M_parts_25 {d : Nat} {x1 : Int32} {M : ZM} {r : ZR}  (h : (if x1 = (nI 0) then some (none, M) else h_M_parts_33 d (nI 0) (nI 0) M) = some r) : h_M_parts_25 d x1 M = some r := by
  show zEx0 (zEv d) zmM_parts (25, [(0, .ref 866), (1, .int x1)], [], M) = some r
  refine y_pure (pc' := 26) (st' := [.int x1]) rfl rfl ?_
  rcases zif_inv h with ⟨hc1, h⟩ | ⟨hc1, h⟩
  · refine y_cnd (pc' := 158) rfl rfl (zc_eqT hc1) rfl ?_
    exact y_ret rfl rfl rfl rfl h
  · refine y_cnd (pc' := 29) rfl rfl (zc_eqF hc1) rfl ?_
    refine y_pure (pc' := 30) (st' := [.int (nI 0)]) rfl rfl ?_
    refine y_pure (pc' := 31) (ls' := [(0, .ref 866), (1, .int (nI 0))]) (st' := []) rfl rfl ?_
    refine y_pure (pc' := 32) (st' := [.int (nI 0)]) rfl rfl ?_
    refine y_pure (pc' := 33) (ls' := [(0, .ref 866), (1, .int (nI 0)), (2, .int (nI 0))]) (st' := []) rfl rfl ?_
    refine zEx_sub ?_ h
    exact ⟨rfl, rfl, rfl, trivial⟩
theorem e_M_parts_33 {d : Nat} {x1 : Int32} {x2 : Int32} {M : ZM} {r : ZR}  (h : zC1 (zEv d zmM_cages [.ref 866] M) (fun v3 M2 => (if x2 < v3 then zC1 (zEv d zmM_cellOf [.ref 866, .int x2, .int (nI 0)] M2) (fun v7 M6 => (if zin v7 36 = true then h_M_parts_56 d x1 x2 (M6.1 877 (Int32.toNatClampNeg v7)) (nI 0) M6 else none)) else h_M_parts_25 d x1 M2)) = some r) : h_M_parts_33 d x1 x2 M = some r := by
  show zEx0 (zEv d) zmM_parts (33, [(0, .ref 866), (1, .int x1), (2, .int x2)], [], M) = some r
  refine y_pure (pc' := 34) (st' := [.int x2]) rfl rfl ?_
  refine y_pure (pc' := 35) (st' := [.ref 866, .int x2]) rfl rfl ?_
  obtain ⟨v3, M2, he1, h⟩ := zC1_inv h
  refine y_callV (pc' := 38) (y := zmM_cages) (a' := []) (st' := [.int x2]) rfl rfl rfl rfl rfl (zrecv_o (o := 10) zc_866 rfl) rfl he1 rfl rfl ?_
  rcases zif_inv h with ⟨hc4, h⟩ | ⟨hc4, h⟩
  · refine y_cmp (pc' := 41) rfl rfl (zc_geF hc4) rfl ?_
    refine y_pure (pc' := 42) (st' := [.ref 866]) rfl rfl ?_
    refine y_getf (pc' := 45) (v := .ref 877) rfl rfl rfl zc_866 rfl rfl ?_
    refine y_pure (pc' := 46) (st' := [.ref 866, .ref 877]) rfl rfl ?_
    refine y_pure (pc' := 47) (st' := [.int x2, .ref 866, .ref 877]) rfl rfl ?_
    refine y_pure (pc' := 48) (st' := [.int (nI 0), .int x2, .ref 866, .ref 877]) rfl rfl ?_
    obtain ⟨v7, M6, he5, h⟩ := zC1_inv h
    refine y_callV (pc' := 51) (y := zmM_cellOf) (a' := [.int x2, .int (nI 0)]) (st' := [.ref 877]) rfl rfl rfl rfl rfl (zrecv_o (o := 10) zc_866 rfl) rfl he5 rfl rfl ?_
    obtain ⟨hi8, h⟩ := zg_inv h
    refine y_iald (pc' := 52) rfl zc_877 hi8 rfl ?_
    refine y_pure (pc' := 53) (ls' := [(0, .ref 866), (1, .int x1), (2, .int x2), (3, .int (M6.1 877 (Int32.toNatClampNeg v7)))]) (st' := []) rfl rfl ?_
    refine y_pure (pc' := 54) (st' := [.int (nI 0)]) rfl rfl ?_
    refine y_pure (pc' := 56) (ls' := [(0, .ref 866), (1, .int x1), (2, .int x2), (3, .int (M6.1 877 (Int32.toNatClampNeg v7))), (4, .int (nI 0))]) (st' := []) rfl rfl ?_
    refine zEx_sub ?_ h
    exact ⟨rfl, rfl, rfl, rfl, rfl, trivial⟩
  · refine y_cmp (pc' := 155) rfl rfl (zc_geT hc4) rfl ?_
    refine y_pure (pc' := 25) rfl rfl ?_
    refine zEx_sub ?_ h
    exact ⟨rfl, rfl, trivial⟩
theorem e_M_parts_56 {d : Nat} {x1 : Int32} {x2 : Int32} {x3 : Int32} {x4 : Int32} {M : ZM} {r : ZR}  (h : zC1 (zEv d zmM_of [.ref 866, .int x2, .int (nI 3)] M) (fun v3 M2 => (if x4 < v3 then zC1 (zEv d zmM_cellOf [.ref 866, .int x2, .int x4] M2) (fun v7 M6 => (if zin v7 36 = true then zC1 (zEv d zmJM_min [.int x3, .int (M6.1 877 (Int32.toNatClampNeg v7))] M6) (fun v11 M10 => h_M_parts_56 d x1 x2 v11 (x4 + (nI 1)) M10) else none)) else h_M_parts_93 d x1 x2 x3 (nI 0) M2)) = some r) : h_M_parts_56 d x1 x2 x3 x4 M = some r := by
  show zEx0 (zEv d) zmM_parts (56, [(0, .ref 866), (1, .int x1), (2, .int x2), (3, .int x3), (4, .int x4)], [], M) = some r
  refine y_pure (pc' := 58) (st' := [.int x4]) rfl rfl ?_
  refine y_pure (pc' := 59) (st' := [.ref 866, .int x4]) rfl rfl ?_
  refine y_pure (pc' := 60) (st' := [.int x2, .ref 866, .int x4]) rfl rfl ?_
  refine y_pure (pc' := 61) (st' := [.int (nI 3), .int x2, .ref 866, .int x4]) rfl rfl ?_
  obtain ⟨v3, M2, he1, h⟩ := zC1_inv h
  refine y_callV (pc' := 64) (y := zmM_of) (a' := [.int x2, .int (nI 3)]) (st' := [.int x4]) rfl rfl rfl rfl rfl (zrecv_o (o := 10) zc_866 rfl) rfl he1 rfl rfl ?_
  rcases zif_inv h with ⟨hc4, h⟩ | ⟨hc4, h⟩
  · refine y_cmp (pc' := 67) rfl rfl (zc_geF hc4) rfl ?_
    refine y_pure (pc' := 68) (st' := [.int x3]) rfl rfl ?_
    refine y_pure (pc' := 69) (st' := [.ref 866, .int x3]) rfl rfl ?_
    refine y_getf (pc' := 72) (v := .ref 877) rfl rfl rfl zc_866 rfl rfl ?_
    refine y_pure (pc' := 73) (st' := [.ref 866, .ref 877, .int x3]) rfl rfl ?_
    refine y_pure (pc' := 74) (st' := [.int x2, .ref 866, .ref 877, .int x3]) rfl rfl ?_
    refine y_pure (pc' := 76) (st' := [.int x4, .int x2, .ref 866, .ref 877, .int x3]) rfl rfl ?_
    obtain ⟨v7, M6, he5, h⟩ := zC1_inv h
    refine y_callV (pc' := 79) (y := zmM_cellOf) (a' := [.int x2, .int x4]) (st' := [.ref 877, .int x3]) rfl rfl rfl rfl rfl (zrecv_o (o := 10) zc_866 rfl) rfl he5 rfl rfl ?_
    obtain ⟨hi8, h⟩ := zg_inv h
    refine y_iald (pc' := 80) rfl zc_877 hi8 rfl ?_
    obtain ⟨v11, M10, he9, h⟩ := zC1_inv h
    refine y_callS (pc' := 83) (y := zmJM_min) (a := [.int x3, .int (M6.1 877 (Int32.toNatClampNeg v7))]) (st' := []) rfl rfl rfl rfl rfl rfl he9 rfl rfl ?_
    refine y_pure (pc' := 84) (ls' := [(0, .ref 866), (1, .int x1), (2, .int x2), (3, .int v11), (4, .int x4)]) (st' := []) rfl rfl ?_
    refine y_pure (pc' := 87) (ls' := [(0, .ref 866), (1, .int x1), (2, .int x2), (3, .int v11), (4, .int (x4 + (nI 1)))]) (st' := []) rfl rfl ?_
    refine y_pure (pc' := 56) rfl rfl ?_
    refine zEx_sub ?_ h
    exact ⟨rfl, rfl, rfl, rfl, rfl, trivial⟩
  · refine y_cmp (pc' := 90) rfl rfl (zc_geT hc4) rfl ?_
    refine y_pure (pc' := 91) (st' := [.int (nI 0)]) rfl rfl ?_
    refine y_pure (pc' := 93) (ls' := [(0, .ref 866), (1, .int x1), (2, .int x2), (3, .int x3), (4, .int (nI 0))]) (st' := []) rfl rfl ?_
    refine zEx_sub ?_ h
    exact ⟨rfl, rfl, rfl, rfl, rfl, trivial⟩
theorem e_M_parts_93 {d : Nat} {x1 : Int32} {x2 : Int32} {x3 : Int32} {x4 : Int32} {M : ZM} {r : ZR}  (h : zC1 (zEv d zmM_of [.ref 866, .int x2, .int (nI 3)] M) (fun v3 M2 => (if x4 < v3 then (if x1 = (nI 0) then zC1 (zEv d zmM_cellOf [.ref 866, .int x2, .int x4] M2) (fun v8 M7 => (if zin v8 36 = true then (if (M7.1 877 (Int32.toNatClampNeg v8)) = x3 then zC1 (zEv d zmM_cellOf [.ref 866, .int x2, .int x4] M7) (fun v13 M12 => (if zin v13 36 = true then h_M_parts_93 d (nI 0) x2 x3 (x4 + (nI 1)) (zpi M12 877 (Int32.toNatClampNeg v13) x3) else none)) else zC1 (zEv d zmM_cellOf [.ref 866, .int x2, .int x4] M7) (fun v17 M16 => (if zin v17 36 = true then h_M_parts_93 d (nI 1) x2 x3 (x4 + (nI 1)) (zpi M16 877 (Int32.toNatClampNeg v17) x3) else none))) else none)) else zC1 (zEv d zmM_cellOf [.ref 866, .int x2, .int x4] M2) (fun v21 M20 => (if zin v21 36 = true then h_M_parts_93 d (nI 1) x2 x3 (x4 + (nI 1)) (zpi M20 877 (Int32.toNatClampNeg v21) x3) else none))) else h_M_parts_33 d x1 (x2 + (nI 1)) M2)) = some r) : h_M_parts_93 d x1 x2 x3 x4 M = some r := by
  show zEx0 (zEv d) zmM_parts (93, [(0, .ref 866), (1, .int x1), (2, .int x2), (3, .int x3), (4, .int x4)], [], M) = some r
  refine y_pure (pc' := 95) (st' := [.int x4]) rfl rfl ?_
  refine y_pure (pc' := 96) (st' := [.ref 866, .int x4]) rfl rfl ?_
  refine y_pure (pc' := 97) (st' := [.int x2, .ref 866, .int x4]) rfl rfl ?_
  refine y_pure (pc' := 98) (st' := [.int (nI 3), .int x2, .ref 866, .int x4]) rfl rfl ?_
  obtain ⟨v3, M2, he1, h⟩ := zC1_inv h
  refine y_callV (pc' := 101) (y := zmM_of) (a' := [.int x2, .int (nI 3)]) (st' := [.int x4]) rfl rfl rfl rfl rfl (zrecv_o (o := 10) zc_866 rfl) rfl he1 rfl rfl ?_
  rcases zif_inv h with ⟨hc4, h⟩ | ⟨hc4, h⟩
  · refine y_cmp (pc' := 104) rfl rfl (zc_geF hc4) rfl ?_
    refine y_pure (pc' := 105) (st' := [.int x1]) rfl rfl ?_
    rcases zif_inv h with ⟨hc5, h⟩ | ⟨hc5, h⟩
    · refine y_cnd (pc' := 108) rfl rfl (zc_neF hc5) rfl ?_
      refine y_pure (pc' := 109) (st' := [.ref 866]) rfl rfl ?_
      refine y_getf (pc' := 112) (v := .ref 877) rfl rfl rfl zc_866 rfl rfl ?_
      refine y_pure (pc' := 113) (st' := [.ref 866, .ref 877]) rfl rfl ?_
      refine y_pure (pc' := 114) (st' := [.int x2, .ref 866, .ref 877]) rfl rfl ?_
      refine y_pure (pc' := 116) (st' := [.int x4, .int x2, .ref 866, .ref 877]) rfl rfl ?_
      obtain ⟨v8, M7, he6, h⟩ := zC1_inv h
      refine y_callV (pc' := 119) (y := zmM_cellOf) (a' := [.int x2, .int x4]) (st' := [.ref 877]) rfl rfl rfl rfl rfl (zrecv_o (o := 10) zc_866 rfl) rfl he6 rfl rfl ?_
      obtain ⟨hi9, h⟩ := zg_inv h
      refine y_iald (pc' := 120) rfl zc_877 hi9 rfl ?_
      refine y_pure (pc' := 121) (st' := [.int x3, .int (M7.1 877 (Int32.toNatClampNeg v8))]) rfl rfl ?_
      rcases zif_inv h with ⟨hc10, h⟩ | ⟨hc10, h⟩
      · refine y_cmp (pc' := 128) rfl rfl (zc_eqT hc10) rfl ?_
        refine y_pure (pc' := 129) (st' := [.int (nI 0)]) rfl rfl ?_
        refine y_pure (pc' := 130) (ls' := [(0, .ref 866), (1, .int (nI 0)), (2, .int x2), (3, .int x3), (4, .int x4)]) (st' := []) rfl rfl ?_
        refine y_pure (pc' := 131) (st' := [.ref 866]) rfl rfl ?_
        refine y_getf (pc' := 134) (v := .ref 877) rfl rfl rfl zc_866 rfl rfl ?_
        refine y_pure (pc' := 135) (st' := [.ref 866, .ref 877]) rfl rfl ?_
        refine y_pure (pc' := 136) (st' := [.int x2, .ref 866, .ref 877]) rfl rfl ?_
        refine y_pure (pc' := 138) (st' := [.int x4, .int x2, .ref 866, .ref 877]) rfl rfl ?_
        obtain ⟨v13, M12, he11, h⟩ := zC1_inv h
        refine y_callV (pc' := 141) (y := zmM_cellOf) (a' := [.int x2, .int x4]) (st' := [.ref 877]) rfl rfl rfl rfl rfl (zrecv_o (o := 10) zc_866 rfl) rfl he11 rfl rfl ?_
        refine y_pure (pc' := 142) (st' := [.int x3, .int v13, .ref 877]) rfl rfl ?_
        obtain ⟨hi14, h⟩ := zg_inv h
        refine y_iast (pc' := 143) rfl zc_877 hi14 rfl ?_
        refine y_pure (pc' := 146) (ls' := [(0, .ref 866), (1, .int (nI 0)), (2, .int x2), (3, .int x3), (4, .int (x4 + (nI 1)))]) (st' := []) rfl rfl ?_
        refine y_pure (pc' := 93) rfl rfl ?_
        refine zEx_sub ?_ h
        exact ⟨rfl, rfl, rfl, rfl, rfl, trivial⟩
      · refine y_cmp (pc' := 124) rfl rfl (zc_eqF hc10) rfl ?_
        refine y_pure (pc' := 125) (st' := [.int (nI 1)]) rfl rfl ?_
        refine y_pure (pc' := 129) rfl rfl ?_
        refine y_pure (pc' := 130) (ls' := [(0, .ref 866), (1, .int (nI 1)), (2, .int x2), (3, .int x3), (4, .int x4)]) (st' := []) rfl rfl ?_
        refine y_pure (pc' := 131) (st' := [.ref 866]) rfl rfl ?_
        refine y_getf (pc' := 134) (v := .ref 877) rfl rfl rfl zc_866 rfl rfl ?_
        refine y_pure (pc' := 135) (st' := [.ref 866, .ref 877]) rfl rfl ?_
        refine y_pure (pc' := 136) (st' := [.int x2, .ref 866, .ref 877]) rfl rfl ?_
        refine y_pure (pc' := 138) (st' := [.int x4, .int x2, .ref 866, .ref 877]) rfl rfl ?_
        obtain ⟨v17, M16, he15, h⟩ := zC1_inv h
        refine y_callV (pc' := 141) (y := zmM_cellOf) (a' := [.int x2, .int x4]) (st' := [.ref 877]) rfl rfl rfl rfl rfl (zrecv_o (o := 10) zc_866 rfl) rfl he15 rfl rfl ?_
        refine y_pure (pc' := 142) (st' := [.int x3, .int v17, .ref 877]) rfl rfl ?_
        obtain ⟨hi18, h⟩ := zg_inv h
        refine y_iast (pc' := 143) rfl zc_877 hi18 rfl ?_
        refine y_pure (pc' := 146) (ls' := [(0, .ref 866), (1, .int (nI 1)), (2, .int x2), (3, .int x3), (4, .int (x4 + (nI 1)))]) (st' := []) rfl rfl ?_
        refine y_pure (pc' := 93) rfl rfl ?_
        refine zEx_sub ?_ h
        exact ⟨rfl, rfl, rfl, rfl, rfl, trivial⟩
    · refine y_cnd (pc' := 124) rfl rfl (zc_neT hc5) rfl ?_
      refine y_pure (pc' := 125) (st' := [.int (nI 1)]) rfl rfl ?_
      refine y_pure (pc' := 129) rfl rfl ?_
      refine y_pure (pc' := 130) (ls' := [(0, .ref 866), (1, .int (nI 1)), (2, .int x2), (3, .int x3), (4, .int x4)]) (st' := []) rfl rfl ?_
      refine y_pure (pc' := 131) (st' := [.ref 866]) rfl rfl ?_
      refine y_getf (pc' := 134) (v := .ref 877) rfl rfl rfl zc_866 rfl rfl ?_
      refine y_pure (pc' := 135) (st' := [.ref 866, .ref 877]) rfl rfl ?_
      refine y_pure (pc' := 136) (st' := [.int x2, .ref 866, .ref 877]) rfl rfl ?_
      refine y_pure (pc' := 138) (st' := [.int x4, .int x2, .ref 866, .ref 877]) rfl rfl ?_
      obtain ⟨v21, M20, he19, h⟩ := zC1_inv h
      refine y_callV (pc' := 141) (y := zmM_cellOf) (a' := [.int x2, .int x4]) (st' := [.ref 877]) rfl rfl rfl rfl rfl (zrecv_o (o := 10) zc_866 rfl) rfl he19 rfl rfl ?_
      refine y_pure (pc' := 142) (st' := [.int x3, .int v21, .ref 877]) rfl rfl ?_
      obtain ⟨hi22, h⟩ := zg_inv h
      refine y_iast (pc' := 143) rfl zc_877 hi22 rfl ?_
      refine y_pure (pc' := 146) (ls' := [(0, .ref 866), (1, .int (nI 1)), (2, .int x2), (3, .int x3), (4, .int (x4 + (nI 1)))]) (st' := []) rfl rfl ?_
      refine y_pure (pc' := 93) rfl rfl ?_
      refine zEx_sub ?_ h
      exact ⟨rfl, rfl, rfl, rfl, rfl, trivial⟩
  · refine y_cmp (pc' := 149) rfl rfl (zc_geT hc4) rfl ?_
    refine y_pure (pc' := 152) (ls' := [(0, .ref 866), (1, .int x1), (2, .int (x2 + (nI 1))), (3, .int x3), (4, .int x4)]) (st' := []) rfl rfl ?_
    refine y_pure (pc' := 33) rfl rfl ?_
    refine zEx_sub ?_ h
    exact ⟨rfl, rfl, rfl, trivial⟩
theorem e_M_parts {d : Nat}  {M : ZM} {r : ZR}  (h : h_M_parts_2 d (nI 0) M = some r) : zEv (d + 1) zmM_parts [.ref 866] M = some r := by
  rw [zEv_succ]
  show zEx0 (zEv d) zmM_parts (0, [(0, .ref 866)], [], M) = some r
  refine y_pure (pc' := 1) (st' := [.int (nI 0)]) rfl rfl ?_
  refine y_pure (pc' := 2) (ls' := [(0, .ref 866), (1, .int (nI 0))]) (st' := []) rfl rfl ?_
  refine zEx_sub ?_ h
  exact ⟨rfl, rfl, trivial⟩
noncomputable def h_M_solvesFrom_2 (d : Nat) (x2 : Int32) (M : ZM) : Option ZR := zEx0 (zEv d) zmM_solvesFrom (2, [(0, .ref 866), (2, .int x2)], [], M)
noncomputable def h_M_solvesFrom_34 (d : Nat) (x3 : Int32) (M : ZM) : Option ZR := zEx0 (zEv d) zmM_solvesFrom (34, [(0, .ref 866), (3, .int x3)], [], M)
noncomputable def h_M_solvesFrom_118 (d : Nat) (x2 : Int32) (x3 : Int32) (x4 : Int32) (x5 : Int32) (x6 : Int32) (M : ZM) : Option ZR := zEx0 (zEv d) zmM_solvesFrom (118, [(0, .ref 866), (2, .int x2), (3, .int x3), (4, .int x4), (5, .int x5), (6, .int x6)], [], M)
theorem e_M_solvesFrom_2 {d : Nat} {x2 : Int32} {M : ZM} {r : ZR}  (h : zC1 (zEv d zmM_cells [.ref 866] M) (fun v3 M2 => (if x2 < v3 then zC1 (zEv d zmM_isOpen [.ref 866, .int x2] M2) (fun v7 M6 => (if v7 = (nI 0) then h_M_solvesFrom_2 d (x2 + (nI 1)) M6 else zC1 (zEv d zmM_cells [.ref 866] M6) (fun v11 M10 => (if x2 = v11 then h_M_solvesFrom_34 d (nI 0) M10 else zC1 (zEv d zmM_marks [.ref 866, .int x2] M10) (fun v15 M14 => (if zin x2 36 = true then h_M_solvesFrom_118 d x2 v15 (M14.1 866 20) (M14.1 877 (Int32.toNatClampNeg x2)) (nI 1) M14 else none)))))) else zC1 (zEv d zmM_cells [.ref 866] M2) (fun v19 M18 => (if x2 = v19 then h_M_solvesFrom_34 d (nI 0) M18 else zC1 (zEv d zmM_marks [.ref 866, .int x2] M18) (fun v23 M22 => (if zin x2 36 = true then h_M_solvesFrom_118 d x2 v23 (M22.1 866 20) (M22.1 877 (Int32.toNatClampNeg x2)) (nI 1) M22 else none)))))) = some r) : h_M_solvesFrom_2 d x2 M = some r := by
  show zEx0 (zEv d) zmM_solvesFrom (2, [(0, .ref 866), (2, .int x2)], [], M) = some r
  refine y_pure (pc' := 3) (st' := [.int x2]) rfl rfl ?_
  refine y_pure (pc' := 4) (st' := [.ref 866, .int x2]) rfl rfl ?_
  obtain ⟨v3, M2, he1, h⟩ := zC1_inv h
  refine y_callV (pc' := 7) (y := zmM_cells) (a' := []) (st' := [.int x2]) rfl rfl rfl rfl rfl (zrecv_o (o := 10) zc_866 rfl) rfl he1 rfl rfl ?_
  rcases zif_inv h with ⟨hc4, h⟩ | ⟨hc4, h⟩
  · refine y_cmp (pc' := 10) rfl rfl (zc_geF hc4) rfl ?_
    refine y_pure (pc' := 11) (st' := [.ref 866]) rfl rfl ?_
    refine y_pure (pc' := 12) (st' := [.int x2, .ref 866]) rfl rfl ?_
    obtain ⟨v7, M6, he5, h⟩ := zC1_inv h
    refine y_callV (pc' := 15) (y := zmM_isOpen) (a' := [.int x2]) (st' := []) rfl rfl rfl rfl rfl (zrecv_o (o := 10) zc_866 rfl) rfl he5 rfl rfl ?_
    rcases zif_inv h with ⟨hc8, h⟩ | ⟨hc8, h⟩
    · refine y_cnd (pc' := 18) rfl rfl (zc_neF hc8) rfl ?_
      refine y_pure (pc' := 21) (ls' := [(0, .ref 866), (2, .int (x2 + (nI 1)))]) (st' := []) rfl rfl ?_
      refine y_pure (pc' := 2) rfl rfl ?_
      refine zEx_sub ?_ h
      exact ⟨rfl, rfl, trivial⟩
    · refine y_cnd (pc' := 24) rfl rfl (zc_neT hc8) rfl ?_
      refine y_pure (pc' := 25) (st' := [.int x2]) rfl rfl ?_
      refine y_pure (pc' := 26) (st' := [.ref 866, .int x2]) rfl rfl ?_
      obtain ⟨v11, M10, he9, h⟩ := zC1_inv h
      refine y_callV (pc' := 29) (y := zmM_cells) (a' := []) (st' := [.int x2]) rfl rfl rfl rfl rfl (zrecv_o (o := 10) zc_866 rfl) rfl he9 rfl rfl ?_
      rcases zif_inv h with ⟨hc12, h⟩ | ⟨hc12, h⟩
      · refine y_cmp (pc' := 32) rfl rfl (zc_neF hc12) rfl ?_
        refine y_pure (pc' := 33) (st' := [.int (nI 0)]) rfl rfl ?_
        refine y_pure (pc' := 34) (ls' := [(0, .ref 866), (2, .int x2), (3, .int (nI 0))]) (st' := []) rfl rfl ?_
        refine zEx_sub ?_ h
        exact ⟨rfl, rfl, trivial⟩
      · refine y_cmp (pc' := 95) rfl rfl (zc_neT hc12) rfl ?_
        refine y_pure (pc' := 96) (st' := [.ref 866]) rfl rfl ?_
        refine y_pure (pc' := 97) (st' := [.int x2, .ref 866]) rfl rfl ?_
        obtain ⟨v15, M14, he13, h⟩ := zC1_inv h
        refine y_callV (pc' := 100) (y := zmM_marks) (a' := [.int x2]) (st' := []) rfl rfl rfl rfl rfl (zrecv_o (o := 10) zc_866 rfl) rfl he13 rfl rfl ?_
        refine y_pure (pc' := 101) (ls' := [(0, .ref 866), (2, .int x2), (3, .int v15)]) (st' := []) rfl rfl ?_
        refine y_pure (pc' := 102) (st' := [.ref 866]) rfl rfl ?_
        refine y_getf (pc' := 105) (v := .int (M14.1 866 20)) rfl rfl rfl zc_866 rfl rfl ?_
        refine y_pure (pc' := 107) (ls' := [(0, .ref 866), (2, .int x2), (3, .int v15), (4, .int (M14.1 866 20))]) (st' := []) rfl rfl ?_
        refine y_pure (pc' := 108) (st' := [.ref 866]) rfl rfl ?_
        refine y_getf (pc' := 111) (v := .ref 877) rfl rfl rfl zc_866 rfl rfl ?_
        refine y_pure (pc' := 112) (st' := [.int x2, .ref 877]) rfl rfl ?_
        obtain ⟨hi16, h⟩ := zg_inv h
        refine y_iald (pc' := 113) rfl zc_877 hi16 rfl ?_
        refine y_pure (pc' := 115) (ls' := [(0, .ref 866), (2, .int x2), (3, .int v15), (4, .int (M14.1 866 20)), (5, .int (M14.1 877 (Int32.toNatClampNeg x2)))]) (st' := []) rfl rfl ?_
        refine y_pure (pc' := 116) (st' := [.int (nI 1)]) rfl rfl ?_
        refine y_pure (pc' := 118) (ls' := [(0, .ref 866), (2, .int x2), (3, .int v15), (4, .int (M14.1 866 20)), (5, .int (M14.1 877 (Int32.toNatClampNeg x2))), (6, .int (nI 1))]) (st' := []) rfl rfl ?_
        refine zEx_sub ?_ h
        exact ⟨rfl, rfl, rfl, rfl, rfl, rfl, trivial⟩
  · refine y_cmp (pc' := 24) rfl rfl (zc_geT hc4) rfl ?_
    refine y_pure (pc' := 25) (st' := [.int x2]) rfl rfl ?_
    refine y_pure (pc' := 26) (st' := [.ref 866, .int x2]) rfl rfl ?_
    obtain ⟨v19, M18, he17, h⟩ := zC1_inv h
    refine y_callV (pc' := 29) (y := zmM_cells) (a' := []) (st' := [.int x2]) rfl rfl rfl rfl rfl (zrecv_o (o := 10) zc_866 rfl) rfl he17 rfl rfl ?_
    rcases zif_inv h with ⟨hc20, h⟩ | ⟨hc20, h⟩
    · refine y_cmp (pc' := 32) rfl rfl (zc_neF hc20) rfl ?_
      refine y_pure (pc' := 33) (st' := [.int (nI 0)]) rfl rfl ?_
      refine y_pure (pc' := 34) (ls' := [(0, .ref 866), (2, .int x2), (3, .int (nI 0))]) (st' := []) rfl rfl ?_
      refine zEx_sub ?_ h
      exact ⟨rfl, rfl, trivial⟩
    · refine y_cmp (pc' := 95) rfl rfl (zc_neT hc20) rfl ?_
      refine y_pure (pc' := 96) (st' := [.ref 866]) rfl rfl ?_
      refine y_pure (pc' := 97) (st' := [.int x2, .ref 866]) rfl rfl ?_
      obtain ⟨v23, M22, he21, h⟩ := zC1_inv h
      refine y_callV (pc' := 100) (y := zmM_marks) (a' := [.int x2]) (st' := []) rfl rfl rfl rfl rfl (zrecv_o (o := 10) zc_866 rfl) rfl he21 rfl rfl ?_
      refine y_pure (pc' := 101) (ls' := [(0, .ref 866), (2, .int x2), (3, .int v23)]) (st' := []) rfl rfl ?_
      refine y_pure (pc' := 102) (st' := [.ref 866]) rfl rfl ?_
      refine y_getf (pc' := 105) (v := .int (M22.1 866 20)) rfl rfl rfl zc_866 rfl rfl ?_
      refine y_pure (pc' := 107) (ls' := [(0, .ref 866), (2, .int x2), (3, .int v23), (4, .int (M22.1 866 20))]) (st' := []) rfl rfl ?_
      refine y_pure (pc' := 108) (st' := [.ref 866]) rfl rfl ?_
      refine y_getf (pc' := 111) (v := .ref 877) rfl rfl rfl zc_866 rfl rfl ?_
      refine y_pure (pc' := 112) (st' := [.int x2, .ref 877]) rfl rfl ?_
      obtain ⟨hi24, h⟩ := zg_inv h
      refine y_iald (pc' := 113) rfl zc_877 hi24 rfl ?_
      refine y_pure (pc' := 115) (ls' := [(0, .ref 866), (2, .int x2), (3, .int v23), (4, .int (M22.1 866 20)), (5, .int (M22.1 877 (Int32.toNatClampNeg x2)))]) (st' := []) rfl rfl ?_
      refine y_pure (pc' := 116) (st' := [.int (nI 1)]) rfl rfl ?_
      refine y_pure (pc' := 118) (ls' := [(0, .ref 866), (2, .int x2), (3, .int v23), (4, .int (M22.1 866 20)), (5, .int (M22.1 877 (Int32.toNatClampNeg x2))), (6, .int (nI 1))]) (st' := []) rfl rfl ?_
      refine zEx_sub ?_ h
      exact ⟨rfl, rfl, rfl, rfl, rfl, rfl, trivial⟩
theorem e_M_solvesFrom_34 {d : Nat} {x3 : Int32} {M : ZM} {r : ZR}  (h : zC1 (zEv d zmM_cells [.ref 866] M) (fun v3 M2 => (if x3 < v3 then zC1 (zEv d zmM_marks [.ref 866, .int x3] M2) (fun v7 M6 => (if v7 = (nI 0) then (if zin (((nI 36) * (M2.1 866 20)) + x3) 1800 = true then h_M_solvesFrom_34 d (x3 + (nI 1)) (zpi M6 876 (Int32.toNatClampNeg (((nI 36) * (M2.1 866 20)) + x3)) (nI 0)) else none) else zC1 (zEv d zmM_marks [.ref 866, .int x3] M6) (fun v12 M11 => zC1 (zEv d zmM_least [.ref 866, .int v12] M11) (fun v15 M14 => (if zin (((nI 36) * (M2.1 866 20)) + x3) 1800 = true then h_M_solvesFrom_34 d (x3 + (nI 1)) (zpi M14 876 (Int32.toNatClampNeg (((nI 36) * (M2.1 866 20)) + x3)) v15) else none))))) else some (some (.int (-1 : Int32)), (zpi M2 866 20 ((M2.1 866 20) + (nI 1)))))) = some r) : h_M_solvesFrom_34 d x3 M = some r := by
  show zEx0 (zEv d) zmM_solvesFrom (34, [(0, .ref 866), (3, .int x3)], [], M) = some r
  refine y_pure (pc' := 35) (st' := [.int x3]) rfl rfl ?_
  refine y_pure (pc' := 36) (st' := [.ref 866, .int x3]) rfl rfl ?_
  obtain ⟨v3, M2, he1, h⟩ := zC1_inv h
  refine y_callV (pc' := 39) (y := zmM_cells) (a' := []) (st' := [.int x3]) rfl rfl rfl rfl rfl (zrecv_o (o := 10) zc_866 rfl) rfl he1 rfl rfl ?_
  rcases zif_inv h with ⟨hc4, h⟩ | ⟨hc4, h⟩
  · refine y_cmp (pc' := 42) rfl rfl (zc_geF hc4) rfl ?_
    refine y_pure (pc' := 43) (st' := [.ref 866]) rfl rfl ?_
    refine y_getf (pc' := 46) (v := .ref 876) rfl rfl rfl zc_866 rfl rfl ?_
    refine y_pure (pc' := 48) (st' := [.int (nI 36), .ref 876]) rfl rfl ?_
    refine y_pure (pc' := 49) (st' := [.ref 866, .int (nI 36), .ref 876]) rfl rfl ?_
    refine y_getf (pc' := 52) (v := .int (M2.1 866 20)) rfl rfl rfl zc_866 rfl rfl ?_
    refine y_pure (pc' := 53) (st' := [.int ((nI 36) * (M2.1 866 20)), .ref 876]) rfl rfl ?_
    refine y_pure (pc' := 54) (st' := [.int x3, .int ((nI 36) * (M2.1 866 20)), .ref 876]) rfl rfl ?_
    refine y_pure (pc' := 55) (st' := [.int (((nI 36) * (M2.1 866 20)) + x3), .ref 876]) rfl rfl ?_
    refine y_pure (pc' := 56) (st' := [.ref 866, .int (((nI 36) * (M2.1 866 20)) + x3), .ref 876]) rfl rfl ?_
    refine y_pure (pc' := 57) (st' := [.int x3, .ref 866, .int (((nI 36) * (M2.1 866 20)) + x3), .ref 876]) rfl rfl ?_
    obtain ⟨v7, M6, he5, h⟩ := zC1_inv h
    refine y_callV (pc' := 60) (y := zmM_marks) (a' := [.int x3]) (st' := [.int (((nI 36) * (M2.1 866 20)) + x3), .ref 876]) rfl rfl rfl rfl rfl (zrecv_o (o := 10) zc_866 rfl) rfl he5 rfl rfl ?_
    rcases zif_inv h with ⟨hc8, h⟩ | ⟨hc8, h⟩
    · refine y_cnd (pc' := 63) rfl rfl (zc_neF hc8) rfl ?_
      refine y_pure (pc' := 64) (st' := [.int (nI 0), .int (((nI 36) * (M2.1 866 20)) + x3), .ref 876]) rfl rfl ?_
      refine y_pure (pc' := 76) rfl rfl ?_
      obtain ⟨hi9, h⟩ := zg_inv h
      refine y_iast (pc' := 77) rfl zc_876 hi9 rfl ?_
      refine y_pure (pc' := 80) (ls' := [(0, .ref 866), (3, .int (x3 + (nI 1)))]) (st' := []) rfl rfl ?_
      refine y_pure (pc' := 34) rfl rfl ?_
      refine zEx_sub ?_ h
      exact ⟨rfl, rfl, trivial⟩
    · refine y_cnd (pc' := 67) rfl rfl (zc_neT hc8) rfl ?_
      refine y_pure (pc' := 68) (st' := [.ref 866, .int (((nI 36) * (M2.1 866 20)) + x3), .ref 876]) rfl rfl ?_
      refine y_pure (pc' := 69) (st' := [.ref 866, .ref 866, .int (((nI 36) * (M2.1 866 20)) + x3), .ref 876]) rfl rfl ?_
      refine y_pure (pc' := 70) (st' := [.int x3, .ref 866, .ref 866, .int (((nI 36) * (M2.1 866 20)) + x3), .ref 876]) rfl rfl ?_
      obtain ⟨v12, M11, he10, h⟩ := zC1_inv h
      refine y_callV (pc' := 73) (y := zmM_marks) (a' := [.int x3]) (st' := [.ref 866, .int (((nI 36) * (M2.1 866 20)) + x3), .ref 876]) rfl rfl rfl rfl rfl (zrecv_o (o := 10) zc_866 rfl) rfl he10 rfl rfl ?_
      obtain ⟨v15, M14, he13, h⟩ := zC1_inv h
      refine y_callV (pc' := 76) (y := zmM_least) (a' := [.int v12]) (st' := [.int (((nI 36) * (M2.1 866 20)) + x3), .ref 876]) rfl rfl rfl rfl rfl (zrecv_o (o := 10) zc_866 rfl) rfl he13 rfl rfl ?_
      obtain ⟨hi16, h⟩ := zg_inv h
      refine y_iast (pc' := 77) rfl zc_876 hi16 rfl ?_
      refine y_pure (pc' := 80) (ls' := [(0, .ref 866), (3, .int (x3 + (nI 1)))]) (st' := []) rfl rfl ?_
      refine y_pure (pc' := 34) rfl rfl ?_
      refine zEx_sub ?_ h
      exact ⟨rfl, rfl, trivial⟩
  · refine y_cmp (pc' := 83) rfl rfl (zc_geT hc4) rfl ?_
    refine y_pure (pc' := 84) (st' := [.ref 866]) rfl rfl ?_
    refine y_pure (pc' := 85) (st' := [.ref 866, .ref 866]) rfl rfl ?_
    refine y_getf (pc' := 88) (v := .int (M2.1 866 20)) rfl rfl rfl zc_866 rfl rfl ?_
    refine y_pure (pc' := 89) (st' := [.int (nI 1), .int (M2.1 866 20), .ref 866]) rfl rfl ?_
    refine y_pure (pc' := 90) (st' := [.int ((M2.1 866 20) + (nI 1)), .ref 866]) rfl rfl ?_
    refine y_putI (pc' := 93) rfl rfl zc_866 rfl ?_
    refine y_pure (pc' := 94) (st' := [.int (-1 : Int32)]) rfl rfl ?_
    exact y_ret rfl rfl rfl rfl h
theorem e_M_solvesFrom_118 {d : Nat} {x2 : Int32} {x3 : Int32} {x4 : Int32} {x5 : Int32} {x6 : Int32} {M : ZM} {r : ZR}  (h : zC1 (zEv d zmM_top [.ref 866] M) (fun v3 M2 => (if v3 < x6 then (if zin ((nI 112) + x2) 268 = true then (if x4 < ((zpi M2 867 (Int32.toNatClampNeg ((nI 112) + x2)) x3).1 866 20) then some (some (.int (-1 : Int32)), (zpi M2 867 (Int32.toNatClampNeg ((nI 112) + x2)) x3)) else some (some (.int x5), (zpi M2 867 (Int32.toNatClampNeg ((nI 112) + x2)) x3))) else none) else (if (M2.1 866 20) < (M2.1 866 21) then (if zin x2 36 = true then (if x5 = (M2.1 877 (Int32.toNatClampNeg x2)) then zC1 (zEv d zmM_holds [.int x3, .int x6] M2) (fun v12 M11 => (if v12 = (nI 0) then h_M_solvesFrom_118 d x2 x3 x4 x5 (x6 + (nI 1)) M11 else (if zin ((nI 112) + x2) 268 = true then zL ((zpi M11 867 (Int32.toNatClampNeg ((nI 112) + x2)) ((nI 1) <<< (x6 &&& 31))).1 866 20) (fun y15 => zC1 (zEv d zmM_haveWays [.ref 866, .int x2] (zpi M11 867 (Int32.toNatClampNeg ((nI 112) + x2)) ((nI 1) <<< (x6 &&& 31)))) (fun v19 M18 => (if v19 = (nI 0) then (if y15 < (M18.1 866 20) then h_M_solvesFrom_118 d x2 x3 x4 (M18.1 877 (Int32.toNatClampNeg x2)) (x6 + (nI 1)) M18 else h_M_solvesFrom_118 d x2 x3 x4 (M18.1 877 (Int32.toNatClampNeg x2)) (x6 + (nI 1)) M18) else zC1 (zEv d zmM_solvesFrom [.ref 866, .int (x2 + (nI 1))] M18) (fun v24 M23 => (if y15 < (M23.1 866 20) then h_M_solvesFrom_118 d x2 x3 x4 (M23.1 877 (Int32.toNatClampNeg x2)) (x6 + (nI 1)) M23 else h_M_solvesFrom_118 d x2 x3 x4 v24 (x6 + (nI 1)) M23))))) else none))) else (if zin ((nI 112) + x2) 268 = true then (if x4 < ((zpi M2 867 (Int32.toNatClampNeg ((nI 112) + x2)) x3).1 866 20) then some (some (.int (-1 : Int32)), (zpi M2 867 (Int32.toNatClampNeg ((nI 112) + x2)) x3)) else some (some (.int x5), (zpi M2 867 (Int32.toNatClampNeg ((nI 112) + x2)) x3))) else none)) else none) else (if zin ((nI 112) + x2) 268 = true then (if x4 < ((zpi M2 867 (Int32.toNatClampNeg ((nI 112) + x2)) x3).1 866 20) then some (some (.int (-1 : Int32)), (zpi M2 867 (Int32.toNatClampNeg ((nI 112) + x2)) x3)) else some (some (.int x5), (zpi M2 867 (Int32.toNatClampNeg ((nI 112) + x2)) x3))) else none)))) = some r) : h_M_solvesFrom_118 d x2 x3 x4 x5 x6 M = some r := by
  show zEx0 (zEv d) zmM_solvesFrom (118, [(0, .ref 866), (2, .int x2), (3, .int x3), (4, .int x4), (5, .int x5), (6, .int x6)], [], M) = some r
  refine y_pure (pc' := 120) (st' := [.int x6]) rfl rfl ?_
  refine y_pure (pc' := 121) (st' := [.ref 866, .int x6]) rfl rfl ?_
  obtain ⟨v3, M2, he1, h⟩ := zC1_inv h
  refine y_callV (pc' := 124) (y := zmM_top) (a' := []) (st' := [.int x6]) rfl rfl rfl rfl rfl (zrecv_o (o := 10) zc_866 rfl) rfl he1 rfl rfl ?_
  rcases zif_inv h with ⟨hc4, h⟩ | ⟨hc4, h⟩
  · refine y_cmp (pc' := 234) rfl rfl (zc_gtT hc4) rfl ?_
    refine y_pure (pc' := 235) (st' := [.ref 866]) rfl rfl ?_
    refine y_getf (pc' := 238) (v := .ref 867) rfl rfl rfl zc_866 rfl rfl ?_
    refine y_pure (pc' := 240) (st' := [.int (nI 112), .ref 867]) rfl rfl ?_
    refine y_pure (pc' := 241) (st' := [.int x2, .int (nI 112), .ref 867]) rfl rfl ?_
    refine y_pure (pc' := 242) (st' := [.int ((nI 112) + x2), .ref 867]) rfl rfl ?_
    refine y_pure (pc' := 243) (st' := [.int x3, .int ((nI 112) + x2), .ref 867]) rfl rfl ?_
    obtain ⟨hi5, h⟩ := zg_inv h
    refine y_iast (pc' := 244) rfl zc_867 hi5 rfl ?_
    refine y_pure (pc' := 245) (st' := [.ref 866]) rfl rfl ?_
    refine y_getf (pc' := 248) (v := .int ((zpi M2 867 (Int32.toNatClampNeg ((nI 112) + x2)) x3).1 866 20)) rfl rfl rfl zc_866 rfl rfl ?_
    refine y_pure (pc' := 250) (st' := [.int x4, .int ((zpi M2 867 (Int32.toNatClampNeg ((nI 112) + x2)) x3).1 866 20)]) rfl rfl ?_
    rcases zif_inv h with ⟨hc6, h⟩ | ⟨hc6, h⟩
    · refine y_cmp (pc' := 253) rfl rfl (zc_leF hc6) rfl ?_
      refine y_pure (pc' := 254) (st' := [.int (-1 : Int32)]) rfl rfl ?_
      refine y_pure (pc' := 259) rfl rfl ?_
      exact y_ret rfl rfl rfl rfl h
    · refine y_cmp (pc' := 257) rfl rfl (zc_leT hc6) rfl ?_
      refine y_pure (pc' := 259) (st' := [.int x5]) rfl rfl ?_
      exact y_ret rfl rfl rfl rfl h
  · refine y_cmp (pc' := 127) rfl rfl (zc_gtF hc4) rfl ?_
    refine y_pure (pc' := 128) (st' := [.ref 866]) rfl rfl ?_
    refine y_getf (pc' := 131) (v := .int (M2.1 866 20)) rfl rfl rfl zc_866 rfl rfl ?_
    refine y_pure (pc' := 132) (st' := [.ref 866, .int (M2.1 866 20)]) rfl rfl ?_
    refine y_getf (pc' := 135) (v := .int (M2.1 866 21)) rfl rfl rfl zc_866 rfl rfl ?_
    rcases zif_inv h with ⟨hc7, h⟩ | ⟨hc7, h⟩
    · refine y_cmp (pc' := 138) rfl rfl (zc_geF hc7) rfl ?_
      refine y_pure (pc' := 140) (st' := [.int x5]) rfl rfl ?_
      refine y_pure (pc' := 141) (st' := [.ref 866, .int x5]) rfl rfl ?_
      refine y_getf (pc' := 144) (v := .ref 877) rfl rfl rfl zc_866 rfl rfl ?_
      refine y_pure (pc' := 145) (st' := [.int x2, .ref 877, .int x5]) rfl rfl ?_
      obtain ⟨hi8, h⟩ := zg_inv h
      refine y_iald (pc' := 146) rfl zc_877 hi8 rfl ?_
      rcases zif_inv h with ⟨hc9, h⟩ | ⟨hc9, h⟩
      · refine y_cmp (pc' := 149) rfl rfl (zc_neF hc9) rfl ?_
        refine y_pure (pc' := 150) (st' := [.int x3]) rfl rfl ?_
        refine y_pure (pc' := 152) (st' := [.int x6, .int x3]) rfl rfl ?_
        obtain ⟨v12, M11, he10, h⟩ := zC1_inv h
        refine y_callS (pc' := 155) (y := zmM_holds) (a := [.int x3, .int x6]) (st' := []) rfl rfl rfl rfl rfl rfl he10 rfl rfl ?_
        rcases zif_inv h with ⟨hc13, h⟩ | ⟨hc13, h⟩
        · refine y_cnd (pc' := 158) rfl rfl (zc_neF hc13) rfl ?_
          refine y_pure (pc' := 228) rfl rfl ?_
          refine y_pure (pc' := 231) (ls' := [(0, .ref 866), (2, .int x2), (3, .int x3), (4, .int x4), (5, .int x5), (6, .int (x6 + (nI 1)))]) (st' := []) rfl rfl ?_
          refine y_pure (pc' := 118) rfl rfl ?_
          refine zEx_sub ?_ h
          exact ⟨rfl, rfl, rfl, rfl, rfl, rfl, trivial⟩
        · refine y_cnd (pc' := 161) rfl rfl (zc_neT hc13) rfl ?_
          refine y_pure (pc' := 162) (st' := [.ref 866]) rfl rfl ?_
          refine y_getf (pc' := 165) (v := .ref 867) rfl rfl rfl zc_866 rfl rfl ?_
          refine y_pure (pc' := 167) (st' := [.int (nI 112), .ref 867]) rfl rfl ?_
          refine y_pure (pc' := 168) (st' := [.int x2, .int (nI 112), .ref 867]) rfl rfl ?_
          refine y_pure (pc' := 169) (st' := [.int ((nI 112) + x2), .ref 867]) rfl rfl ?_
          refine y_pure (pc' := 170) (st' := [.int (nI 1), .int ((nI 112) + x2), .ref 867]) rfl rfl ?_
          refine y_pure (pc' := 172) (st' := [.int x6, .int (nI 1), .int ((nI 112) + x2), .ref 867]) rfl rfl ?_
          refine y_pure (pc' := 173) (st' := [.int ((nI 1) <<< (x6 &&& 31)), .int ((nI 112) + x2), .ref 867]) rfl rfl ?_
          obtain ⟨hi14, h⟩ := zg_inv h
          refine y_iast (pc' := 174) rfl zc_867 hi14 rfl ?_
          refine y_pure (pc' := 175) (st' := [.ref 866]) rfl rfl ?_
          refine y_getf (pc' := 178) (v := .int ((zpi M11 867 (Int32.toNatClampNeg ((nI 112) + x2)) ((nI 1) <<< (x6 &&& 31))).1 866 20)) rfl rfl rfl zc_866 rfl rfl ?_
          obtain ⟨y15, e16, h⟩ := zL_inv h
          refine zT_gen e16 ?_
          refine y_pure (pc' := 180) (ls' := [(0, .ref 866), (2, .int x2), (3, .int x3), (4, .int x4), (5, .int x5), (6, .int x6), (7, .int y15)]) (st' := []) rfl rfl ?_
          refine y_pure (pc' := 181) (st' := [.ref 866]) rfl rfl ?_
          refine y_pure (pc' := 182) (st' := [.int x2, .ref 866]) rfl rfl ?_
          obtain ⟨v19, M18, he17, h⟩ := zC1_inv h
          refine y_callV (pc' := 185) (y := zmM_haveWays) (a' := [.int x2]) (st' := []) rfl rfl rfl rfl rfl (zrecv_o (o := 10) zc_866 rfl) rfl he17 rfl rfl ?_
          rcases zif_inv h with ⟨hc20, h⟩ | ⟨hc20, h⟩
          · refine y_cnd (pc' := 198) rfl rfl (zc_eqT hc20) rfl ?_
            refine y_pure (pc' := 199) (st' := [.ref 866]) rfl rfl ?_
            refine y_getf (pc' := 202) (v := .ref 877) rfl rfl rfl zc_866 rfl rfl ?_
            refine y_pure (pc' := 203) (st' := [.int x2, .ref 877]) rfl rfl ?_
            refine y_iald (pc' := 204) rfl zc_877 hi8 rfl ?_
            refine y_pure (pc' := 206) (ls' := [(0, .ref 866), (2, .int x2), (3, .int x3), (4, .int x4), (5, .int x5), (6, .int x6), (7, .int y15), (8, .int (M18.1 877 (Int32.toNatClampNeg x2)))]) (st' := []) rfl rfl ?_
            refine y_pure (pc' := 207) (st' := [.ref 866]) rfl rfl ?_
            refine y_getf (pc' := 210) (v := .int (M18.1 866 20)) rfl rfl rfl zc_866 rfl rfl ?_
            refine y_pure (pc' := 212) (st' := [.int y15, .int (M18.1 866 20)]) rfl rfl ?_
            rcases zif_inv h with ⟨hc21, h⟩ | ⟨hc21, h⟩
            · refine y_cmp (pc' := 215) rfl rfl (zc_leF hc21) rfl ?_
              refine y_pure (pc' := 216) (st' := [.ref 866]) rfl rfl ?_
              refine y_getf (pc' := 219) (v := .ref 877) rfl rfl rfl zc_866 rfl rfl ?_
              refine y_pure (pc' := 220) (st' := [.int x2, .ref 877]) rfl rfl ?_
              refine y_iald (pc' := 221) rfl zc_877 hi8 rfl ?_
              refine y_pure (pc' := 226) rfl rfl ?_
              refine y_pure (pc' := 228) (ls' := [(0, .ref 866), (2, .int x2), (3, .int x3), (4, .int x4), (5, .int (M18.1 877 (Int32.toNatClampNeg x2))), (6, .int x6), (7, .int y15), (8, .int (M18.1 877 (Int32.toNatClampNeg x2)))]) (st' := []) rfl rfl ?_
              refine y_pure (pc' := 231) (ls' := [(0, .ref 866), (2, .int x2), (3, .int x3), (4, .int x4), (5, .int (M18.1 877 (Int32.toNatClampNeg x2))), (6, .int (x6 + (nI 1))), (7, .int y15), (8, .int (M18.1 877 (Int32.toNatClampNeg x2)))]) (st' := []) rfl rfl ?_
              refine y_pure (pc' := 118) rfl rfl ?_
              refine zEx_sub ?_ h
              exact ⟨rfl, rfl, rfl, rfl, rfl, rfl, trivial⟩
            · refine y_cmp (pc' := 224) rfl rfl (zc_leT hc21) rfl ?_
              refine y_pure (pc' := 226) (st' := [.int (M18.1 877 (Int32.toNatClampNeg x2))]) rfl rfl ?_
              refine y_pure (pc' := 228) (ls' := [(0, .ref 866), (2, .int x2), (3, .int x3), (4, .int x4), (5, .int (M18.1 877 (Int32.toNatClampNeg x2))), (6, .int x6), (7, .int y15), (8, .int (M18.1 877 (Int32.toNatClampNeg x2)))]) (st' := []) rfl rfl ?_
              refine y_pure (pc' := 231) (ls' := [(0, .ref 866), (2, .int x2), (3, .int x3), (4, .int x4), (5, .int (M18.1 877 (Int32.toNatClampNeg x2))), (6, .int (x6 + (nI 1))), (7, .int y15), (8, .int (M18.1 877 (Int32.toNatClampNeg x2)))]) (st' := []) rfl rfl ?_
              refine y_pure (pc' := 118) rfl rfl ?_
              refine zEx_sub ?_ h
              exact ⟨rfl, rfl, rfl, rfl, rfl, rfl, trivial⟩
          · refine y_cnd (pc' := 188) rfl rfl (zc_eqF hc20) rfl ?_
            refine y_pure (pc' := 189) (st' := [.ref 866]) rfl rfl ?_
            refine y_pure (pc' := 190) (st' := [.int x2, .ref 866]) rfl rfl ?_
            refine y_pure (pc' := 191) (st' := [.int (nI 1), .int x2, .ref 866]) rfl rfl ?_
            refine y_pure (pc' := 192) (st' := [.int (x2 + (nI 1)), .ref 866]) rfl rfl ?_
            obtain ⟨v24, M23, he22, h⟩ := zC1_inv h
            refine y_callV (pc' := 195) (y := zmM_solvesFrom) (a' := [.int (x2 + (nI 1))]) (st' := []) rfl rfl rfl rfl rfl (zrecv_o (o := 10) zc_866 rfl) rfl he22 rfl rfl ?_
            refine y_pure (pc' := 204) rfl rfl ?_
            refine y_pure (pc' := 206) (ls' := [(0, .ref 866), (2, .int x2), (3, .int x3), (4, .int x4), (5, .int x5), (6, .int x6), (7, .int y15), (8, .int v24)]) (st' := []) rfl rfl ?_
            refine y_pure (pc' := 207) (st' := [.ref 866]) rfl rfl ?_
            refine y_getf (pc' := 210) (v := .int (M23.1 866 20)) rfl rfl rfl zc_866 rfl rfl ?_
            refine y_pure (pc' := 212) (st' := [.int y15, .int (M23.1 866 20)]) rfl rfl ?_
            rcases zif_inv h with ⟨hc25, h⟩ | ⟨hc25, h⟩
            · refine y_cmp (pc' := 215) rfl rfl (zc_leF hc25) rfl ?_
              refine y_pure (pc' := 216) (st' := [.ref 866]) rfl rfl ?_
              refine y_getf (pc' := 219) (v := .ref 877) rfl rfl rfl zc_866 rfl rfl ?_
              refine y_pure (pc' := 220) (st' := [.int x2, .ref 877]) rfl rfl ?_
              refine y_iald (pc' := 221) rfl zc_877 hi8 rfl ?_
              refine y_pure (pc' := 226) rfl rfl ?_
              refine y_pure (pc' := 228) (ls' := [(0, .ref 866), (2, .int x2), (3, .int x3), (4, .int x4), (5, .int (M23.1 877 (Int32.toNatClampNeg x2))), (6, .int x6), (7, .int y15), (8, .int v24)]) (st' := []) rfl rfl ?_
              refine y_pure (pc' := 231) (ls' := [(0, .ref 866), (2, .int x2), (3, .int x3), (4, .int x4), (5, .int (M23.1 877 (Int32.toNatClampNeg x2))), (6, .int (x6 + (nI 1))), (7, .int y15), (8, .int v24)]) (st' := []) rfl rfl ?_
              refine y_pure (pc' := 118) rfl rfl ?_
              refine zEx_sub ?_ h
              exact ⟨rfl, rfl, rfl, rfl, rfl, rfl, trivial⟩
            · refine y_cmp (pc' := 224) rfl rfl (zc_leT hc25) rfl ?_
              refine y_pure (pc' := 226) (st' := [.int v24]) rfl rfl ?_
              refine y_pure (pc' := 228) (ls' := [(0, .ref 866), (2, .int x2), (3, .int x3), (4, .int x4), (5, .int v24), (6, .int x6), (7, .int y15), (8, .int v24)]) (st' := []) rfl rfl ?_
              refine y_pure (pc' := 231) (ls' := [(0, .ref 866), (2, .int x2), (3, .int x3), (4, .int x4), (5, .int v24), (6, .int (x6 + (nI 1))), (7, .int y15), (8, .int v24)]) (st' := []) rfl rfl ?_
              refine y_pure (pc' := 118) rfl rfl ?_
              refine zEx_sub ?_ h
              exact ⟨rfl, rfl, rfl, rfl, rfl, rfl, trivial⟩
      · refine y_cmp (pc' := 234) rfl rfl (zc_neT hc9) rfl ?_
        refine y_pure (pc' := 235) (st' := [.ref 866]) rfl rfl ?_
        refine y_getf (pc' := 238) (v := .ref 867) rfl rfl rfl zc_866 rfl rfl ?_
        refine y_pure (pc' := 240) (st' := [.int (nI 112), .ref 867]) rfl rfl ?_
        refine y_pure (pc' := 241) (st' := [.int x2, .int (nI 112), .ref 867]) rfl rfl ?_
        refine y_pure (pc' := 242) (st' := [.int ((nI 112) + x2), .ref 867]) rfl rfl ?_
        refine y_pure (pc' := 243) (st' := [.int x3, .int ((nI 112) + x2), .ref 867]) rfl rfl ?_
        obtain ⟨hi26, h⟩ := zg_inv h
        refine y_iast (pc' := 244) rfl zc_867 hi26 rfl ?_
        refine y_pure (pc' := 245) (st' := [.ref 866]) rfl rfl ?_
        refine y_getf (pc' := 248) (v := .int ((zpi M2 867 (Int32.toNatClampNeg ((nI 112) + x2)) x3).1 866 20)) rfl rfl rfl zc_866 rfl rfl ?_
        refine y_pure (pc' := 250) (st' := [.int x4, .int ((zpi M2 867 (Int32.toNatClampNeg ((nI 112) + x2)) x3).1 866 20)]) rfl rfl ?_
        rcases zif_inv h with ⟨hc27, h⟩ | ⟨hc27, h⟩
        · refine y_cmp (pc' := 253) rfl rfl (zc_leF hc27) rfl ?_
          refine y_pure (pc' := 254) (st' := [.int (-1 : Int32)]) rfl rfl ?_
          refine y_pure (pc' := 259) rfl rfl ?_
          exact y_ret rfl rfl rfl rfl h
        · refine y_cmp (pc' := 257) rfl rfl (zc_leT hc27) rfl ?_
          refine y_pure (pc' := 259) (st' := [.int x5]) rfl rfl ?_
          exact y_ret rfl rfl rfl rfl h
    · refine y_cmp (pc' := 234) rfl rfl (zc_geT hc7) rfl ?_
      refine y_pure (pc' := 235) (st' := [.ref 866]) rfl rfl ?_
      refine y_getf (pc' := 238) (v := .ref 867) rfl rfl rfl zc_866 rfl rfl ?_
      refine y_pure (pc' := 240) (st' := [.int (nI 112), .ref 867]) rfl rfl ?_
      refine y_pure (pc' := 241) (st' := [.int x2, .int (nI 112), .ref 867]) rfl rfl ?_
      refine y_pure (pc' := 242) (st' := [.int ((nI 112) + x2), .ref 867]) rfl rfl ?_
      refine y_pure (pc' := 243) (st' := [.int x3, .int ((nI 112) + x2), .ref 867]) rfl rfl ?_
      obtain ⟨hi28, h⟩ := zg_inv h
      refine y_iast (pc' := 244) rfl zc_867 hi28 rfl ?_
      refine y_pure (pc' := 245) (st' := [.ref 866]) rfl rfl ?_
      refine y_getf (pc' := 248) (v := .int ((zpi M2 867 (Int32.toNatClampNeg ((nI 112) + x2)) x3).1 866 20)) rfl rfl rfl zc_866 rfl rfl ?_
      refine y_pure (pc' := 250) (st' := [.int x4, .int ((zpi M2 867 (Int32.toNatClampNeg ((nI 112) + x2)) x3).1 866 20)]) rfl rfl ?_
      rcases zif_inv h with ⟨hc29, h⟩ | ⟨hc29, h⟩
      · refine y_cmp (pc' := 253) rfl rfl (zc_leF hc29) rfl ?_
        refine y_pure (pc' := 254) (st' := [.int (-1 : Int32)]) rfl rfl ?_
        refine y_pure (pc' := 259) rfl rfl ?_
        exact y_ret rfl rfl rfl rfl h
      · refine y_cmp (pc' := 257) rfl rfl (zc_leT hc29) rfl ?_
        refine y_pure (pc' := 259) (st' := [.int x5]) rfl rfl ?_
        exact y_ret rfl rfl rfl rfl h
theorem e_M_solvesFrom {d : Nat} {x1 : Int32} {M : ZM} {r : ZR}  (h : h_M_solvesFrom_2 d x1 M = some r) : zEv (d + 1) zmM_solvesFrom [.ref 866, .int x1] M = some r := by
  rw [zEv_succ]
  show zEx0 (zEv d) zmM_solvesFrom (0, [(0, .ref 866), (1, .int x1)], [], M) = some r
  refine y_pure (pc' := 1) (st' := [.int x1]) rfl rfl ?_
  refine y_pure (pc' := 2) (ls' := [(0, .ref 866), (1, .int x1), (2, .int x1)]) (st' := []) rfl rfl ?_
  refine zEx_sub ?_ h
  exact ⟨rfl, rfl, trivial⟩
theorem e_M_solves {d : Nat} {x1 : Int32} {M : ZM} {r : ZR}  (h : zC1 (zEv d zmM_isBroken [.ref 866] (zpi (zpi M 866 20 (nI 0)) 866 21 x1)) (fun v3 M2 => (if v3 = (nI 0) then zC0 (zEv d zmM_parts [.ref 866] M2) (fun M6 => zC1 (zEv d zmM_solvesFrom [.ref 866, .int (nI 0)] M6) (fun v9 M8 => some (some (.int (M8.1 866 20)), M8))) else some (some (.int (nI 0)), M2))) = some r) : zEv (d + 1) zmM_solves [.ref 866, .int x1] M = some r := by
  rw [zEv_succ]
  show zEx0 (zEv d) zmM_solves (0, [(0, .ref 866), (1, .int x1)], [], M) = some r
  refine y_pure (pc' := 1) (st' := [.ref 866]) rfl rfl ?_
  refine y_pure (pc' := 2) (st' := [.int (nI 0), .ref 866]) rfl rfl ?_
  refine y_putI (pc' := 5) rfl rfl zc_866 rfl ?_
  refine y_pure (pc' := 6) (st' := [.ref 866]) rfl rfl ?_
  refine y_pure (pc' := 7) (st' := [.int x1, .ref 866]) rfl rfl ?_
  refine y_putI (pc' := 10) rfl rfl zc_866 rfl ?_
  refine y_pure (pc' := 11) (st' := [.ref 866]) rfl rfl ?_
  obtain ⟨v3, M2, he1, h⟩ := zC1_inv h
  refine y_callV (pc' := 14) (y := zmM_isBroken) (a' := []) (st' := []) rfl rfl rfl rfl rfl (zrecv_o (o := 10) zc_866 rfl) rfl he1 rfl rfl ?_
  rcases zif_inv h with ⟨hc4, h⟩ | ⟨hc4, h⟩
  · refine y_cnd (pc' := 19) rfl rfl (zc_eqT hc4) rfl ?_
    refine y_pure (pc' := 20) (st' := [.ref 866]) rfl rfl ?_
    obtain ⟨M6, he5, h⟩ := zC0_inv h
    refine y_callV (pc' := 23) (y := zmM_parts) (a' := []) (st' := []) rfl rfl rfl rfl rfl (zrecv_o (o := 10) zc_866 rfl) rfl he5 rfl rfl ?_
    refine y_pure (pc' := 24) (st' := [.ref 866]) rfl rfl ?_
    refine y_pure (pc' := 25) (st' := [.int (nI 0), .ref 866]) rfl rfl ?_
    obtain ⟨v9, M8, he7, h⟩ := zC1_inv h
    refine y_callV (pc' := 28) (y := zmM_solvesFrom) (a' := [.int (nI 0)]) (st' := []) rfl rfl rfl rfl rfl (zrecv_o (o := 10) zc_866 rfl) rfl he7 rfl rfl ?_
    refine y_pure (pc' := 29) (ls' := [(0, .ref 866), (1, .int x1), (2, .int v9)]) (st' := []) rfl rfl ?_
    refine y_pure (pc' := 30) (st' := [.ref 866]) rfl rfl ?_
    refine y_getf (pc' := 33) (v := .int (M8.1 866 20)) rfl rfl rfl zc_866 rfl rfl ?_
    exact y_ret rfl rfl rfl rfl h
  · refine y_cnd (pc' := 17) rfl rfl (zc_eqF hc4) rfl ?_
    refine y_pure (pc' := 18) (st' := [.int (nI 0)]) rfl rfl ?_
    exact y_ret rfl rfl rfl rfl h
theorem e_M_solve {d : Nat} {x1 : Int32} {M : ZM} {r : ZR}  (h : zC1 (zEv d zmM_isBoard [.ref 866] M) (fun v3 M2 => (if v3 = (nI 0) then some (some (.int (-1 : Int32)), M2) else zC1 (zEv d zmM_in [.long (Int32.toInt64 x1), .long (nJ 1), .long (nJ 50)] M2) (fun v7 M6 => (if v7 = (nI 0) then some (some (.int (-1 : Int32)), M6) else zC1 (zEv d zmM_solves [.ref 866, .int x1] M6) (fun v11 M10 => some (some (.int v11), M10)))))) = some r) : zEv (d + 1) zmM_solve [.ref 866, .int x1] M = some r := by
  rw [zEv_succ]
  show zEx0 (zEv d) zmM_solve (0, [(0, .ref 866), (1, .int x1)], [], M) = some r
  refine y_pure (pc' := 1) (st' := [.ref 866]) rfl rfl ?_
  obtain ⟨v3, M2, he1, h⟩ := zC1_inv h
  refine y_callV (pc' := 4) (y := zmM_isBoard) (a' := []) (st' := []) rfl rfl rfl rfl rfl (zrecv_o (o := 10) zc_866 rfl) rfl he1 rfl rfl ?_
  rcases zif_inv h with ⟨hc4, h⟩ | ⟨hc4, h⟩
  · refine y_cnd (pc' := 27) rfl rfl (zc_eqT hc4) rfl ?_
    refine y_pure (pc' := 28) (st' := [.int (-1 : Int32)]) rfl rfl ?_
    exact y_ret rfl rfl rfl rfl h
  · refine y_cnd (pc' := 7) rfl rfl (zc_eqF hc4) rfl ?_
    refine y_pure (pc' := 8) (st' := [.int x1]) rfl rfl ?_
    refine y_pure (pc' := 9) (st' := [.long (Int32.toInt64 x1)]) rfl rfl ?_
    refine y_pure (pc' := 10) (st' := [.long (nJ 1), .long (Int32.toInt64 x1)]) rfl rfl ?_
    refine y_pure (pc' := 13) (st' := [.long (nJ 50), .long (nJ 1), .long (Int32.toInt64 x1)]) rfl rfl ?_
    obtain ⟨v7, M6, he5, h⟩ := zC1_inv h
    refine y_callS (pc' := 16) (y := zmM_in) (a := [.long (Int32.toInt64 x1), .long (nJ 1), .long (nJ 50)]) (st' := []) rfl rfl rfl rfl rfl rfl he5 rfl rfl ?_
    rcases zif_inv h with ⟨hc8, h⟩ | ⟨hc8, h⟩
    · refine y_cnd (pc' := 27) rfl rfl (zc_eqT hc8) rfl ?_
      refine y_pure (pc' := 28) (st' := [.int (-1 : Int32)]) rfl rfl ?_
      exact y_ret rfl rfl rfl rfl h
    · refine y_cnd (pc' := 19) rfl rfl (zc_eqF hc8) rfl ?_
      refine y_pure (pc' := 20) (st' := [.ref 866]) rfl rfl ?_
      refine y_pure (pc' := 21) (st' := [.int x1, .ref 866]) rfl rfl ?_
      obtain ⟨v11, M10, he9, h⟩ := zC1_inv h
      refine y_callV (pc' := 24) (y := zmM_solves) (a' := [.int x1]) (st' := []) rfl rfl rfl rfl rfl (zrecv_o (o := 10) zc_866 rfl) rfl he9 rfl rfl ?_
      refine y_pure (pc' := 28) rfl rfl ?_
      exact y_ret rfl rfl rfl rfl h
theorem e_M_solution {d : Nat} {x1 : Int32} {x2 : Int32} {M : ZM} {r : ZR}  (h : zC1 (zEv d zmM_in [.long (Int32.toInt64 x1), .long (nJ 0), .long (nJ 9)] M) (fun v3 M2 => (if v3 = (nI 0) then some (some (.int (-1 : Int32)), M2) else zC1 (zEv d zmM_isOpen [.ref 866, .int x2] M2) (fun v7 M6 => (if v7 = (nI 0) then some (some (.int (-1 : Int32)), M6) else zC1 (zEv d zmM_solves [.ref 866, .int (x1 + (nI 1))] M6) (fun v11 M10 => (if x1 < v11 then (if zin (((nI 36) * x1) + x2) 1800 = true then some (some (.int (M10.1 876 (Int32.toNatClampNeg (((nI 36) * x1) + x2)))), M10) else none) else some (some (.int (-2 : Int32)), M10))))))) = some r) : zEv (d + 1) zmM_solution [.ref 866, .int x1, .int x2] M = some r := by
  rw [zEv_succ]
  show zEx0 (zEv d) zmM_solution (0, [(0, .ref 866), (1, .int x1), (2, .int x2)], [], M) = some r
  refine y_pure (pc' := 1) (st' := [.int x1]) rfl rfl ?_
  refine y_pure (pc' := 2) (st' := [.long (Int32.toInt64 x1)]) rfl rfl ?_
  refine y_pure (pc' := 3) (st' := [.long (nJ 0), .long (Int32.toInt64 x1)]) rfl rfl ?_
  refine y_pure (pc' := 6) (st' := [.long (nJ 9), .long (nJ 0), .long (Int32.toInt64 x1)]) rfl rfl ?_
  obtain ⟨v3, M2, he1, h⟩ := zC1_inv h
  refine y_callS (pc' := 9) (y := zmM_in) (a := [.long (Int32.toInt64 x1), .long (nJ 0), .long (nJ 9)]) (st' := []) rfl rfl rfl rfl rfl rfl he1 rfl rfl ?_
  rcases zif_inv h with ⟨hc4, h⟩ | ⟨hc4, h⟩
  · refine y_cnd (pc' := 20) rfl rfl (zc_eqT hc4) rfl ?_
    refine y_pure (pc' := 21) (st' := [.int (-1 : Int32)]) rfl rfl ?_
    exact y_ret rfl rfl rfl rfl h
  · refine y_cnd (pc' := 12) rfl rfl (zc_eqF hc4) rfl ?_
    refine y_pure (pc' := 13) (st' := [.ref 866]) rfl rfl ?_
    refine y_pure (pc' := 14) (st' := [.int x2, .ref 866]) rfl rfl ?_
    obtain ⟨v7, M6, he5, h⟩ := zC1_inv h
    refine y_callV (pc' := 17) (y := zmM_isOpen) (a' := [.int x2]) (st' := []) rfl rfl rfl rfl rfl (zrecv_o (o := 10) zc_866 rfl) rfl he5 rfl rfl ?_
    rcases zif_inv h with ⟨hc8, h⟩ | ⟨hc8, h⟩
    · refine y_cnd (pc' := 20) rfl rfl (zc_neF hc8) rfl ?_
      refine y_pure (pc' := 21) (st' := [.int (-1 : Int32)]) rfl rfl ?_
      exact y_ret rfl rfl rfl rfl h
    · refine y_cnd (pc' := 22) rfl rfl (zc_neT hc8) rfl ?_
      refine y_pure (pc' := 23) (st' := [.ref 866]) rfl rfl ?_
      refine y_pure (pc' := 24) (st' := [.int x1, .ref 866]) rfl rfl ?_
      refine y_pure (pc' := 25) (st' := [.int (nI 1), .int x1, .ref 866]) rfl rfl ?_
      refine y_pure (pc' := 26) (st' := [.int (x1 + (nI 1)), .ref 866]) rfl rfl ?_
      obtain ⟨v11, M10, he9, h⟩ := zC1_inv h
      refine y_callV (pc' := 29) (y := zmM_solves) (a' := [.int (x1 + (nI 1))]) (st' := []) rfl rfl rfl rfl rfl (zrecv_o (o := 10) zc_866 rfl) rfl he9 rfl rfl ?_
      refine y_pure (pc' := 30) (st' := [.int x1, .int v11]) rfl rfl ?_
      rcases zif_inv h with ⟨hc12, h⟩ | ⟨hc12, h⟩
      · refine y_cmp (pc' := 33) rfl rfl (zc_leF hc12) rfl ?_
        refine y_pure (pc' := 34) (st' := [.ref 866]) rfl rfl ?_
        refine y_getf (pc' := 37) (v := .ref 876) rfl rfl rfl zc_866 rfl rfl ?_
        refine y_pure (pc' := 39) (st' := [.int (nI 36), .ref 876]) rfl rfl ?_
        refine y_pure (pc' := 40) (st' := [.int x1, .int (nI 36), .ref 876]) rfl rfl ?_
        refine y_pure (pc' := 41) (st' := [.int ((nI 36) * x1), .ref 876]) rfl rfl ?_
        refine y_pure (pc' := 42) (st' := [.int x2, .int ((nI 36) * x1), .ref 876]) rfl rfl ?_
        refine y_pure (pc' := 43) (st' := [.int (((nI 36) * x1) + x2), .ref 876]) rfl rfl ?_
        obtain ⟨hi13, h⟩ := zg_inv h
        refine y_iald (pc' := 44) rfl zc_876 hi13 rfl ?_
        refine y_pure (pc' := 49) rfl rfl ?_
        exact y_ret rfl rfl rfl rfl h
      · refine y_cmp (pc' := 47) rfl rfl (zc_leT hc12) rfl ?_
        refine y_pure (pc' := 49) (st' := [.int (-2 : Int32)]) rfl rfl ?_
        exact y_ret rfl rfl rfl rfl h
theorem e_M_isSolvedWith {d : Nat} {x1 : Int32} {x2 : Int32} {M : ZM} {r : ZR}  (h : zC1 (zEv d zmM_marks [.ref 866, .int x1] M) (fun v3 M2 => (if zin ((nI 112) + x1) 268 = true then zC1 (zEv d zmM_solves [.ref 866, .int (nI 1)] (zpi M2 867 (Int32.toNatClampNeg ((nI 112) + x1)) ((nI 1) <<< (x2 &&& 31)))) (fun v7 M6 => (if v7 = (nI 1) then some (some (.int (nI 1)), (zpi M6 867 (Int32.toNatClampNeg ((nI 112) + x1)) v3)) else some (some (.int (nI 0)), (zpi M6 867 (Int32.toNatClampNeg ((nI 112) + x1)) v3)))) else none)) = some r) : zEv (d + 1) zmM_isSolvedWith [.ref 866, .int x1, .int x2] M = some r := by
  rw [zEv_succ]
  show zEx0 (zEv d) zmM_isSolvedWith (0, [(0, .ref 866), (1, .int x1), (2, .int x2)], [], M) = some r
  refine y_pure (pc' := 1) (st' := [.ref 866]) rfl rfl ?_
  refine y_pure (pc' := 2) (st' := [.int x1, .ref 866]) rfl rfl ?_
  obtain ⟨v3, M2, he1, h⟩ := zC1_inv h
  refine y_callV (pc' := 5) (y := zmM_marks) (a' := [.int x1]) (st' := []) rfl rfl rfl rfl rfl (zrecv_o (o := 10) zc_866 rfl) rfl he1 rfl rfl ?_
  refine y_pure (pc' := 6) (ls' := [(0, .ref 866), (1, .int x1), (2, .int x2), (3, .int v3)]) (st' := []) rfl rfl ?_
  refine y_pure (pc' := 7) (st' := [.ref 866]) rfl rfl ?_
  refine y_getf (pc' := 10) (v := .ref 867) rfl rfl rfl zc_866 rfl rfl ?_
  refine y_pure (pc' := 12) (st' := [.int (nI 112), .ref 867]) rfl rfl ?_
  refine y_pure (pc' := 13) (st' := [.int x1, .int (nI 112), .ref 867]) rfl rfl ?_
  refine y_pure (pc' := 14) (st' := [.int ((nI 112) + x1), .ref 867]) rfl rfl ?_
  refine y_pure (pc' := 15) (st' := [.int (nI 1), .int ((nI 112) + x1), .ref 867]) rfl rfl ?_
  refine y_pure (pc' := 16) (st' := [.int x2, .int (nI 1), .int ((nI 112) + x1), .ref 867]) rfl rfl ?_
  refine y_pure (pc' := 17) (st' := [.int ((nI 1) <<< (x2 &&& 31)), .int ((nI 112) + x1), .ref 867]) rfl rfl ?_
  obtain ⟨hi4, h⟩ := zg_inv h
  refine y_iast (pc' := 18) rfl zc_867 hi4 rfl ?_
  refine y_pure (pc' := 19) (st' := [.ref 866]) rfl rfl ?_
  refine y_pure (pc' := 20) (st' := [.int (nI 1), .ref 866]) rfl rfl ?_
  obtain ⟨v7, M6, he5, h⟩ := zC1_inv h
  refine y_callV (pc' := 23) (y := zmM_solves) (a' := [.int (nI 1)]) (st' := []) rfl rfl rfl rfl rfl (zrecv_o (o := 10) zc_866 rfl) rfl he5 rfl rfl ?_
  refine y_pure (pc' := 24) (st' := [.int (nI 1), .int v7]) rfl rfl ?_
  rcases zif_inv h with ⟨hc8, h⟩ | ⟨hc8, h⟩
  · refine y_cmp (pc' := 27) rfl rfl (zc_neF hc8) rfl ?_
    refine y_pure (pc' := 28) (st' := [.int (nI 1)]) rfl rfl ?_
    refine y_pure (pc' := 32) rfl rfl ?_
    refine y_pure (pc' := 34) (ls' := [(0, .ref 866), (1, .int x1), (2, .int x2), (3, .int v3), (4, .int (nI 1))]) (st' := []) rfl rfl ?_
    refine y_pure (pc' := 35) (st' := [.ref 866]) rfl rfl ?_
    refine y_getf (pc' := 38) (v := .ref 867) rfl rfl rfl zc_866 rfl rfl ?_
    refine y_pure (pc' := 40) (st' := [.int (nI 112), .ref 867]) rfl rfl ?_
    refine y_pure (pc' := 41) (st' := [.int x1, .int (nI 112), .ref 867]) rfl rfl ?_
    refine y_pure (pc' := 42) (st' := [.int ((nI 112) + x1), .ref 867]) rfl rfl ?_
    refine y_pure (pc' := 43) (st' := [.int v3, .int ((nI 112) + x1), .ref 867]) rfl rfl ?_
    refine y_iast (pc' := 44) rfl zc_867 hi4 rfl ?_
    refine y_pure (pc' := 46) (st' := [.int (nI 1)]) rfl rfl ?_
    exact y_retZ rfl rfl (by decide) h
  · refine y_cmp (pc' := 31) rfl rfl (zc_neT hc8) rfl ?_
    refine y_pure (pc' := 32) (st' := [.int (nI 0)]) rfl rfl ?_
    refine y_pure (pc' := 34) (ls' := [(0, .ref 866), (1, .int x1), (2, .int x2), (3, .int v3), (4, .int (nI 0))]) (st' := []) rfl rfl ?_
    refine y_pure (pc' := 35) (st' := [.ref 866]) rfl rfl ?_
    refine y_getf (pc' := 38) (v := .ref 867) rfl rfl rfl zc_866 rfl rfl ?_
    refine y_pure (pc' := 40) (st' := [.int (nI 112), .ref 867]) rfl rfl ?_
    refine y_pure (pc' := 41) (st' := [.int x1, .int (nI 112), .ref 867]) rfl rfl ?_
    refine y_pure (pc' := 42) (st' := [.int ((nI 112) + x1), .ref 867]) rfl rfl ?_
    refine y_pure (pc' := 43) (st' := [.int v3, .int ((nI 112) + x1), .ref 867]) rfl rfl ?_
    refine y_iast (pc' := 44) rfl zc_867 hi4 rfl ?_
    refine y_pure (pc' := 46) (st' := [.int (nI 0)]) rfl rfl ?_
    exact y_retZ rfl rfl (by decide) h
noncomputable def h_M_agreed_4 (d : Nat) (x1 : Int32) (x2 : Int32) (x3 : Int32) (M : ZM) : Option ZR := zEx0 (zEv d) zmM_agreed (4, [(0, .ref 866), (1, .int x1), (2, .int x2), (3, .int x3)], [], M)
theorem e_M_agreed_4 {d : Nat} {x1 : Int32} {x2 : Int32} {x3 : Int32} {M : ZM} {r : ZR}  (h : zC1 (zEv d zmM_top [.ref 866] M) (fun v3 M2 => (if v3 < x3 then some (some (.int x2), M2) else zC1 (zEv d zmM_marks [.ref 866, .int x1] M2) (fun v7 M6 => zC1 (zEv d zmM_holds [.int v7, .int x3] M6) (fun v10 M9 => (if v10 = (nI 0) then h_M_agreed_4 d x1 (x2 ||| (nI 0)) (x3 + (nI 1)) M9 else zC1 (zEv d zmM_isSolvedWith [.ref 866, .int x1, .int x3] M9) (fun v14 M13 => (if v14 = (nI 0) then h_M_agreed_4 d x1 (x2 ||| (nI 0)) (x3 + (nI 1)) M13 else h_M_agreed_4 d x1 (x2 ||| ((nI 1) <<< (x3 &&& 31))) (x3 + (nI 1)) M13))))))) = some r) : h_M_agreed_4 d x1 x2 x3 M = some r := by
  show zEx0 (zEv d) zmM_agreed (4, [(0, .ref 866), (1, .int x1), (2, .int x2), (3, .int x3)], [], M) = some r
  refine y_pure (pc' := 5) (st' := [.int x3]) rfl rfl ?_
  refine y_pure (pc' := 6) (st' := [.ref 866, .int x3]) rfl rfl ?_
  obtain ⟨v3, M2, he1, h⟩ := zC1_inv h
  refine y_callV (pc' := 9) (y := zmM_top) (a' := []) (st' := [.int x3]) rfl rfl rfl rfl rfl (zrecv_o (o := 10) zc_866 rfl) rfl he1 rfl rfl ?_
  rcases zif_inv h with ⟨hc4, h⟩ | ⟨hc4, h⟩
  · refine y_cmp (pc' := 49) rfl rfl (zc_gtT hc4) rfl ?_
    refine y_pure (pc' := 50) (st' := [.int x2]) rfl rfl ?_
    exact y_ret rfl rfl rfl rfl h
  · refine y_cmp (pc' := 12) rfl rfl (zc_gtF hc4) rfl ?_
    refine y_pure (pc' := 13) (st' := [.int x2]) rfl rfl ?_
    refine y_pure (pc' := 14) (st' := [.ref 866, .int x2]) rfl rfl ?_
    refine y_pure (pc' := 15) (st' := [.int x1, .ref 866, .int x2]) rfl rfl ?_
    obtain ⟨v7, M6, he5, h⟩ := zC1_inv h
    refine y_callV (pc' := 18) (y := zmM_marks) (a' := [.int x1]) (st' := [.int x2]) rfl rfl rfl rfl rfl (zrecv_o (o := 10) zc_866 rfl) rfl he5 rfl rfl ?_
    refine y_pure (pc' := 19) (st' := [.int x3, .int v7, .int x2]) rfl rfl ?_
    obtain ⟨v10, M9, he8, h⟩ := zC1_inv h
    refine y_callS (pc' := 22) (y := zmM_holds) (a := [.int v7, .int x3]) (st' := [.int x2]) rfl rfl rfl rfl rfl rfl he8 rfl rfl ?_
    rcases zif_inv h with ⟨hc11, h⟩ | ⟨hc11, h⟩
    · refine y_cnd (pc' := 40) rfl rfl (zc_eqT hc11) rfl ?_
      refine y_pure (pc' := 41) (st' := [.int (nI 0), .int x2]) rfl rfl ?_
      refine y_pure (pc' := 42) (st' := [.int (x2 ||| (nI 0))]) rfl rfl ?_
      refine y_pure (pc' := 43) (ls' := [(0, .ref 866), (1, .int x1), (2, .int (x2 ||| (nI 0))), (3, .int x3)]) (st' := []) rfl rfl ?_
      refine y_pure (pc' := 46) (ls' := [(0, .ref 866), (1, .int x1), (2, .int (x2 ||| (nI 0))), (3, .int (x3 + (nI 1)))]) (st' := []) rfl rfl ?_
      refine y_pure (pc' := 4) rfl rfl ?_
      refine zEx_sub ?_ h
      exact ⟨rfl, rfl, rfl, rfl, trivial⟩
    · refine y_cnd (pc' := 25) rfl rfl (zc_eqF hc11) rfl ?_
      refine y_pure (pc' := 26) (st' := [.ref 866, .int x2]) rfl rfl ?_
      refine y_pure (pc' := 27) (st' := [.int x1, .ref 866, .int x2]) rfl rfl ?_
      refine y_pure (pc' := 28) (st' := [.int x3, .int x1, .ref 866, .int x2]) rfl rfl ?_
      obtain ⟨v14, M13, he12, h⟩ := zC1_inv h
      refine y_callV (pc' := 31) (y := zmM_isSolvedWith) (a' := [.int x1, .int x3]) (st' := [.int x2]) rfl rfl rfl rfl rfl (zrecv_o (o := 10) zc_866 rfl) rfl he12 rfl rfl ?_
      rcases zif_inv h with ⟨hc15, h⟩ | ⟨hc15, h⟩
      · refine y_cnd (pc' := 40) rfl rfl (zc_eqT hc15) rfl ?_
        refine y_pure (pc' := 41) (st' := [.int (nI 0), .int x2]) rfl rfl ?_
        refine y_pure (pc' := 42) (st' := [.int (x2 ||| (nI 0))]) rfl rfl ?_
        refine y_pure (pc' := 43) (ls' := [(0, .ref 866), (1, .int x1), (2, .int (x2 ||| (nI 0))), (3, .int x3)]) (st' := []) rfl rfl ?_
        refine y_pure (pc' := 46) (ls' := [(0, .ref 866), (1, .int x1), (2, .int (x2 ||| (nI 0))), (3, .int (x3 + (nI 1)))]) (st' := []) rfl rfl ?_
        refine y_pure (pc' := 4) rfl rfl ?_
        refine zEx_sub ?_ h
        exact ⟨rfl, rfl, rfl, rfl, trivial⟩
      · refine y_cnd (pc' := 34) rfl rfl (zc_eqF hc15) rfl ?_
        refine y_pure (pc' := 35) (st' := [.int (nI 1), .int x2]) rfl rfl ?_
        refine y_pure (pc' := 36) (st' := [.int x3, .int (nI 1), .int x2]) rfl rfl ?_
        refine y_pure (pc' := 37) (st' := [.int ((nI 1) <<< (x3 &&& 31)), .int x2]) rfl rfl ?_
        refine y_pure (pc' := 41) rfl rfl ?_
        refine y_pure (pc' := 42) (st' := [.int (x2 ||| ((nI 1) <<< (x3 &&& 31)))]) rfl rfl ?_
        refine y_pure (pc' := 43) (ls' := [(0, .ref 866), (1, .int x1), (2, .int (x2 ||| ((nI 1) <<< (x3 &&& 31)))), (3, .int x3)]) (st' := []) rfl rfl ?_
        refine y_pure (pc' := 46) (ls' := [(0, .ref 866), (1, .int x1), (2, .int (x2 ||| ((nI 1) <<< (x3 &&& 31)))), (3, .int (x3 + (nI 1)))]) (st' := []) rfl rfl ?_
        refine y_pure (pc' := 4) rfl rfl ?_
        refine zEx_sub ?_ h
        exact ⟨rfl, rfl, rfl, rfl, trivial⟩
theorem e_M_agreed {d : Nat} {x1 : Int32} {M : ZM} {r : ZR}  (h : h_M_agreed_4 d x1 (nI 0) (nI 1) M = some r) : zEv (d + 1) zmM_agreed [.ref 866, .int x1] M = some r := by
  rw [zEv_succ]
  show zEx0 (zEv d) zmM_agreed (0, [(0, .ref 866), (1, .int x1)], [], M) = some r
  refine y_pure (pc' := 1) (st' := [.int (nI 0)]) rfl rfl ?_
  refine y_pure (pc' := 2) (ls' := [(0, .ref 866), (1, .int x1), (2, .int (nI 0))]) (st' := []) rfl rfl ?_
  refine y_pure (pc' := 3) (st' := [.int (nI 1)]) rfl rfl ?_
  refine y_pure (pc' := 4) (ls' := [(0, .ref 866), (1, .int x1), (2, .int (nI 0)), (3, .int (nI 1))]) (st' := []) rfl rfl ?_
  refine zEx_sub ?_ h
  exact ⟨rfl, rfl, rfl, rfl, trivial⟩
theorem e_M_agree {d : Nat} {x1 : Int32} {M : ZM} {r : ZR}  (h : zC1 (zEv d zmM_isOpen [.ref 866, .int x1] M) (fun v3 M2 => (if v3 = (nI 0) then some (some (.int (-1 : Int32)), M2) else zC1 (zEv d zmM_agreed [.ref 866, .int x1] M2) (fun v7 M6 => some (some (.int v7), M6)))) = some r) : zEv (d + 1) zmM_agree [.ref 866, .int x1] M = some r := by
  rw [zEv_succ]
  show zEx0 (zEv d) zmM_agree (0, [(0, .ref 866), (1, .int x1)], [], M) = some r
  refine y_pure (pc' := 1) (st' := [.ref 866]) rfl rfl ?_
  refine y_pure (pc' := 2) (st' := [.int x1, .ref 866]) rfl rfl ?_
  obtain ⟨v3, M2, he1, h⟩ := zC1_inv h
  refine y_callV (pc' := 5) (y := zmM_isOpen) (a' := [.int x1]) (st' := []) rfl rfl rfl rfl rfl (zrecv_o (o := 10) zc_866 rfl) rfl he1 rfl rfl ?_
  rcases zif_inv h with ⟨hc4, h⟩ | ⟨hc4, h⟩
  · refine y_cnd (pc' := 16) rfl rfl (zc_eqT hc4) rfl ?_
    refine y_pure (pc' := 17) (st' := [.int (-1 : Int32)]) rfl rfl ?_
    exact y_ret rfl rfl rfl rfl h
  · refine y_cnd (pc' := 8) rfl rfl (zc_eqF hc4) rfl ?_
    refine y_pure (pc' := 9) (st' := [.ref 866]) rfl rfl ?_
    refine y_pure (pc' := 10) (st' := [.int x1, .ref 866]) rfl rfl ?_
    obtain ⟨v7, M6, he5, h⟩ := zC1_inv h
    refine y_callV (pc' := 13) (y := zmM_agreed) (a' := [.int x1]) (st' := []) rfl rfl rfl rfl rfl (zrecv_o (o := 10) zc_866 rfl) rfl he5 rfl rfl ?_
    refine y_pure (pc' := 17) rfl rfl ?_
    exact y_ret rfl rfl rfl rfl h
noncomputable def h_M_hint_21 (d : Nat) (x1 : Int32) (x2 : Int32) (M : ZM) : Option ZR := zEx0 (zEv d) zmM_hint (21, [(0, .ref 866), (1, .int x1), (2, .int x2)], [], M)
theorem e_M_hint_21 {d : Nat} {x1 : Int32} {x2 : Int32} {M : ZM} {r : ZR}  (h : zC1 (zEv d zmM_cells [.ref 866] M) (fun v3 M2 => (if x2 < v3 then zC1 (zEv d zmM_isOpen [.ref 866, .int x2] M2) (fun v7 M6 => (if v7 = (nI 0) then h_M_hint_21 d x1 (x2 + (nI 1)) M6 else zC1 (zEv d zmM_isDone [.ref 866, .int x2] M6) (fun v11 M10 => (if v11 = (nI 0) then zC1 (zEv d zmM_agreed [.ref 866, .int x2] M10) (fun v15 M14 => (if v15 = (nI 0) then some (some (.int (-2 : Int32)), M14) else zC1 (zEv d zmM_bits [.int v15] M14) (fun v19 M18 => (if v19 = (nI 1) then (if x1 = (nI 0) then some (some (.int x2), M18) else zC1 (zEv d zmM_least [.ref 866, .int v15] M18) (fun v24 M23 => some (some (.int v24), M23))) else h_M_hint_21 d x1 (x2 + (nI 1)) M18)))) else h_M_hint_21 d x1 (x2 + (nI 1)) M10)))) else some (some (.int (-2 : Int32)), M2))) = some r) : h_M_hint_21 d x1 x2 M = some r := by
  show zEx0 (zEv d) zmM_hint (21, [(0, .ref 866), (1, .int x1), (2, .int x2)], [], M) = some r
  refine y_pure (pc' := 22) (st' := [.int x2]) rfl rfl ?_
  refine y_pure (pc' := 23) (st' := [.ref 866, .int x2]) rfl rfl ?_
  obtain ⟨v3, M2, he1, h⟩ := zC1_inv h
  refine y_callV (pc' := 26) (y := zmM_cells) (a' := []) (st' := [.int x2]) rfl rfl rfl rfl rfl (zrecv_o (o := 10) zc_866 rfl) rfl he1 rfl rfl ?_
  rcases zif_inv h with ⟨hc4, h⟩ | ⟨hc4, h⟩
  · refine y_cmp (pc' := 29) rfl rfl (zc_geF hc4) rfl ?_
    refine y_pure (pc' := 30) (st' := [.ref 866]) rfl rfl ?_
    refine y_pure (pc' := 31) (st' := [.int x2, .ref 866]) rfl rfl ?_
    obtain ⟨v7, M6, he5, h⟩ := zC1_inv h
    refine y_callV (pc' := 34) (y := zmM_isOpen) (a' := [.int x2]) (st' := []) rfl rfl rfl rfl rfl (zrecv_o (o := 10) zc_866 rfl) rfl he5 rfl rfl ?_
    rcases zif_inv h with ⟨hc8, h⟩ | ⟨hc8, h⟩
    · refine y_cnd (pc' := 83) rfl rfl (zc_eqT hc8) rfl ?_
      refine y_pure (pc' := 86) (ls' := [(0, .ref 866), (1, .int x1), (2, .int (x2 + (nI 1)))]) (st' := []) rfl rfl ?_
      refine y_pure (pc' := 21) rfl rfl ?_
      refine zEx_sub ?_ h
      exact ⟨rfl, rfl, rfl, trivial⟩
    · refine y_cnd (pc' := 37) rfl rfl (zc_eqF hc8) rfl ?_
      refine y_pure (pc' := 38) (st' := [.ref 866]) rfl rfl ?_
      refine y_pure (pc' := 39) (st' := [.int x2, .ref 866]) rfl rfl ?_
      obtain ⟨v11, M10, he9, h⟩ := zC1_inv h
      refine y_callV (pc' := 42) (y := zmM_isDone) (a' := [.int x2]) (st' := []) rfl rfl rfl rfl rfl (zrecv_o (o := 10) zc_866 rfl) rfl he9 rfl rfl ?_
      rcases zif_inv h with ⟨hc12, h⟩ | ⟨hc12, h⟩
      · refine y_cnd (pc' := 48) rfl rfl (zc_eqT hc12) rfl ?_
        refine y_pure (pc' := 49) (st' := [.ref 866]) rfl rfl ?_
        refine y_pure (pc' := 50) (st' := [.int x2, .ref 866]) rfl rfl ?_
        obtain ⟨v15, M14, he13, h⟩ := zC1_inv h
        refine y_callV (pc' := 53) (y := zmM_agreed) (a' := [.int x2]) (st' := []) rfl rfl rfl rfl rfl (zrecv_o (o := 10) zc_866 rfl) rfl he13 rfl rfl ?_
        refine y_pure (pc' := 54) (ls' := [(0, .ref 866), (1, .int x1), (2, .int x2), (3, .int v15)]) (st' := []) rfl rfl ?_
        refine y_pure (pc' := 55) (st' := [.int v15]) rfl rfl ?_
        rcases zif_inv h with ⟨hc16, h⟩ | ⟨hc16, h⟩
        · refine y_cnd (pc' := 58) rfl rfl (zc_neF hc16) rfl ?_
          refine y_pure (pc' := 60) (st' := [.int (-2 : Int32)]) rfl rfl ?_
          exact y_ret rfl rfl rfl rfl h
        · refine y_cnd (pc' := 61) rfl rfl (zc_neT hc16) rfl ?_
          refine y_pure (pc' := 62) (st' := [.int v15]) rfl rfl ?_
          obtain ⟨v19, M18, he17, h⟩ := zC1_inv h
          refine y_callS (pc' := 65) (y := zmM_bits) (a := [.int v15]) (st' := []) rfl rfl rfl rfl rfl rfl he17 rfl rfl ?_
          refine y_pure (pc' := 66) (st' := [.int (nI 1), .int v19]) rfl rfl ?_
          rcases zif_inv h with ⟨hc20, h⟩ | ⟨hc20, h⟩
          · refine y_cmp (pc' := 69) rfl rfl (zc_neF hc20) rfl ?_
            refine y_pure (pc' := 70) (st' := [.int x1]) rfl rfl ?_
            rcases zif_inv h with ⟨hc21, h⟩ | ⟨hc21, h⟩
            · refine y_cnd (pc' := 73) rfl rfl (zc_neF hc21) rfl ?_
              refine y_pure (pc' := 74) (st' := [.int x2]) rfl rfl ?_
              refine y_pure (pc' := 82) rfl rfl ?_
              exact y_ret rfl rfl rfl rfl h
            · refine y_cnd (pc' := 77) rfl rfl (zc_neT hc21) rfl ?_
              refine y_pure (pc' := 78) (st' := [.ref 866]) rfl rfl ?_
              refine y_pure (pc' := 79) (st' := [.int v15, .ref 866]) rfl rfl ?_
              obtain ⟨v24, M23, he22, h⟩ := zC1_inv h
              refine y_callV (pc' := 82) (y := zmM_least) (a' := [.int v15]) (st' := []) rfl rfl rfl rfl rfl (zrecv_o (o := 10) zc_866 rfl) rfl he22 rfl rfl ?_
              exact y_ret rfl rfl rfl rfl h
          · refine y_cmp (pc' := 83) rfl rfl (zc_neT hc20) rfl ?_
            refine y_pure (pc' := 86) (ls' := [(0, .ref 866), (1, .int x1), (2, .int (x2 + (nI 1))), (3, .int v15)]) (st' := []) rfl rfl ?_
            refine y_pure (pc' := 21) rfl rfl ?_
            refine zEx_sub ?_ h
            exact ⟨rfl, rfl, rfl, trivial⟩
      · refine y_cnd (pc' := 45) rfl rfl (zc_eqF hc12) rfl ?_
        refine y_pure (pc' := 83) rfl rfl ?_
        refine y_pure (pc' := 86) (ls' := [(0, .ref 866), (1, .int x1), (2, .int (x2 + (nI 1)))]) (st' := []) rfl rfl ?_
        refine y_pure (pc' := 21) rfl rfl ?_
        refine zEx_sub ?_ h
        exact ⟨rfl, rfl, rfl, trivial⟩
  · refine y_cmp (pc' := 89) rfl rfl (zc_geT hc4) rfl ?_
    refine y_pure (pc' := 91) (st' := [.int (-2 : Int32)]) rfl rfl ?_
    exact y_ret rfl rfl rfl rfl h
theorem e_M_hint {d : Nat} {x1 : Int32} {M : ZM} {r : ZR}  (h : zC1 (zEv d zmM_isBoard [.ref 866] M) (fun v3 M2 => (if v3 = (nI 0) then some (some (.int (-1 : Int32)), M2) else zC1 (zEv d zmM_in [.long (Int32.toInt64 x1), .long (nJ 0), .long (nJ 1)] M2) (fun v7 M6 => (if v7 = (nI 0) then some (some (.int (-1 : Int32)), M6) else h_M_hint_21 d x1 (nI 0) M6)))) = some r) : zEv (d + 1) zmM_hint [.ref 866, .int x1] M = some r := by
  rw [zEv_succ]
  show zEx0 (zEv d) zmM_hint (0, [(0, .ref 866), (1, .int x1)], [], M) = some r
  refine y_pure (pc' := 1) (st' := [.ref 866]) rfl rfl ?_
  obtain ⟨v3, M2, he1, h⟩ := zC1_inv h
  refine y_callV (pc' := 4) (y := zmM_isBoard) (a' := []) (st' := []) rfl rfl rfl rfl rfl (zrecv_o (o := 10) zc_866 rfl) rfl he1 rfl rfl ?_
  rcases zif_inv h with ⟨hc4, h⟩ | ⟨hc4, h⟩
  · refine y_cnd (pc' := 17) rfl rfl (zc_eqT hc4) rfl ?_
    refine y_pure (pc' := 18) (st' := [.int (-1 : Int32)]) rfl rfl ?_
    exact y_ret rfl rfl rfl rfl h
  · refine y_cnd (pc' := 7) rfl rfl (zc_eqF hc4) rfl ?_
    refine y_pure (pc' := 8) (st' := [.int x1]) rfl rfl ?_
    refine y_pure (pc' := 9) (st' := [.long (Int32.toInt64 x1)]) rfl rfl ?_
    refine y_pure (pc' := 10) (st' := [.long (nJ 0), .long (Int32.toInt64 x1)]) rfl rfl ?_
    refine y_pure (pc' := 11) (st' := [.long (nJ 1), .long (nJ 0), .long (Int32.toInt64 x1)]) rfl rfl ?_
    obtain ⟨v7, M6, he5, h⟩ := zC1_inv h
    refine y_callS (pc' := 14) (y := zmM_in) (a := [.long (Int32.toInt64 x1), .long (nJ 0), .long (nJ 1)]) (st' := []) rfl rfl rfl rfl rfl rfl he5 rfl rfl ?_
    rcases zif_inv h with ⟨hc8, h⟩ | ⟨hc8, h⟩
    · refine y_cnd (pc' := 17) rfl rfl (zc_neF hc8) rfl ?_
      refine y_pure (pc' := 18) (st' := [.int (-1 : Int32)]) rfl rfl ?_
      exact y_ret rfl rfl rfl rfl h
    · refine y_cnd (pc' := 19) rfl rfl (zc_neT hc8) rfl ?_
      refine y_pure (pc' := 20) (st' := [.int (nI 0)]) rfl rfl ?_
      refine y_pure (pc' := 21) (ls' := [(0, .ref 866), (1, .int x1), (2, .int (nI 0))]) (st' := []) rfl rfl ?_
      refine zEx_sub ?_ h
      exact ⟨rfl, rfl, rfl, trivial⟩
noncomputable def h_M_clears_2 (d : Nat) (x1 : Int32) (M : ZM) : Option ZR := zEx0 (zEv d) zmM_clears (2, [(0, .ref 866), (1, .int x1)], [], M)
noncomputable def h_M_clears_43 (d : Nat) (x1 : Int32) (M : ZM) : Option ZR := zEx0 (zEv d) zmM_clears (43, [(0, .ref 866), (1, .int x1)], [], M)
theorem e_M_clears_2 {d : Nat} {x1 : Int32} {M : ZM} {r : ZR}  (h : zC1 (zEv d zmM_cells [.ref 866] M) (fun v3 M2 => (if x1 < v3 then zC1 (zEv d zmM_isOpen [.ref 866, .int x1] M2) (fun v7 M6 => (if v7 = (nI 0) then h_M_clears_2 d (x1 + (nI 1)) M6 else (if zin ((nI 76) + x1) 268 = true then (if (M6.1 867 (Int32.toNatClampNeg ((nI 76) + x1))) = (nI 0) then (if zin ((nI 40) + x1) 268 = true then h_M_clears_43 d x1 (zpi M6 867 (Int32.toNatClampNeg ((nI 40) + x1)) (nI 0)) else none) else h_M_clears_43 d x1 M6) else none))) else some (none, M2))) = some r) : h_M_clears_2 d x1 M = some r := by
  show zEx0 (zEv d) zmM_clears (2, [(0, .ref 866), (1, .int x1)], [], M) = some r
  refine y_pure (pc' := 3) (st' := [.int x1]) rfl rfl ?_
  refine y_pure (pc' := 4) (st' := [.ref 866, .int x1]) rfl rfl ?_
  obtain ⟨v3, M2, he1, h⟩ := zC1_inv h
  refine y_callV (pc' := 7) (y := zmM_cells) (a' := []) (st' := [.int x1]) rfl rfl rfl rfl rfl (zrecv_o (o := 10) zc_866 rfl) rfl he1 rfl rfl ?_
  rcases zif_inv h with ⟨hc4, h⟩ | ⟨hc4, h⟩
  · refine y_cmp (pc' := 10) rfl rfl (zc_geF hc4) rfl ?_
    refine y_pure (pc' := 11) (st' := [.ref 866]) rfl rfl ?_
    refine y_pure (pc' := 12) (st' := [.int x1, .ref 866]) rfl rfl ?_
    obtain ⟨v7, M6, he5, h⟩ := zC1_inv h
    refine y_callV (pc' := 15) (y := zmM_isOpen) (a' := [.int x1]) (st' := []) rfl rfl rfl rfl rfl (zrecv_o (o := 10) zc_866 rfl) rfl he5 rfl rfl ?_
    rcases zif_inv h with ⟨hc8, h⟩ | ⟨hc8, h⟩
    · refine y_cnd (pc' := 18) rfl rfl (zc_neF hc8) rfl ?_
      refine y_pure (pc' := 82) rfl rfl ?_
      refine y_pure (pc' := 85) (ls' := [(0, .ref 866), (1, .int (x1 + (nI 1)))]) (st' := []) rfl rfl ?_
      refine y_pure (pc' := 2) rfl rfl ?_
      refine zEx_sub ?_ h
      exact ⟨rfl, rfl, trivial⟩
    · refine y_cnd (pc' := 21) rfl rfl (zc_neT hc8) rfl ?_
      refine y_pure (pc' := 22) (st' := [.ref 866]) rfl rfl ?_
      refine y_getf (pc' := 25) (v := .ref 867) rfl rfl rfl zc_866 rfl rfl ?_
      refine y_pure (pc' := 27) (st' := [.int (nI 76), .ref 867]) rfl rfl ?_
      refine y_pure (pc' := 28) (st' := [.int x1, .int (nI 76), .ref 867]) rfl rfl ?_
      refine y_pure (pc' := 29) (st' := [.int ((nI 76) + x1), .ref 867]) rfl rfl ?_
      obtain ⟨hi9, h⟩ := zg_inv h
      refine y_iald (pc' := 30) rfl zc_867 hi9 rfl ?_
      rcases zif_inv h with ⟨hc10, h⟩ | ⟨hc10, h⟩
      · refine y_cnd (pc' := 33) rfl rfl (zc_neF hc10) rfl ?_
        refine y_pure (pc' := 34) (st' := [.ref 866]) rfl rfl ?_
        refine y_getf (pc' := 37) (v := .ref 867) rfl rfl rfl zc_866 rfl rfl ?_
        refine y_pure (pc' := 39) (st' := [.int (nI 40), .ref 867]) rfl rfl ?_
        refine y_pure (pc' := 40) (st' := [.int x1, .int (nI 40), .ref 867]) rfl rfl ?_
        refine y_pure (pc' := 41) (st' := [.int ((nI 40) + x1), .ref 867]) rfl rfl ?_
        refine y_pure (pc' := 42) (st' := [.int (nI 0), .int ((nI 40) + x1), .ref 867]) rfl rfl ?_
        obtain ⟨hi11, h⟩ := zg_inv h
        refine y_iast (pc' := 43) rfl zc_867 hi11 rfl ?_
        refine zEx_sub ?_ h
        exact ⟨rfl, rfl, trivial⟩
      · refine y_cnd (pc' := 43) rfl rfl (zc_neT hc10) rfl ?_
        refine zEx_sub ?_ h
        exact ⟨rfl, rfl, trivial⟩
  · refine y_cmp (pc' := 88) rfl rfl (zc_geT hc4) rfl ?_
    exact y_ret rfl rfl rfl rfl h
theorem e_M_clears_43 {d : Nat} {x1 : Int32} {M : ZM} {r : ZR}  (h : (if zin ((nI 76) + x1) 268 = true then (if (M.1 867 (Int32.toNatClampNeg ((nI 76) + x1))) = (nI 0) then zC1 (zEv d zmM_allMarks [.ref 866] M) (fun v5 M4 => (if zin ((nI 112) + x1) 268 = true then h_M_clears_2 d (x1 + (nI 1)) (zpi M4 867 (Int32.toNatClampNeg ((nI 112) + x1)) v5) else none)) else (if zin ((nI 40) + x1) 268 = true then (if zin ((nI 112) + x1) 268 = true then h_M_clears_2 d (x1 + (nI 1)) (zpi M 867 (Int32.toNatClampNeg ((nI 112) + x1)) ((nI 1) <<< ((M.1 867 (Int32.toNatClampNeg ((nI 40) + x1))) &&& 31))) else none) else none)) else none) = some r) : h_M_clears_43 d x1 M = some r := by
  show zEx0 (zEv d) zmM_clears (43, [(0, .ref 866), (1, .int x1)], [], M) = some r
  refine y_pure (pc' := 44) (st' := [.ref 866]) rfl rfl ?_
  refine y_getf (pc' := 47) (v := .ref 867) rfl rfl rfl zc_866 rfl rfl ?_
  refine y_pure (pc' := 49) (st' := [.int (nI 112), .ref 867]) rfl rfl ?_
  refine y_pure (pc' := 50) (st' := [.int x1, .int (nI 112), .ref 867]) rfl rfl ?_
  refine y_pure (pc' := 51) (st' := [.int ((nI 112) + x1), .ref 867]) rfl rfl ?_
  refine y_pure (pc' := 52) (st' := [.ref 866, .int ((nI 112) + x1), .ref 867]) rfl rfl ?_
  refine y_getf (pc' := 55) (v := .ref 867) rfl rfl rfl zc_866 rfl rfl ?_
  refine y_pure (pc' := 57) (st' := [.int (nI 76), .ref 867, .int ((nI 112) + x1), .ref 867]) rfl rfl ?_
  refine y_pure (pc' := 58) (st' := [.int x1, .int (nI 76), .ref 867, .int ((nI 112) + x1), .ref 867]) rfl rfl ?_
  refine y_pure (pc' := 59) (st' := [.int ((nI 76) + x1), .ref 867, .int ((nI 112) + x1), .ref 867]) rfl rfl ?_
  obtain ⟨hi1, h⟩ := zg_inv h
  refine y_iald (pc' := 60) rfl zc_867 hi1 rfl ?_
  rcases zif_inv h with ⟨hc2, h⟩ | ⟨hc2, h⟩
  · refine y_cnd (pc' := 63) rfl rfl (zc_neF hc2) rfl ?_
    refine y_pure (pc' := 64) (st' := [.ref 866, .int ((nI 112) + x1), .ref 867]) rfl rfl ?_
    obtain ⟨v5, M4, he3, h⟩ := zC1_inv h
    refine y_callV (pc' := 67) (y := zmM_allMarks) (a' := []) (st' := [.int ((nI 112) + x1), .ref 867]) rfl rfl rfl rfl rfl (zrecv_o (o := 10) zc_866 rfl) rfl he3 rfl rfl ?_
    refine y_pure (pc' := 81) rfl rfl ?_
    obtain ⟨hi6, h⟩ := zg_inv h
    refine y_iast (pc' := 82) rfl zc_867 hi6 rfl ?_
    refine y_pure (pc' := 85) (ls' := [(0, .ref 866), (1, .int (x1 + (nI 1)))]) (st' := []) rfl rfl ?_
    refine y_pure (pc' := 2) rfl rfl ?_
    refine zEx_sub ?_ h
    exact ⟨rfl, rfl, trivial⟩
  · refine y_cnd (pc' := 70) rfl rfl (zc_neT hc2) rfl ?_
    refine y_pure (pc' := 71) (st' := [.int (nI 1), .int ((nI 112) + x1), .ref 867]) rfl rfl ?_
    refine y_pure (pc' := 72) (st' := [.ref 866, .int (nI 1), .int ((nI 112) + x1), .ref 867]) rfl rfl ?_
    refine y_getf (pc' := 75) (v := .ref 867) rfl rfl rfl zc_866 rfl rfl ?_
    refine y_pure (pc' := 77) (st' := [.int (nI 40), .ref 867, .int (nI 1), .int ((nI 112) + x1), .ref 867]) rfl rfl ?_
    refine y_pure (pc' := 78) (st' := [.int x1, .int (nI 40), .ref 867, .int (nI 1), .int ((nI 112) + x1), .ref 867]) rfl rfl ?_
    refine y_pure (pc' := 79) (st' := [.int ((nI 40) + x1), .ref 867, .int (nI 1), .int ((nI 112) + x1), .ref 867]) rfl rfl ?_
    obtain ⟨hi7, h⟩ := zg_inv h
    refine y_iald (pc' := 80) rfl zc_867 hi7 rfl ?_
    refine y_pure (pc' := 81) (st' := [.int ((nI 1) <<< ((M.1 867 (Int32.toNatClampNeg ((nI 40) + x1))) &&& 31)), .int ((nI 112) + x1), .ref 867]) rfl rfl ?_
    obtain ⟨hi8, h⟩ := zg_inv h
    refine y_iast (pc' := 82) rfl zc_867 hi8 rfl ?_
    refine y_pure (pc' := 85) (ls' := [(0, .ref 866), (1, .int (x1 + (nI 1)))]) (st' := []) rfl rfl ?_
    refine y_pure (pc' := 2) rfl rfl ?_
    refine zEx_sub ?_ h
    exact ⟨rfl, rfl, trivial⟩
theorem e_M_clears {d : Nat}  {M : ZM} {r : ZR}  (h : h_M_clears_2 d (nI 0) M = some r) : zEv (d + 1) zmM_clears [.ref 866] M = some r := by
  rw [zEv_succ]
  show zEx0 (zEv d) zmM_clears (0, [(0, .ref 866)], [], M) = some r
  refine y_pure (pc' := 1) (st' := [.int (nI 0)]) rfl rfl ?_
  refine y_pure (pc' := 2) (ls' := [(0, .ref 866), (1, .int (nI 0))]) (st' := []) rfl rfl ?_
  refine zEx_sub ?_ h
  exact ⟨rfl, rfl, trivial⟩
noncomputable def h_M_wrong_62 (d : Nat) (x1 : Int32) (x3 : Int32) (x4 : Int32) (x5 : Int32) (M : ZM) : Option ZR := zEx0 (zEv d) zmM_wrong (62, [(0, .ref 866), (1, .int x1), (3, .int x3), (4, .int x4), (5, .int x5)], [], M)
theorem e_M_wrong_62 {d : Nat} {x1 : Int32} {x3 : Int32} {x4 : Int32} {x5 : Int32} {M : ZM} {r : ZR}  (h : zC1 (zEv d zmM_cells [.ref 866] M) (fun v3 M2 => (if x5 < v3 then zC1 (zEv d zmM_isOpen [.ref 866, .int x5] M2) (fun v7 M6 => (if v7 = (nI 0) then h_M_wrong_62 d x1 x3 x4 (x5 + (nI 1)) M6 else zC1 (zEv d zmM_marks [.ref 866, .int x5] M6) (fun v11 M10 => (if zin x5 1800 = true then zC1 (zEv d zmM_holds [.int v11, .int (M10.1 876 (Int32.toNatClampNeg x5))] M10) (fun v15 M14 => (if v15 = (nI 0) then (if x4 = (-2 : Int32) then h_M_wrong_62 d x1 (x3 + (nI 1)) x5 (x5 + (nI 1)) M14 else h_M_wrong_62 d x1 (x3 + (nI 1)) x4 (x5 + (nI 1)) M14) else h_M_wrong_62 d x1 x3 x4 (x5 + (nI 1)) M14)) else none)))) else (if x1 = (nI 0) then some (some (.int x3), M2) else some (some (.int x4), M2)))) = some r) : h_M_wrong_62 d x1 x3 x4 x5 M = some r := by
  show zEx0 (zEv d) zmM_wrong (62, [(0, .ref 866), (1, .int x1), (3, .int x3), (4, .int x4), (5, .int x5)], [], M) = some r
  refine y_pure (pc' := 64) (st' := [.int x5]) rfl rfl ?_
  refine y_pure (pc' := 65) (st' := [.ref 866, .int x5]) rfl rfl ?_
  obtain ⟨v3, M2, he1, h⟩ := zC1_inv h
  refine y_callV (pc' := 68) (y := zmM_cells) (a' := []) (st' := [.int x5]) rfl rfl rfl rfl rfl (zrecv_o (o := 10) zc_866 rfl) rfl he1 rfl rfl ?_
  rcases zif_inv h with ⟨hc4, h⟩ | ⟨hc4, h⟩
  · refine y_cmp (pc' := 71) rfl rfl (zc_geF hc4) rfl ?_
    refine y_pure (pc' := 72) (st' := [.ref 866]) rfl rfl ?_
    refine y_pure (pc' := 74) (st' := [.int x5, .ref 866]) rfl rfl ?_
    obtain ⟨v7, M6, he5, h⟩ := zC1_inv h
    refine y_callV (pc' := 77) (y := zmM_isOpen) (a' := [.int x5]) (st' := []) rfl rfl rfl rfl rfl (zrecv_o (o := 10) zc_866 rfl) rfl he5 rfl rfl ?_
    rcases zif_inv h with ⟨hc8, h⟩ | ⟨hc8, h⟩
    · refine y_cnd (pc' := 121) rfl rfl (zc_eqT hc8) rfl ?_
      refine y_pure (pc' := 124) (ls' := [(0, .ref 866), (1, .int x1), (3, .int x3), (4, .int x4), (5, .int (x5 + (nI 1)))]) (st' := []) rfl rfl ?_
      refine y_pure (pc' := 62) rfl rfl ?_
      refine zEx_sub ?_ h
      exact ⟨rfl, rfl, rfl, rfl, rfl, trivial⟩
    · refine y_cnd (pc' := 80) rfl rfl (zc_eqF hc8) rfl ?_
      refine y_pure (pc' := 81) (st' := [.ref 866]) rfl rfl ?_
      refine y_pure (pc' := 83) (st' := [.int x5, .ref 866]) rfl rfl ?_
      obtain ⟨v11, M10, he9, h⟩ := zC1_inv h
      refine y_callV (pc' := 86) (y := zmM_marks) (a' := [.int x5]) (st' := []) rfl rfl rfl rfl rfl (zrecv_o (o := 10) zc_866 rfl) rfl he9 rfl rfl ?_
      refine y_pure (pc' := 87) (st' := [.ref 866, .int v11]) rfl rfl ?_
      refine y_getf (pc' := 90) (v := .ref 876) rfl rfl rfl zc_866 rfl rfl ?_
      refine y_pure (pc' := 92) (st' := [.int x5, .ref 876, .int v11]) rfl rfl ?_
      obtain ⟨hi12, h⟩ := zg_inv h
      refine y_iald (pc' := 93) rfl zc_876 hi12 rfl ?_
      obtain ⟨v15, M14, he13, h⟩ := zC1_inv h
      refine y_callS (pc' := 96) (y := zmM_holds) (a := [.int v11, .int (M10.1 876 (Int32.toNatClampNeg x5))]) (st' := []) rfl rfl rfl rfl rfl rfl he13 rfl rfl ?_
      rcases zif_inv h with ⟨hc16, h⟩ | ⟨hc16, h⟩
      · refine y_cnd (pc' := 102) rfl rfl (zc_eqT hc16) rfl ?_
        refine y_pure (pc' := 105) (ls' := [(0, .ref 866), (1, .int x1), (3, .int (x3 + (nI 1))), (4, .int x4), (5, .int x5)]) (st' := []) rfl rfl ?_
        refine y_pure (pc' := 107) (st' := [.int x4]) rfl rfl ?_
        refine y_pure (pc' := 109) (st' := [.int (-2 : Int32), .int x4]) rfl rfl ?_
        rcases zif_inv h with ⟨hc17, h⟩ | ⟨hc17, h⟩
        · refine y_cmp (pc' := 112) rfl rfl (zc_neF hc17) rfl ?_
          refine y_pure (pc' := 114) (st' := [.int x5]) rfl rfl ?_
          refine y_pure (pc' := 119) rfl rfl ?_
          refine y_pure (pc' := 121) (ls' := [(0, .ref 866), (1, .int x1), (3, .int (x3 + (nI 1))), (4, .int x5), (5, .int x5)]) (st' := []) rfl rfl ?_
          refine y_pure (pc' := 124) (ls' := [(0, .ref 866), (1, .int x1), (3, .int (x3 + (nI 1))), (4, .int x5), (5, .int (x5 + (nI 1)))]) (st' := []) rfl rfl ?_
          refine y_pure (pc' := 62) rfl rfl ?_
          refine zEx_sub ?_ h
          exact ⟨rfl, rfl, rfl, rfl, rfl, trivial⟩
        · refine y_cmp (pc' := 117) rfl rfl (zc_neT hc17) rfl ?_
          refine y_pure (pc' := 119) (st' := [.int x4]) rfl rfl ?_
          refine y_pure (pc' := 121) (ls' := [(0, .ref 866), (1, .int x1), (3, .int (x3 + (nI 1))), (4, .int x4), (5, .int x5)]) (st' := []) rfl rfl ?_
          refine y_pure (pc' := 124) (ls' := [(0, .ref 866), (1, .int x1), (3, .int (x3 + (nI 1))), (4, .int x4), (5, .int (x5 + (nI 1)))]) (st' := []) rfl rfl ?_
          refine y_pure (pc' := 62) rfl rfl ?_
          refine zEx_sub ?_ h
          exact ⟨rfl, rfl, rfl, rfl, rfl, trivial⟩
      · refine y_cnd (pc' := 99) rfl rfl (zc_eqF hc16) rfl ?_
        refine y_pure (pc' := 121) rfl rfl ?_
        refine y_pure (pc' := 124) (ls' := [(0, .ref 866), (1, .int x1), (3, .int x3), (4, .int x4), (5, .int (x5 + (nI 1)))]) (st' := []) rfl rfl ?_
        refine y_pure (pc' := 62) rfl rfl ?_
        refine zEx_sub ?_ h
        exact ⟨rfl, rfl, rfl, rfl, rfl, trivial⟩
  · refine y_cmp (pc' := 127) rfl rfl (zc_geT hc4) rfl ?_
    refine y_pure (pc' := 128) (st' := [.int x1]) rfl rfl ?_
    rcases zif_inv h with ⟨hc18, h⟩ | ⟨hc18, h⟩
    · refine y_cnd (pc' := 131) rfl rfl (zc_neF hc18) rfl ?_
      refine y_pure (pc' := 132) (st' := [.int x3]) rfl rfl ?_
      refine y_pure (pc' := 137) rfl rfl ?_
      exact y_ret rfl rfl rfl rfl h
    · refine y_cnd (pc' := 135) rfl rfl (zc_neT hc18) rfl ?_
      refine y_pure (pc' := 137) (st' := [.int x4]) rfl rfl ?_
      exact y_ret rfl rfl rfl rfl h
theorem e_M_wrong {d : Nat} {x1 : Int32} {M : ZM} {r : ZR}  (h : zC1 (zEv d zmM_isBoard [.ref 866] M) (fun v3 M2 => (if v3 = (nI 0) then some (some (.int (-1 : Int32)), M2) else zC1 (zEv d zmM_in [.long (Int32.toInt64 x1), .long (nJ 0), .long (nJ 1)] M2) (fun v7 M6 => (if v7 = (nI 0) then some (some (.int (-1 : Int32)), M6) else zC0 (zEv d zmM_putsAside [.ref 866] M6) (fun M10 => zC0 (zEv d zmM_clears [.ref 866] M10) (fun M12 => zC1 (zEv d zmM_solves [.ref 866, .int (nI 2)] M12) (fun v15 M14 => (if v15 = (nI 1) then zC0 (zEv d zmM_takesBack [.ref 866] M14) (fun M18 => h_M_wrong_62 d x1 (nI 0) (-2 : Int32) (nI 0) M18) else zC0 (zEv d zmM_takesBack [.ref 866] M14) (fun M21 => some (some (.int (-2 : Int32)), M21)))))))))) = some r) : zEv (d + 1) zmM_wrong [.ref 866, .int x1] M = some r := by
  rw [zEv_succ]
  show zEx0 (zEv d) zmM_wrong (0, [(0, .ref 866), (1, .int x1)], [], M) = some r
  refine y_pure (pc' := 1) (st' := [.ref 866]) rfl rfl ?_
  obtain ⟨v3, M2, he1, h⟩ := zC1_inv h
  refine y_callV (pc' := 4) (y := zmM_isBoard) (a' := []) (st' := []) rfl rfl rfl rfl rfl (zrecv_o (o := 10) zc_866 rfl) rfl he1 rfl rfl ?_
  rcases zif_inv h with ⟨hc4, h⟩ | ⟨hc4, h⟩
  · refine y_cnd (pc' := 17) rfl rfl (zc_eqT hc4) rfl ?_
    refine y_pure (pc' := 18) (st' := [.int (-1 : Int32)]) rfl rfl ?_
    exact y_ret rfl rfl rfl rfl h
  · refine y_cnd (pc' := 7) rfl rfl (zc_eqF hc4) rfl ?_
    refine y_pure (pc' := 8) (st' := [.int x1]) rfl rfl ?_
    refine y_pure (pc' := 9) (st' := [.long (Int32.toInt64 x1)]) rfl rfl ?_
    refine y_pure (pc' := 10) (st' := [.long (nJ 0), .long (Int32.toInt64 x1)]) rfl rfl ?_
    refine y_pure (pc' := 11) (st' := [.long (nJ 1), .long (nJ 0), .long (Int32.toInt64 x1)]) rfl rfl ?_
    obtain ⟨v7, M6, he5, h⟩ := zC1_inv h
    refine y_callS (pc' := 14) (y := zmM_in) (a := [.long (Int32.toInt64 x1), .long (nJ 0), .long (nJ 1)]) (st' := []) rfl rfl rfl rfl rfl rfl he5 rfl rfl ?_
    rcases zif_inv h with ⟨hc8, h⟩ | ⟨hc8, h⟩
    · refine y_cnd (pc' := 17) rfl rfl (zc_neF hc8) rfl ?_
      refine y_pure (pc' := 18) (st' := [.int (-1 : Int32)]) rfl rfl ?_
      exact y_ret rfl rfl rfl rfl h
    · refine y_cnd (pc' := 19) rfl rfl (zc_neT hc8) rfl ?_
      refine y_pure (pc' := 20) (st' := [.ref 866]) rfl rfl ?_
      obtain ⟨M10, he9, h⟩ := zC0_inv h
      refine y_callV (pc' := 23) (y := zmM_putsAside) (a' := []) (st' := []) rfl rfl rfl rfl rfl (zrecv_o (o := 10) zc_866 rfl) rfl he9 rfl rfl ?_
      refine y_pure (pc' := 24) (st' := [.ref 866]) rfl rfl ?_
      obtain ⟨M12, he11, h⟩ := zC0_inv h
      refine y_callV (pc' := 27) (y := zmM_clears) (a' := []) (st' := []) rfl rfl rfl rfl rfl (zrecv_o (o := 10) zc_866 rfl) rfl he11 rfl rfl ?_
      refine y_pure (pc' := 28) (st' := [.ref 866]) rfl rfl ?_
      refine y_pure (pc' := 29) (st' := [.int (nI 2), .ref 866]) rfl rfl ?_
      obtain ⟨v15, M14, he13, h⟩ := zC1_inv h
      refine y_callV (pc' := 32) (y := zmM_solves) (a' := [.int (nI 2)]) (st' := []) rfl rfl rfl rfl rfl (zrecv_o (o := 10) zc_866 rfl) rfl he13 rfl rfl ?_
      refine y_pure (pc' := 33) (st' := [.int (nI 1), .int v15]) rfl rfl ?_
      rcases zif_inv h with ⟨hc16, h⟩ | ⟨hc16, h⟩
      · refine y_cmp (pc' := 36) rfl rfl (zc_neF hc16) rfl ?_
        refine y_pure (pc' := 37) (st' := [.int (nI 1)]) rfl rfl ?_
        refine y_pure (pc' := 41) rfl rfl ?_
        refine y_pure (pc' := 42) (ls' := [(0, .ref 866), (1, .int x1), (2, .int (nI 1))]) (st' := []) rfl rfl ?_
        refine y_pure (pc' := 43) (st' := [.ref 866]) rfl rfl ?_
        obtain ⟨M18, he17, h⟩ := zC0_inv h
        refine y_callV (pc' := 46) (y := zmM_takesBack) (a' := []) (st' := []) rfl rfl rfl rfl rfl (zrecv_o (o := 10) zc_866 rfl) rfl he17 rfl rfl ?_
        refine y_pure (pc' := 47) (st' := [.int (nI 1)]) rfl rfl ?_
        refine y_cnd (pc' := 53) rfl rfl (zc_neT (by decide)) rfl ?_
        refine y_pure (pc' := 54) (st' := [.int (nI 0)]) rfl rfl ?_
        refine y_pure (pc' := 55) (ls' := [(0, .ref 866), (1, .int x1), (2, .int (nI 1)), (3, .int (nI 0))]) (st' := []) rfl rfl ?_
        refine y_pure (pc' := 57) (st' := [.int (-2 : Int32)]) rfl rfl ?_
        refine y_pure (pc' := 59) (ls' := [(0, .ref 866), (1, .int x1), (2, .int (nI 1)), (3, .int (nI 0)), (4, .int (-2 : Int32))]) (st' := []) rfl rfl ?_
        refine y_pure (pc' := 60) (st' := [.int (nI 0)]) rfl rfl ?_
        refine y_pure (pc' := 62) (ls' := [(0, .ref 866), (1, .int x1), (2, .int (nI 1)), (3, .int (nI 0)), (4, .int (-2 : Int32)), (5, .int (nI 0))]) (st' := []) rfl rfl ?_
        refine zEx_sub ?_ h
        exact ⟨rfl, rfl, rfl, rfl, rfl, trivial⟩
      · refine y_cmp (pc' := 40) rfl rfl (zc_neT hc16) rfl ?_
        refine y_pure (pc' := 41) (st' := [.int (nI 0)]) rfl rfl ?_
        refine y_pure (pc' := 42) (ls' := [(0, .ref 866), (1, .int x1), (2, .int (nI 0))]) (st' := []) rfl rfl ?_
        refine y_pure (pc' := 43) (st' := [.ref 866]) rfl rfl ?_
        obtain ⟨M21, he20, h⟩ := zC0_inv h
        refine y_callV (pc' := 46) (y := zmM_takesBack) (a' := []) (st' := []) rfl rfl rfl rfl rfl (zrecv_o (o := 10) zc_866 rfl) rfl he20 rfl rfl ?_
        refine y_pure (pc' := 47) (st' := [.int (nI 0)]) rfl rfl ?_
        refine y_cnd (pc' := 50) rfl rfl (zc_neF (by decide)) rfl ?_
        refine y_pure (pc' := 52) (st' := [.int (-2 : Int32)]) rfl rfl ?_
        exact y_ret rfl rfl rfl rfl h
noncomputable def h_M_idle_23 (d : Nat) (x1 : Int64) (x3 : Int32) (M : ZM) : Option ZR := zEx0 (zEv d) zmM_idle (23, [(0, .ref 866), (1, .long x1), (3, .int x3)], [], M)
theorem e_M_idle_23 {d : Nat} {x1 : Int64} {x3 : Int32} {M : ZM} {r : ZR}  (h : zC1 (zEv d zmM_cells [.ref 866] M) (fun v3 M2 => (if x3 < v3 then (if zin ((nI 76) + x3) 268 = true then (if (M2.1 867 (Int32.toNatClampNeg ((nI 76) + x3))) = (nI 0) then h_M_idle_23 d x1 (x3 + (nI 1)) M2 else zC1 (zEv d zmM_marks [.ref 866, .int x3] M2) (fun v9 M8 => zC1 (zEv d zmM_allMarks [.ref 866] M8) (fun v12 M11 => (if zin ((nI 112) + x3) 268 = true then zC1 (zEv d zmM_solves [.ref 866, .int (nI 2)] (zpi M11 867 (Int32.toNatClampNeg ((nI 112) + x3)) v12)) (fun v16 M15 => (if v16 = (nI 1) then h_M_idle_23 d (x1 ||| ((nJ 1) <<< (Int32.toInt64 x3 &&& 63))) (x3 + (nI 1)) (zpi M15 867 (Int32.toNatClampNeg ((nI 112) + x3)) v9) else h_M_idle_23 d (x1 ||| (nJ 0)) (x3 + (nI 1)) (zpi M15 867 (Int32.toNatClampNeg ((nI 112) + x3)) v9))) else none)))) else none) else zC0 (zEv d zmM_takesBack [.ref 866] M2) (fun M19 => some (some (.long x1), M19)))) = some r) : h_M_idle_23 d x1 x3 M = some r := by
  show zEx0 (zEv d) zmM_idle (23, [(0, .ref 866), (1, .long x1), (3, .int x3)], [], M) = some r
  refine y_pure (pc' := 24) (st' := [.int x3]) rfl rfl ?_
  refine y_pure (pc' := 25) (st' := [.ref 866, .int x3]) rfl rfl ?_
  obtain ⟨v3, M2, he1, h⟩ := zC1_inv h
  refine y_callV (pc' := 28) (y := zmM_cells) (a' := []) (st' := [.int x3]) rfl rfl rfl rfl rfl (zrecv_o (o := 10) zc_866 rfl) rfl he1 rfl rfl ?_
  rcases zif_inv h with ⟨hc4, h⟩ | ⟨hc4, h⟩
  · refine y_cmp (pc' := 31) rfl rfl (zc_geF hc4) rfl ?_
    refine y_pure (pc' := 32) (st' := [.ref 866]) rfl rfl ?_
    refine y_getf (pc' := 35) (v := .ref 867) rfl rfl rfl zc_866 rfl rfl ?_
    refine y_pure (pc' := 37) (st' := [.int (nI 76), .ref 867]) rfl rfl ?_
    refine y_pure (pc' := 38) (st' := [.int x3, .int (nI 76), .ref 867]) rfl rfl ?_
    refine y_pure (pc' := 39) (st' := [.int ((nI 76) + x3), .ref 867]) rfl rfl ?_
    obtain ⟨hi5, h⟩ := zg_inv h
    refine y_iald (pc' := 40) rfl zc_867 hi5 rfl ?_
    rcases zif_inv h with ⟨hc6, h⟩ | ⟨hc6, h⟩
    · refine y_cnd (pc' := 43) rfl rfl (zc_neF hc6) rfl ?_
      refine y_pure (pc' := 96) rfl rfl ?_
      refine y_pure (pc' := 99) (ls' := [(0, .ref 866), (1, .long x1), (3, .int (x3 + (nI 1)))]) (st' := []) rfl rfl ?_
      refine y_pure (pc' := 23) rfl rfl ?_
      refine zEx_sub ?_ h
      exact ⟨rfl, rfl, rfl, trivial⟩
    · refine y_cnd (pc' := 46) rfl rfl (zc_neT hc6) rfl ?_
      refine y_pure (pc' := 47) (st' := [.ref 866]) rfl rfl ?_
      refine y_pure (pc' := 48) (st' := [.int x3, .ref 866]) rfl rfl ?_
      obtain ⟨v9, M8, he7, h⟩ := zC1_inv h
      refine y_callV (pc' := 51) (y := zmM_marks) (a' := [.int x3]) (st' := []) rfl rfl rfl rfl rfl (zrecv_o (o := 10) zc_866 rfl) rfl he7 rfl rfl ?_
      refine y_pure (pc' := 53) (ls' := [(0, .ref 866), (1, .long x1), (3, .int x3), (4, .int v9)]) (st' := []) rfl rfl ?_
      refine y_pure (pc' := 54) (st' := [.ref 866]) rfl rfl ?_
      refine y_getf (pc' := 57) (v := .ref 867) rfl rfl rfl zc_866 rfl rfl ?_
      refine y_pure (pc' := 59) (st' := [.int (nI 112), .ref 867]) rfl rfl ?_
      refine y_pure (pc' := 60) (st' := [.int x3, .int (nI 112), .ref 867]) rfl rfl ?_
      refine y_pure (pc' := 61) (st' := [.int ((nI 112) + x3), .ref 867]) rfl rfl ?_
      refine y_pure (pc' := 62) (st' := [.ref 866, .int ((nI 112) + x3), .ref 867]) rfl rfl ?_
      obtain ⟨v12, M11, he10, h⟩ := zC1_inv h
      refine y_callV (pc' := 65) (y := zmM_allMarks) (a' := []) (st' := [.int ((nI 112) + x3), .ref 867]) rfl rfl rfl rfl rfl (zrecv_o (o := 10) zc_866 rfl) rfl he10 rfl rfl ?_
      obtain ⟨hi13, h⟩ := zg_inv h
      refine y_iast (pc' := 66) rfl zc_867 hi13 rfl ?_
      refine y_pure (pc' := 67) (st' := [.long x1]) rfl rfl ?_
      refine y_pure (pc' := 68) (st' := [.ref 866, .long x1]) rfl rfl ?_
      refine y_pure (pc' := 69) (st' := [.int (nI 2), .ref 866, .long x1]) rfl rfl ?_
      obtain ⟨v16, M15, he14, h⟩ := zC1_inv h
      refine y_callV (pc' := 72) (y := zmM_solves) (a' := [.int (nI 2)]) (st' := [.long x1]) rfl rfl rfl rfl rfl (zrecv_o (o := 10) zc_866 rfl) rfl he14 rfl rfl ?_
      refine y_pure (pc' := 73) (st' := [.int (nI 1), .int v16, .long x1]) rfl rfl ?_
      rcases zif_inv h with ⟨hc17, h⟩ | ⟨hc17, h⟩
      · refine y_cmp (pc' := 76) rfl rfl (zc_neF hc17) rfl ?_
        refine y_pure (pc' := 77) (st' := [.long (nJ 1), .long x1]) rfl rfl ?_
        refine y_pure (pc' := 78) (st' := [.int x3, .long (nJ 1), .long x1]) rfl rfl ?_
        refine y_pure (pc' := 79) (st' := [.long ((nJ 1) <<< (Int32.toInt64 x3 &&& 63)), .long x1]) rfl rfl ?_
        refine y_pure (pc' := 83) rfl rfl ?_
        refine y_pure (pc' := 84) (st' := [.long (x1 ||| ((nJ 1) <<< (Int32.toInt64 x3 &&& 63)))]) rfl rfl ?_
        refine y_pure (pc' := 85) (ls' := [(0, .ref 866), (1, .long (x1 ||| ((nJ 1) <<< (Int32.toInt64 x3 &&& 63)))), (3, .int x3), (4, .int v9)]) (st' := []) rfl rfl ?_
        refine y_pure (pc' := 86) (st' := [.ref 866]) rfl rfl ?_
        refine y_getf (pc' := 89) (v := .ref 867) rfl rfl rfl zc_866 rfl rfl ?_
        refine y_pure (pc' := 91) (st' := [.int (nI 112), .ref 867]) rfl rfl ?_
        refine y_pure (pc' := 92) (st' := [.int x3, .int (nI 112), .ref 867]) rfl rfl ?_
        refine y_pure (pc' := 93) (st' := [.int ((nI 112) + x3), .ref 867]) rfl rfl ?_
        refine y_pure (pc' := 95) (st' := [.int v9, .int ((nI 112) + x3), .ref 867]) rfl rfl ?_
        refine y_iast (pc' := 96) rfl zc_867 hi13 rfl ?_
        refine y_pure (pc' := 99) (ls' := [(0, .ref 866), (1, .long (x1 ||| ((nJ 1) <<< (Int32.toInt64 x3 &&& 63)))), (3, .int (x3 + (nI 1))), (4, .int v9)]) (st' := []) rfl rfl ?_
        refine y_pure (pc' := 23) rfl rfl ?_
        refine zEx_sub ?_ h
        exact ⟨rfl, rfl, rfl, trivial⟩
      · refine y_cmp (pc' := 82) rfl rfl (zc_neT hc17) rfl ?_
        refine y_pure (pc' := 83) (st' := [.long (nJ 0), .long x1]) rfl rfl ?_
        refine y_pure (pc' := 84) (st' := [.long (x1 ||| (nJ 0))]) rfl rfl ?_
        refine y_pure (pc' := 85) (ls' := [(0, .ref 866), (1, .long (x1 ||| (nJ 0))), (3, .int x3), (4, .int v9)]) (st' := []) rfl rfl ?_
        refine y_pure (pc' := 86) (st' := [.ref 866]) rfl rfl ?_
        refine y_getf (pc' := 89) (v := .ref 867) rfl rfl rfl zc_866 rfl rfl ?_
        refine y_pure (pc' := 91) (st' := [.int (nI 112), .ref 867]) rfl rfl ?_
        refine y_pure (pc' := 92) (st' := [.int x3, .int (nI 112), .ref 867]) rfl rfl ?_
        refine y_pure (pc' := 93) (st' := [.int ((nI 112) + x3), .ref 867]) rfl rfl ?_
        refine y_pure (pc' := 95) (st' := [.int v9, .int ((nI 112) + x3), .ref 867]) rfl rfl ?_
        refine y_iast (pc' := 96) rfl zc_867 hi13 rfl ?_
        refine y_pure (pc' := 99) (ls' := [(0, .ref 866), (1, .long (x1 ||| (nJ 0))), (3, .int (x3 + (nI 1))), (4, .int v9)]) (st' := []) rfl rfl ?_
        refine y_pure (pc' := 23) rfl rfl ?_
        refine zEx_sub ?_ h
        exact ⟨rfl, rfl, rfl, trivial⟩
  · refine y_cmp (pc' := 102) rfl rfl (zc_geT hc4) rfl ?_
    refine y_pure (pc' := 103) (st' := [.ref 866]) rfl rfl ?_
    obtain ⟨M19, he18, h⟩ := zC0_inv h
    refine y_callV (pc' := 106) (y := zmM_takesBack) (a' := []) (st' := []) rfl rfl rfl rfl rfl (zrecv_o (o := 10) zc_866 rfl) rfl he18 rfl rfl ?_
    refine y_pure (pc' := 107) (st' := [.long x1]) rfl rfl ?_
    exact y_ret rfl rfl rfl rfl h
theorem e_M_idle {d : Nat}  {M : ZM} {r : ZR}  (h : zC1 (zEv d zmM_isBoard [.ref 866] M) (fun v3 M2 => (if v3 = (nI 0) then some (some (.long (-1 : Int64)), M2) else zC0 (zEv d zmM_putsAside [.ref 866] M2) (fun M6 => zC0 (zEv d zmM_clears [.ref 866] M6) (fun M8 => h_M_idle_23 d (nJ 0) (nI 0) M8)))) = some r) : zEv (d + 1) zmM_idle [.ref 866] M = some r := by
  rw [zEv_succ]
  show zEx0 (zEv d) zmM_idle (0, [(0, .ref 866)], [], M) = some r
  refine y_pure (pc' := 1) (st' := [.ref 866]) rfl rfl ?_
  obtain ⟨v3, M2, he1, h⟩ := zC1_inv h
  refine y_callV (pc' := 4) (y := zmM_isBoard) (a' := []) (st' := []) rfl rfl rfl rfl rfl (zrecv_o (o := 10) zc_866 rfl) rfl he1 rfl rfl ?_
  rcases zif_inv h with ⟨hc4, h⟩ | ⟨hc4, h⟩
  · refine y_cnd (pc' := 7) rfl rfl (zc_neF hc4) rfl ?_
    refine y_pure (pc' := 10) (st' := [.long (-1 : Int64)]) rfl rfl ?_
    exact y_ret rfl rfl rfl rfl h
  · refine y_cnd (pc' := 11) rfl rfl (zc_neT hc4) rfl ?_
    refine y_pure (pc' := 12) (st' := [.ref 866]) rfl rfl ?_
    obtain ⟨M6, he5, h⟩ := zC0_inv h
    refine y_callV (pc' := 15) (y := zmM_putsAside) (a' := []) (st' := []) rfl rfl rfl rfl rfl (zrecv_o (o := 10) zc_866 rfl) rfl he5 rfl rfl ?_
    refine y_pure (pc' := 16) (st' := [.ref 866]) rfl rfl ?_
    obtain ⟨M8, he7, h⟩ := zC0_inv h
    refine y_callV (pc' := 19) (y := zmM_clears) (a' := []) (st' := []) rfl rfl rfl rfl rfl (zrecv_o (o := 10) zc_866 rfl) rfl he7 rfl rfl ?_
    refine y_pure (pc' := 20) (st' := [.long (nJ 0)]) rfl rfl ?_
    refine y_pure (pc' := 21) (ls' := [(0, .ref 866), (1, .long (nJ 0))]) (st' := []) rfl rfl ?_
    refine y_pure (pc' := 22) (st' := [.int (nI 0)]) rfl rfl ?_
    refine y_pure (pc' := 23) (ls' := [(0, .ref 866), (1, .long (nJ 0)), (3, .int (nI 0))]) (st' := []) rfl rfl ?_
    refine zEx_sub ?_ h
    exact ⟨rfl, rfl, rfl, trivial⟩
theorem e_M_cell {d : Nat} {x1 : Int32} {x2 : Int32} {M : ZM} {r : ZR}  (h : zC1 (zEv d zmM_isCell [.ref 866, .int x1] M) (fun v3 M2 => (if v3 = (nI 0) then some (some (.int (-1 : Int32)), M2) else (if x2 = (nI 0) then (if zin ((nI 4) + x1) 268 = true then some (some (.int ((nI 1) - (M2.1 867 (Int32.toNatClampNeg ((nI 4) + x1))))), M2) else none) else (if x2 = (nI 1) then (if zin ((nI 40) + x1) 268 = true then some (some (.int (M2.1 867 (Int32.toNatClampNeg ((nI 40) + x1)))), M2) else none) else (if x2 = (nI 2) then (if zin ((nI 76) + x1) 268 = true then some (some (.int (M2.1 867 (Int32.toNatClampNeg ((nI 76) + x1)))), M2) else none) else (if x2 = (nI 3) then zC1 (zEv d zmM_marks [.ref 866, .int x1] M2) (fun v15 M14 => some (some (.int v15), M14)) else (if x2 = (nI 4) then zC1 (zEv d zmM_cagesOf [.ref 866, .int x1] M2) (fun v18 M17 => some (some (.int v18), M17)) else some (some (.int (-1 : Int32)), M2)))))))) = some r) : zEv (d + 1) zmM_cell [.ref 866, .int x1, .int x2] M = some r := by
  rw [zEv_succ]
  show zEx0 (zEv d) zmM_cell (0, [(0, .ref 866), (1, .int x1), (2, .int x2)], [], M) = some r
  refine y_pure (pc' := 1) (st' := [.ref 866]) rfl rfl ?_
  refine y_pure (pc' := 2) (st' := [.int x1, .ref 866]) rfl rfl ?_
  obtain ⟨v3, M2, he1, h⟩ := zC1_inv h
  refine y_callV (pc' := 5) (y := zmM_isCell) (a' := [.int x1]) (st' := []) rfl rfl rfl rfl rfl (zrecv_o (o := 10) zc_866 rfl) rfl he1 rfl rfl ?_
  rcases zif_inv h with ⟨hc4, h⟩ | ⟨hc4, h⟩
  · refine y_cnd (pc' := 8) rfl rfl (zc_neF hc4) rfl ?_
    refine y_pure (pc' := 9) (st' := [.int (-1 : Int32)]) rfl rfl ?_
    exact y_ret rfl rfl rfl rfl h
  · refine y_cnd (pc' := 10) rfl rfl (zc_neT hc4) rfl ?_
    refine y_pure (pc' := 11) (st' := [.int x2]) rfl rfl ?_
    rcases zif_inv h with ⟨hc5, h⟩ | ⟨hc5, h⟩
    · refine y_sw (k := 0) (t := 44) rfl (by rw [hc5]; decide) (by decide) rfl rfl ?_
      refine y_pure (pc' := 45) (st' := [.int (nI 1)]) rfl rfl ?_
      refine y_pure (pc' := 46) (st' := [.ref 866, .int (nI 1)]) rfl rfl ?_
      refine y_getf (pc' := 49) (v := .ref 867) rfl rfl rfl zc_866 rfl rfl ?_
      refine y_pure (pc' := 50) (st' := [.int (nI 4), .ref 867, .int (nI 1)]) rfl rfl ?_
      refine y_pure (pc' := 51) (st' := [.int x1, .int (nI 4), .ref 867, .int (nI 1)]) rfl rfl ?_
      refine y_pure (pc' := 52) (st' := [.int ((nI 4) + x1), .ref 867, .int (nI 1)]) rfl rfl ?_
      obtain ⟨hi10, h⟩ := zg_inv h
      refine y_iald (pc' := 53) rfl zc_867 hi10 rfl ?_
      refine y_pure (pc' := 54) (st' := [.int ((nI 1) - (M2.1 867 (Int32.toNatClampNeg ((nI 4) + x1))))]) rfl rfl ?_
      exact y_ret rfl rfl rfl rfl h
    · rcases zif_inv h with ⟨hc6, h⟩ | ⟨hc6, h⟩
      · refine y_sw (k := 1) (t := 55) rfl (by rw [hc6]; decide) (by decide) rfl rfl ?_
        refine y_pure (pc' := 56) (st' := [.ref 866]) rfl rfl ?_
        refine y_getf (pc' := 59) (v := .ref 867) rfl rfl rfl zc_866 rfl rfl ?_
        refine y_pure (pc' := 61) (st' := [.int (nI 40), .ref 867]) rfl rfl ?_
        refine y_pure (pc' := 62) (st' := [.int x1, .int (nI 40), .ref 867]) rfl rfl ?_
        refine y_pure (pc' := 63) (st' := [.int ((nI 40) + x1), .ref 867]) rfl rfl ?_
        obtain ⟨hi11, h⟩ := zg_inv h
        refine y_iald (pc' := 64) rfl zc_867 hi11 rfl ?_
        exact y_ret rfl rfl rfl rfl h
      · rcases zif_inv h with ⟨hc7, h⟩ | ⟨hc7, h⟩
        · refine y_sw (k := 2) (t := 65) rfl (by rw [hc7]; decide) (by decide) rfl rfl ?_
          refine y_pure (pc' := 66) (st' := [.ref 866]) rfl rfl ?_
          refine y_getf (pc' := 69) (v := .ref 867) rfl rfl rfl zc_866 rfl rfl ?_
          refine y_pure (pc' := 71) (st' := [.int (nI 76), .ref 867]) rfl rfl ?_
          refine y_pure (pc' := 72) (st' := [.int x1, .int (nI 76), .ref 867]) rfl rfl ?_
          refine y_pure (pc' := 73) (st' := [.int ((nI 76) + x1), .ref 867]) rfl rfl ?_
          obtain ⟨hi12, h⟩ := zg_inv h
          refine y_iald (pc' := 74) rfl zc_867 hi12 rfl ?_
          exact y_ret rfl rfl rfl rfl h
        · rcases zif_inv h with ⟨hc8, h⟩ | ⟨hc8, h⟩
          · refine y_sw (k := 3) (t := 75) rfl (by rw [hc8]; decide) (by decide) rfl rfl ?_
            refine y_pure (pc' := 76) (st' := [.ref 866]) rfl rfl ?_
            refine y_pure (pc' := 77) (st' := [.int x1, .ref 866]) rfl rfl ?_
            obtain ⟨v15, M14, he13, h⟩ := zC1_inv h
            refine y_callV (pc' := 80) (y := zmM_marks) (a' := [.int x1]) (st' := []) rfl rfl rfl rfl rfl (zrecv_o (o := 10) zc_866 rfl) rfl he13 rfl rfl ?_
            exact y_ret rfl rfl rfl rfl h
          · rcases zif_inv h with ⟨hc9, h⟩ | ⟨hc9, h⟩
            · refine y_sw (k := 4) (t := 81) rfl (by rw [hc9]; decide) (by decide) rfl rfl ?_
              refine y_pure (pc' := 82) (st' := [.ref 866]) rfl rfl ?_
              refine y_pure (pc' := 83) (st' := [.int x1, .ref 866]) rfl rfl ?_
              obtain ⟨v18, M17, he16, h⟩ := zC1_inv h
              refine y_callV (pc' := 86) (y := zmM_cagesOf) (a' := [.int x1]) (st' := []) rfl rfl rfl rfl rfl (zrecv_o (o := 10) zc_866 rfl) rfl he16 rfl rfl ?_
              exact y_ret rfl rfl rfl rfl h
            · refine y_swD (t := 87) rfl (by have q0 := zsw_ne (k := 0) (by decide) hc5; have q1 := zsw_ne (k := 1) (by decide) hc6; have q2 := zsw_ne (k := 2) (by decide) hc7; have q3 := zsw_ne (k := 3) (by decide) hc8; have q4 := zsw_ne (k := 4) (by decide) hc9; omega) rfl ?_
              refine y_pure (pc' := 88) (st' := [.int (-1 : Int32)]) rfl rfl ?_
              exact y_ret rfl rfl rfl rfl h
noncomputable def h_M_doneIn_4 (d : Nat) (x1 : Int32) (x2 : Int32) (x3 : Int32) (M : ZM) : Option ZR := zEx0 (zEv d) zmM_doneIn (4, [(0, .ref 866), (1, .int x1), (2, .int x2), (3, .int x3)], [], M)
theorem e_M_doneIn_4 {d : Nat} {x1 : Int32} {x2 : Int32} {x3 : Int32} {M : ZM} {r : ZR}  (h : zC1 (zEv d zmM_of [.ref 866, .int x1, .int (nI 3)] M) (fun v3 M2 => (if x3 < v3 then zC1 (zEv d zmM_cellOf [.ref 866, .int x1, .int x3] M2) (fun v7 M6 => zC1 (zEv d zmM_isDone [.ref 866, .int v7] M6) (fun v10 M9 => (if v10 = (nI 0) then h_M_doneIn_4 d x1 (x2 + (nI 0)) (x3 + (nI 1)) M9 else h_M_doneIn_4 d x1 (x2 + (nI 1)) (x3 + (nI 1)) M9))) else some (some (.int x2), M2))) = some r) : h_M_doneIn_4 d x1 x2 x3 M = some r := by
  show zEx0 (zEv d) zmM_doneIn (4, [(0, .ref 866), (1, .int x1), (2, .int x2), (3, .int x3)], [], M) = some r
  refine y_pure (pc' := 5) (st' := [.int x3]) rfl rfl ?_
  refine y_pure (pc' := 6) (st' := [.ref 866, .int x3]) rfl rfl ?_
  refine y_pure (pc' := 7) (st' := [.int x1, .ref 866, .int x3]) rfl rfl ?_
  refine y_pure (pc' := 8) (st' := [.int (nI 3), .int x1, .ref 866, .int x3]) rfl rfl ?_
  obtain ⟨v3, M2, he1, h⟩ := zC1_inv h
  refine y_callV (pc' := 11) (y := zmM_of) (a' := [.int x1, .int (nI 3)]) (st' := [.int x3]) rfl rfl rfl rfl rfl (zrecv_o (o := 10) zc_866 rfl) rfl he1 rfl rfl ?_
  rcases zif_inv h with ⟨hc4, h⟩ | ⟨hc4, h⟩
  · refine y_cmp (pc' := 14) rfl rfl (zc_geF hc4) rfl ?_
    refine y_pure (pc' := 15) (st' := [.int x2]) rfl rfl ?_
    refine y_pure (pc' := 16) (st' := [.ref 866, .int x2]) rfl rfl ?_
    refine y_pure (pc' := 17) (st' := [.ref 866, .ref 866, .int x2]) rfl rfl ?_
    refine y_pure (pc' := 18) (st' := [.int x1, .ref 866, .ref 866, .int x2]) rfl rfl ?_
    refine y_pure (pc' := 19) (st' := [.int x3, .int x1, .ref 866, .ref 866, .int x2]) rfl rfl ?_
    obtain ⟨v7, M6, he5, h⟩ := zC1_inv h
    refine y_callV (pc' := 22) (y := zmM_cellOf) (a' := [.int x1, .int x3]) (st' := [.ref 866, .int x2]) rfl rfl rfl rfl rfl (zrecv_o (o := 10) zc_866 rfl) rfl he5 rfl rfl ?_
    obtain ⟨v10, M9, he8, h⟩ := zC1_inv h
    refine y_callV (pc' := 25) (y := zmM_isDone) (a' := [.int v7]) (st' := [.int x2]) rfl rfl rfl rfl rfl (zrecv_o (o := 10) zc_866 rfl) rfl he8 rfl rfl ?_
    rcases zif_inv h with ⟨hc11, h⟩ | ⟨hc11, h⟩
    · refine y_cnd (pc' := 32) rfl rfl (zc_eqT hc11) rfl ?_
      refine y_pure (pc' := 33) (st' := [.int (nI 0), .int x2]) rfl rfl ?_
      refine y_pure (pc' := 34) (st' := [.int (x2 + (nI 0))]) rfl rfl ?_
      refine y_pure (pc' := 35) (ls' := [(0, .ref 866), (1, .int x1), (2, .int (x2 + (nI 0))), (3, .int x3)]) (st' := []) rfl rfl ?_
      refine y_pure (pc' := 38) (ls' := [(0, .ref 866), (1, .int x1), (2, .int (x2 + (nI 0))), (3, .int (x3 + (nI 1)))]) (st' := []) rfl rfl ?_
      refine y_pure (pc' := 4) rfl rfl ?_
      refine zEx_sub ?_ h
      exact ⟨rfl, rfl, rfl, rfl, trivial⟩
    · refine y_cnd (pc' := 28) rfl rfl (zc_eqF hc11) rfl ?_
      refine y_pure (pc' := 29) (st' := [.int (nI 1), .int x2]) rfl rfl ?_
      refine y_pure (pc' := 33) rfl rfl ?_
      refine y_pure (pc' := 34) (st' := [.int (x2 + (nI 1))]) rfl rfl ?_
      refine y_pure (pc' := 35) (ls' := [(0, .ref 866), (1, .int x1), (2, .int (x2 + (nI 1))), (3, .int x3)]) (st' := []) rfl rfl ?_
      refine y_pure (pc' := 38) (ls' := [(0, .ref 866), (1, .int x1), (2, .int (x2 + (nI 1))), (3, .int (x3 + (nI 1)))]) (st' := []) rfl rfl ?_
      refine y_pure (pc' := 4) rfl rfl ?_
      refine zEx_sub ?_ h
      exact ⟨rfl, rfl, rfl, rfl, trivial⟩
  · refine y_cmp (pc' := 41) rfl rfl (zc_geT hc4) rfl ?_
    refine y_pure (pc' := 42) (st' := [.int x2]) rfl rfl ?_
    exact y_ret rfl rfl rfl rfl h
theorem e_M_doneIn {d : Nat} {x1 : Int32} {M : ZM} {r : ZR}  (h : h_M_doneIn_4 d x1 (nI 0) (nI 0) M = some r) : zEv (d + 1) zmM_doneIn [.ref 866, .int x1] M = some r := by
  rw [zEv_succ]
  show zEx0 (zEv d) zmM_doneIn (0, [(0, .ref 866), (1, .int x1)], [], M) = some r
  refine y_pure (pc' := 1) (st' := [.int (nI 0)]) rfl rfl ?_
  refine y_pure (pc' := 2) (ls' := [(0, .ref 866), (1, .int x1), (2, .int (nI 0))]) (st' := []) rfl rfl ?_
  refine y_pure (pc' := 3) (st' := [.int (nI 0)]) rfl rfl ?_
  refine y_pure (pc' := 4) (ls' := [(0, .ref 866), (1, .int x1), (2, .int (nI 0)), (3, .int (nI 0))]) (st' := []) rfl rfl ?_
  refine zEx_sub ?_ h
  exact ⟨rfl, rfl, rfl, rfl, trivial⟩
theorem e_M_waysOf {d : Nat} {x1 : Int32} {M : ZM} {r : ZR}  (h : zC0 (zEv d zmM_laysWays [.ref 866, .int x1] M) (fun M2 => some (some (.int (M2.1 866 7)), M2)) = some r) : zEv (d + 1) zmM_waysOf [.ref 866, .int x1] M = some r := by
  rw [zEv_succ]
  show zEx0 (zEv d) zmM_waysOf (0, [(0, .ref 866), (1, .int x1)], [], M) = some r
  refine y_pure (pc' := 1) (st' := [.ref 866]) rfl rfl ?_
  refine y_pure (pc' := 2) (st' := [.int x1, .ref 866]) rfl rfl ?_
  obtain ⟨M2, he1, h⟩ := zC0_inv h
  refine y_callV (pc' := 5) (y := zmM_laysWays) (a' := [.int x1]) (st' := []) rfl rfl rfl rfl rfl (zrecv_o (o := 10) zc_866 rfl) rfl he1 rfl rfl ?_
  refine y_pure (pc' := 6) (st' := [.ref 866]) rfl rfl ?_
  refine y_getf (pc' := 9) (v := .int (M2.1 866 7)) rfl rfl rfl zc_866 rfl rfl ?_
  exact y_ret rfl rfl rfl rfl h
theorem e_M_cage {d : Nat} {x1 : Int32} {x2 : Int32} {M : ZM} {r : ZR}  (h : zC1 (zEv d zmM_isCage [.ref 866, .int x1] M) (fun v3 M2 => (if v3 = (nI 0) then some (some (.int (-1 : Int32)), M2) else (if x2 = (nI 0) then zC1 (zEv d zmM_of [.ref 866, .int x1, .int (nI 0)] M2) (fun v13 M12 => some (some (.int v13), M12)) else (if x2 = (nI 1) then zC1 (zEv d zmM_of [.ref 866, .int x1, .int (nI 1)] M2) (fun v16 M15 => some (some (.int v16), M15)) else (if x2 = (nI 2) then zC1 (zEv d zmM_of [.ref 866, .int x1, .int (nI 3)] M2) (fun v19 M18 => some (some (.int v19), M18)) else (if x2 = (nI 3) then zC1 (zEv d zmM_of [.ref 866, .int x1, .int (nI 2)] M2) (fun v22 M21 => some (some (.int v22), M21)) else (if x2 = (nI 4) then zC1 (zEv d zmM_doneIn [.ref 866, .int x1] M2) (fun v25 M24 => some (some (.int v25), M24)) else (if x2 = (nI 5) then zC1 (zEv d zmM_waysOf [.ref 866, .int x1] M2) (fun v28 M27 => some (some (.int v28), M27)) else zC1 (zEv d zmM_of [.ref 866, .int x1, .int (nI 3)] M2) (fun v31 M30 => zC1 (zEv d zmM_in [.long (Int32.toInt64 x2), .long (nJ 10), .long (Int32.toInt64 ((nI 9) + v31))] M30) (fun v34 M33 => (if v34 = (nI 0) then some (some (.int (-1 : Int32)), M33) else zC1 (zEv d zmM_cellOf [.ref 866, .int x1, .int (x2 - (nI 10))] M33) (fun v38 M37 => some (some (.int v38), M37))))))))))))) = some r) : zEv (d + 1) zmM_cage [.ref 866, .int x1, .int x2] M = some r := by
  rw [zEv_succ]
  show zEx0 (zEv d) zmM_cage (0, [(0, .ref 866), (1, .int x1), (2, .int x2)], [], M) = some r
  refine y_pure (pc' := 1) (st' := [.ref 866]) rfl rfl ?_
  refine y_pure (pc' := 2) (st' := [.int x1, .ref 866]) rfl rfl ?_
  obtain ⟨v3, M2, he1, h⟩ := zC1_inv h
  refine y_callV (pc' := 5) (y := zmM_isCage) (a' := [.int x1]) (st' := []) rfl rfl rfl rfl rfl (zrecv_o (o := 10) zc_866 rfl) rfl he1 rfl rfl ?_
  rcases zif_inv h with ⟨hc4, h⟩ | ⟨hc4, h⟩
  · refine y_cnd (pc' := 8) rfl rfl (zc_neF hc4) rfl ?_
    refine y_pure (pc' := 9) (st' := [.int (-1 : Int32)]) rfl rfl ?_
    exact y_ret rfl rfl rfl rfl h
  · refine y_cnd (pc' := 10) rfl rfl (zc_neT hc4) rfl ?_
    refine y_pure (pc' := 11) (st' := [.int x2]) rfl rfl ?_
    rcases zif_inv h with ⟨hc5, h⟩ | ⟨hc5, h⟩
    · refine y_sw (k := 0) (t := 48) rfl (by rw [hc5]; decide) (by decide) rfl rfl ?_
      refine y_pure (pc' := 49) (st' := [.ref 866]) rfl rfl ?_
      refine y_pure (pc' := 50) (st' := [.int x1, .ref 866]) rfl rfl ?_
      refine y_pure (pc' := 51) (st' := [.int (nI 0), .int x1, .ref 866]) rfl rfl ?_
      obtain ⟨v13, M12, he11, h⟩ := zC1_inv h
      refine y_callV (pc' := 54) (y := zmM_of) (a' := [.int x1, .int (nI 0)]) (st' := []) rfl rfl rfl rfl rfl (zrecv_o (o := 10) zc_866 rfl) rfl he11 rfl rfl ?_
      exact y_ret rfl rfl rfl rfl h
    · rcases zif_inv h with ⟨hc6, h⟩ | ⟨hc6, h⟩
      · refine y_sw (k := 1) (t := 55) rfl (by rw [hc6]; decide) (by decide) rfl rfl ?_
        refine y_pure (pc' := 56) (st' := [.ref 866]) rfl rfl ?_
        refine y_pure (pc' := 57) (st' := [.int x1, .ref 866]) rfl rfl ?_
        refine y_pure (pc' := 58) (st' := [.int (nI 1), .int x1, .ref 866]) rfl rfl ?_
        obtain ⟨v16, M15, he14, h⟩ := zC1_inv h
        refine y_callV (pc' := 61) (y := zmM_of) (a' := [.int x1, .int (nI 1)]) (st' := []) rfl rfl rfl rfl rfl (zrecv_o (o := 10) zc_866 rfl) rfl he14 rfl rfl ?_
        exact y_ret rfl rfl rfl rfl h
      · rcases zif_inv h with ⟨hc7, h⟩ | ⟨hc7, h⟩
        · refine y_sw (k := 2) (t := 62) rfl (by rw [hc7]; decide) (by decide) rfl rfl ?_
          refine y_pure (pc' := 63) (st' := [.ref 866]) rfl rfl ?_
          refine y_pure (pc' := 64) (st' := [.int x1, .ref 866]) rfl rfl ?_
          refine y_pure (pc' := 65) (st' := [.int (nI 3), .int x1, .ref 866]) rfl rfl ?_
          obtain ⟨v19, M18, he17, h⟩ := zC1_inv h
          refine y_callV (pc' := 68) (y := zmM_of) (a' := [.int x1, .int (nI 3)]) (st' := []) rfl rfl rfl rfl rfl (zrecv_o (o := 10) zc_866 rfl) rfl he17 rfl rfl ?_
          exact y_ret rfl rfl rfl rfl h
        · rcases zif_inv h with ⟨hc8, h⟩ | ⟨hc8, h⟩
          · refine y_sw (k := 3) (t := 69) rfl (by rw [hc8]; decide) (by decide) rfl rfl ?_
            refine y_pure (pc' := 70) (st' := [.ref 866]) rfl rfl ?_
            refine y_pure (pc' := 71) (st' := [.int x1, .ref 866]) rfl rfl ?_
            refine y_pure (pc' := 72) (st' := [.int (nI 2), .int x1, .ref 866]) rfl rfl ?_
            obtain ⟨v22, M21, he20, h⟩ := zC1_inv h
            refine y_callV (pc' := 75) (y := zmM_of) (a' := [.int x1, .int (nI 2)]) (st' := []) rfl rfl rfl rfl rfl (zrecv_o (o := 10) zc_866 rfl) rfl he20 rfl rfl ?_
            exact y_ret rfl rfl rfl rfl h
          · rcases zif_inv h with ⟨hc9, h⟩ | ⟨hc9, h⟩
            · refine y_sw (k := 4) (t := 76) rfl (by rw [hc9]; decide) (by decide) rfl rfl ?_
              refine y_pure (pc' := 77) (st' := [.ref 866]) rfl rfl ?_
              refine y_pure (pc' := 78) (st' := [.int x1, .ref 866]) rfl rfl ?_
              obtain ⟨v25, M24, he23, h⟩ := zC1_inv h
              refine y_callV (pc' := 81) (y := zmM_doneIn) (a' := [.int x1]) (st' := []) rfl rfl rfl rfl rfl (zrecv_o (o := 10) zc_866 rfl) rfl he23 rfl rfl ?_
              exact y_ret rfl rfl rfl rfl h
            · rcases zif_inv h with ⟨hc10, h⟩ | ⟨hc10, h⟩
              · refine y_sw (k := 5) (t := 82) rfl (by rw [hc10]; decide) (by decide) rfl rfl ?_
                refine y_pure (pc' := 83) (st' := [.ref 866]) rfl rfl ?_
                refine y_pure (pc' := 84) (st' := [.int x1, .ref 866]) rfl rfl ?_
                obtain ⟨v28, M27, he26, h⟩ := zC1_inv h
                refine y_callV (pc' := 87) (y := zmM_waysOf) (a' := [.int x1]) (st' := []) rfl rfl rfl rfl rfl (zrecv_o (o := 10) zc_866 rfl) rfl he26 rfl rfl ?_
                exact y_ret rfl rfl rfl rfl h
              · refine y_swD (t := 88) rfl (by have q0 := zsw_ne (k := 0) (by decide) hc5; have q1 := zsw_ne (k := 1) (by decide) hc6; have q2 := zsw_ne (k := 2) (by decide) hc7; have q3 := zsw_ne (k := 3) (by decide) hc8; have q4 := zsw_ne (k := 4) (by decide) hc9; have q5 := zsw_ne (k := 5) (by decide) hc10; omega) rfl ?_
                refine y_pure (pc' := 89) (st' := [.int x2]) rfl rfl ?_
                refine y_pure (pc' := 90) (st' := [.long (Int32.toInt64 x2)]) rfl rfl ?_
                refine y_pure (pc' := 93) (st' := [.long (nJ 10), .long (Int32.toInt64 x2)]) rfl rfl ?_
                refine y_pure (pc' := 95) (st' := [.int (nI 9), .long (nJ 10), .long (Int32.toInt64 x2)]) rfl rfl ?_
                refine y_pure (pc' := 96) (st' := [.ref 866, .int (nI 9), .long (nJ 10), .long (Int32.toInt64 x2)]) rfl rfl ?_
                refine y_pure (pc' := 97) (st' := [.int x1, .ref 866, .int (nI 9), .long (nJ 10), .long (Int32.toInt64 x2)]) rfl rfl ?_
                refine y_pure (pc' := 98) (st' := [.int (nI 3), .int x1, .ref 866, .int (nI 9), .long (nJ 10), .long (Int32.toInt64 x2)]) rfl rfl ?_
                obtain ⟨v31, M30, he29, h⟩ := zC1_inv h
                refine y_callV (pc' := 101) (y := zmM_of) (a' := [.int x1, .int (nI 3)]) (st' := [.int (nI 9), .long (nJ 10), .long (Int32.toInt64 x2)]) rfl rfl rfl rfl rfl (zrecv_o (o := 10) zc_866 rfl) rfl he29 rfl rfl ?_
                refine y_pure (pc' := 102) (st' := [.int ((nI 9) + v31), .long (nJ 10), .long (Int32.toInt64 x2)]) rfl rfl ?_
                refine y_pure (pc' := 103) (st' := [.long (Int32.toInt64 ((nI 9) + v31)), .long (nJ 10), .long (Int32.toInt64 x2)]) rfl rfl ?_
                obtain ⟨v34, M33, he32, h⟩ := zC1_inv h
                refine y_callS (pc' := 106) (y := zmM_in) (a := [.long (Int32.toInt64 x2), .long (nJ 10), .long (Int32.toInt64 ((nI 9) + v31))]) (st' := []) rfl rfl rfl rfl rfl rfl he32 rfl rfl ?_
                rcases zif_inv h with ⟨hc35, h⟩ | ⟨hc35, h⟩
                · refine y_cnd (pc' := 121) rfl rfl (zc_eqT hc35) rfl ?_
                  refine y_pure (pc' := 122) (st' := [.int (-1 : Int32)]) rfl rfl ?_
                  exact y_ret rfl rfl rfl rfl h
                · refine y_cnd (pc' := 109) rfl rfl (zc_eqF hc35) rfl ?_
                  refine y_pure (pc' := 110) (st' := [.ref 866]) rfl rfl ?_
                  refine y_pure (pc' := 111) (st' := [.int x1, .ref 866]) rfl rfl ?_
                  refine y_pure (pc' := 112) (st' := [.int x2, .int x1, .ref 866]) rfl rfl ?_
                  refine y_pure (pc' := 114) (st' := [.int (nI 10), .int x2, .int x1, .ref 866]) rfl rfl ?_
                  refine y_pure (pc' := 115) (st' := [.int (x2 - (nI 10)), .int x1, .ref 866]) rfl rfl ?_
                  obtain ⟨v38, M37, he36, h⟩ := zC1_inv h
                  refine y_callV (pc' := 118) (y := zmM_cellOf) (a' := [.int x1, .int (x2 - (nI 10))]) (st' := []) rfl rfl rfl rfl rfl (zrecv_o (o := 10) zc_866 rfl) rfl he36 rfl rfl ?_
                  refine y_pure (pc' := 122) rfl rfl ?_
                  exact y_ret rfl rfl rfl rfl h
theorem e_M_has {d : Nat} {x1 : Int32} {x2 : Int32} {M : ZM} {r : ZR}  (h : zC1 (zEv d zmM_isCage [.ref 866, .int x1] M) (fun v3 M2 => (if v3 = (nI 0) then some (some (.int (-1 : Int32)), M2) else zC1 (zEv d zmM_isDigit [.ref 866, .int x2] M2) (fun v7 M6 => (if v7 = (nI 0) then some (some (.int (-1 : Int32)), M6) else zC0 (zEv d zmM_laysWays [.ref 866, .int x1] M6) (fun M10 => (if zin x2 8 = true then some (some (.int (M10.1 873 (Int32.toNatClampNeg x2))), M10) else none)))))) = some r) : zEv (d + 1) zmM_has [.ref 866, .int x1, .int x2] M = some r := by
  rw [zEv_succ]
  show zEx0 (zEv d) zmM_has (0, [(0, .ref 866), (1, .int x1), (2, .int x2)], [], M) = some r
  refine y_pure (pc' := 1) (st' := [.ref 866]) rfl rfl ?_
  refine y_pure (pc' := 2) (st' := [.int x1, .ref 866]) rfl rfl ?_
  obtain ⟨v3, M2, he1, h⟩ := zC1_inv h
  refine y_callV (pc' := 5) (y := zmM_isCage) (a' := [.int x1]) (st' := []) rfl rfl rfl rfl rfl (zrecv_o (o := 10) zc_866 rfl) rfl he1 rfl rfl ?_
  rcases zif_inv h with ⟨hc4, h⟩ | ⟨hc4, h⟩
  · refine y_cnd (pc' := 16) rfl rfl (zc_eqT hc4) rfl ?_
    refine y_pure (pc' := 17) (st' := [.int (-1 : Int32)]) rfl rfl ?_
    exact y_ret rfl rfl rfl rfl h
  · refine y_cnd (pc' := 8) rfl rfl (zc_eqF hc4) rfl ?_
    refine y_pure (pc' := 9) (st' := [.ref 866]) rfl rfl ?_
    refine y_pure (pc' := 10) (st' := [.int x2, .ref 866]) rfl rfl ?_
    obtain ⟨v7, M6, he5, h⟩ := zC1_inv h
    refine y_callV (pc' := 13) (y := zmM_isDigit) (a' := [.int x2]) (st' := []) rfl rfl rfl rfl rfl (zrecv_o (o := 10) zc_866 rfl) rfl he5 rfl rfl ?_
    rcases zif_inv h with ⟨hc8, h⟩ | ⟨hc8, h⟩
    · refine y_cnd (pc' := 16) rfl rfl (zc_neF hc8) rfl ?_
      refine y_pure (pc' := 17) (st' := [.int (-1 : Int32)]) rfl rfl ?_
      exact y_ret rfl rfl rfl rfl h
    · refine y_cnd (pc' := 18) rfl rfl (zc_neT hc8) rfl ?_
      refine y_pure (pc' := 19) (st' := [.ref 866]) rfl rfl ?_
      refine y_pure (pc' := 20) (st' := [.int x1, .ref 866]) rfl rfl ?_
      obtain ⟨M10, he9, h⟩ := zC0_inv h
      refine y_callV (pc' := 23) (y := zmM_laysWays) (a' := [.int x1]) (st' := []) rfl rfl rfl rfl rfl (zrecv_o (o := 10) zc_866 rfl) rfl he9 rfl rfl ?_
      refine y_pure (pc' := 24) (st' := [.ref 866]) rfl rfl ?_
      refine y_getf (pc' := 27) (v := .ref 873) rfl rfl rfl zc_866 rfl rfl ?_
      refine y_pure (pc' := 28) (st' := [.int x2, .ref 873]) rfl rfl ?_
      obtain ⟨hi11, h⟩ := zg_inv h
      refine y_iald (pc' := 29) rfl zc_873 hi11 rfl ?_
      exact y_ret rfl rfl rfl rfl h
theorem e_M_could {d : Nat} {x1 : Int32} {x2 : Int32} {M : ZM} {r : ZR}  (h : zC1 (zEv d zmM_isCage [.ref 866, .int x1] M) (fun v3 M2 => (if v3 = (nI 0) then some (some (.int (-1 : Int32)), M2) else zC1 (zEv d zmM_placeIn [.ref 866, .int x1, .int x2] M2) (fun v7 M6 => (if v7 = (-1 : Int32) then some (some (.int (-1 : Int32)), M6) else zC0 (zEv d zmM_laysWays [.ref 866, .int x1] M6) (fun M10 => zC1 (zEv d zmM_placeIn [.ref 866, .int x1, .int x2] M10) (fun v13 M12 => (if zin v13 6 = true then some (some (.int (M12.1 874 (Int32.toNatClampNeg v13))), M12) else none))))))) = some r) : zEv (d + 1) zmM_could [.ref 866, .int x1, .int x2] M = some r := by
  rw [zEv_succ]
  show zEx0 (zEv d) zmM_could (0, [(0, .ref 866), (1, .int x1), (2, .int x2)], [], M) = some r
  refine y_pure (pc' := 1) (st' := [.ref 866]) rfl rfl ?_
  refine y_pure (pc' := 2) (st' := [.int x1, .ref 866]) rfl rfl ?_
  obtain ⟨v3, M2, he1, h⟩ := zC1_inv h
  refine y_callV (pc' := 5) (y := zmM_isCage) (a' := [.int x1]) (st' := []) rfl rfl rfl rfl rfl (zrecv_o (o := 10) zc_866 rfl) rfl he1 rfl rfl ?_
  rcases zif_inv h with ⟨hc4, h⟩ | ⟨hc4, h⟩
  · refine y_cnd (pc' := 18) rfl rfl (zc_eqT hc4) rfl ?_
    refine y_pure (pc' := 19) (st' := [.int (-1 : Int32)]) rfl rfl ?_
    exact y_ret rfl rfl rfl rfl h
  · refine y_cnd (pc' := 8) rfl rfl (zc_eqF hc4) rfl ?_
    refine y_pure (pc' := 9) (st' := [.ref 866]) rfl rfl ?_
    refine y_pure (pc' := 10) (st' := [.int x1, .ref 866]) rfl rfl ?_
    refine y_pure (pc' := 11) (st' := [.int x2, .int x1, .ref 866]) rfl rfl ?_
    obtain ⟨v7, M6, he5, h⟩ := zC1_inv h
    refine y_callV (pc' := 14) (y := zmM_placeIn) (a' := [.int x1, .int x2]) (st' := []) rfl rfl rfl rfl rfl (zrecv_o (o := 10) zc_866 rfl) rfl he5 rfl rfl ?_
    refine y_pure (pc' := 15) (st' := [.int (-1 : Int32), .int v7]) rfl rfl ?_
    rcases zif_inv h with ⟨hc8, h⟩ | ⟨hc8, h⟩
    · refine y_cmp (pc' := 18) rfl rfl (zc_neF hc8) rfl ?_
      refine y_pure (pc' := 19) (st' := [.int (-1 : Int32)]) rfl rfl ?_
      exact y_ret rfl rfl rfl rfl h
    · refine y_cmp (pc' := 20) rfl rfl (zc_neT hc8) rfl ?_
      refine y_pure (pc' := 21) (st' := [.ref 866]) rfl rfl ?_
      refine y_pure (pc' := 22) (st' := [.int x1, .ref 866]) rfl rfl ?_
      obtain ⟨M10, he9, h⟩ := zC0_inv h
      refine y_callV (pc' := 25) (y := zmM_laysWays) (a' := [.int x1]) (st' := []) rfl rfl rfl rfl rfl (zrecv_o (o := 10) zc_866 rfl) rfl he9 rfl rfl ?_
      refine y_pure (pc' := 26) (st' := [.ref 866]) rfl rfl ?_
      refine y_getf (pc' := 29) (v := .ref 874) rfl rfl rfl zc_866 rfl rfl ?_
      refine y_pure (pc' := 30) (st' := [.ref 866, .ref 874]) rfl rfl ?_
      refine y_pure (pc' := 31) (st' := [.int x1, .ref 866, .ref 874]) rfl rfl ?_
      refine y_pure (pc' := 32) (st' := [.int x2, .int x1, .ref 866, .ref 874]) rfl rfl ?_
      obtain ⟨v13, M12, he11, h⟩ := zC1_inv h
      refine y_callV (pc' := 35) (y := zmM_placeIn) (a' := [.int x1, .int x2]) (st' := [.ref 874]) rfl rfl rfl rfl rfl (zrecv_o (o := 10) zc_866 rfl) rfl he11 rfl rfl ?_
      obtain ⟨hi14, h⟩ := zg_inv h
      refine y_iald (pc' := 36) rfl zc_874 hi14 rfl ?_
      exact y_ret rfl rfl rfl rfl h
theorem e_M_must {d : Nat} {x1 : Int32} {M : ZM} {r : ZR}  (h : zC1 (zEv d zmM_isCage [.ref 866, .int x1] M) (fun v3 M2 => (if v3 = (nI 0) then some (some (.int (-1 : Int32)), M2) else zC0 (zEv d zmM_laysWays [.ref 866, .int x1] M2) (fun M6 => some (some (.int (M6.1 866 10)), M6)))) = some r) : zEv (d + 1) zmM_must [.ref 866, .int x1] M = some r := by
  rw [zEv_succ]
  show zEx0 (zEv d) zmM_must (0, [(0, .ref 866), (1, .int x1)], [], M) = some r
  refine y_pure (pc' := 1) (st' := [.ref 866]) rfl rfl ?_
  refine y_pure (pc' := 2) (st' := [.int x1, .ref 866]) rfl rfl ?_
  obtain ⟨v3, M2, he1, h⟩ := zC1_inv h
  refine y_callV (pc' := 5) (y := zmM_isCage) (a' := [.int x1]) (st' := []) rfl rfl rfl rfl rfl (zrecv_o (o := 10) zc_866 rfl) rfl he1 rfl rfl ?_
  rcases zif_inv h with ⟨hc4, h⟩ | ⟨hc4, h⟩
  · refine y_cnd (pc' := 8) rfl rfl (zc_neF hc4) rfl ?_
    refine y_pure (pc' := 9) (st' := [.int (-1 : Int32)]) rfl rfl ?_
    exact y_ret rfl rfl rfl rfl h
  · refine y_cnd (pc' := 10) rfl rfl (zc_neT hc4) rfl ?_
    refine y_pure (pc' := 11) (st' := [.ref 866]) rfl rfl ?_
    refine y_pure (pc' := 12) (st' := [.int x1, .ref 866]) rfl rfl ?_
    obtain ⟨M6, he5, h⟩ := zC0_inv h
    refine y_callV (pc' := 15) (y := zmM_laysWays) (a' := [.int x1]) (st' := []) rfl rfl rfl rfl rfl (zrecv_o (o := 10) zc_866 rfl) rfl he5 rfl rfl ?_
    refine y_pure (pc' := 16) (st' := [.ref 866]) rfl rfl ?_
    refine y_getf (pc' := 19) (v := .int (M6.1 866 10)) rfl rfl rfl zc_866 rfl rfl ?_
    exact y_ret rfl rfl rfl rfl h
noncomputable def h_M_sets_25 (d : Nat) (x2 : Int32) (x3 : Int32) (x4 : Int32) (M : ZM) : Option ZR := zEx0 (zEv d) zmM_sets (25, [(0, .ref 866), (2, .int x2), (3, .int x3), (4, .int x4)], [], M)
theorem e_M_sets_25 {d : Nat} {x2 : Int32} {x3 : Int32} {x4 : Int32} {M : ZM} {r : ZR}  (h : (if x4 < (nI 256) then (if zin x4 256 = true then (if (M.1 875 (Int32.toNatClampNeg x4)) = (nI 0) then h_M_sets_25 d x2 x3 (x4 + (nI 1)) M else (if x3 = x2 then some (some (.int x4), M) else h_M_sets_25 d x2 (x3 + (nI 1)) (x4 + (nI 1)) M)) else none) else (if x2 = (-1 : Int32) then some (some (.int x3), M) else some (some (.int (-2 : Int32)), M))) = some r) : h_M_sets_25 d x2 x3 x4 M = some r := by
  show zEx0 (zEv d) zmM_sets (25, [(0, .ref 866), (2, .int x2), (3, .int x3), (4, .int x4)], [], M) = some r
  refine y_pure (pc' := 27) (st' := [.int x4]) rfl rfl ?_
  refine y_pure (pc' := 30) (st' := [.int (nI 256), .int x4]) rfl rfl ?_
  rcases zif_inv h with ⟨hc1, h⟩ | ⟨hc1, h⟩
  · refine y_cmp (pc' := 33) rfl rfl (zc_geF hc1) rfl ?_
    refine y_pure (pc' := 34) (st' := [.ref 866]) rfl rfl ?_
    refine y_getf (pc' := 37) (v := .ref 875) rfl rfl rfl zc_866 rfl rfl ?_
    refine y_pure (pc' := 39) (st' := [.int x4, .ref 875]) rfl rfl ?_
    obtain ⟨hi2, h⟩ := zg_inv h
    refine y_zald (pc' := 40) rfl zc_875 hi2 rfl ?_
    rcases zif_inv h with ⟨hc3, h⟩ | ⟨hc3, h⟩
    · refine y_cnd (pc' := 43) rfl rfl (zc_neF hc3) rfl ?_
      refine y_pure (pc' := 57) rfl rfl ?_
      refine y_pure (pc' := 60) (ls' := [(0, .ref 866), (2, .int x2), (3, .int x3), (4, .int (x4 + (nI 1)))]) (st' := []) rfl rfl ?_
      refine y_pure (pc' := 25) rfl rfl ?_
      refine zEx_sub ?_ h
      exact ⟨rfl, rfl, rfl, rfl, trivial⟩
    · refine y_cnd (pc' := 46) rfl rfl (zc_neT hc3) rfl ?_
      refine y_pure (pc' := 47) (st' := [.int x3]) rfl rfl ?_
      refine y_pure (pc' := 48) (st' := [.int x2, .int x3]) rfl rfl ?_
      rcases zif_inv h with ⟨hc4, h⟩ | ⟨hc4, h⟩
      · refine y_cmp (pc' := 51) rfl rfl (zc_neF hc4) rfl ?_
        refine y_pure (pc' := 53) (st' := [.int x4]) rfl rfl ?_
        exact y_ret rfl rfl rfl rfl h
      · refine y_cmp (pc' := 54) rfl rfl (zc_neT hc4) rfl ?_
        refine y_pure (pc' := 57) (ls' := [(0, .ref 866), (2, .int x2), (3, .int (x3 + (nI 1))), (4, .int x4)]) (st' := []) rfl rfl ?_
        refine y_pure (pc' := 60) (ls' := [(0, .ref 866), (2, .int x2), (3, .int (x3 + (nI 1))), (4, .int (x4 + (nI 1)))]) (st' := []) rfl rfl ?_
        refine y_pure (pc' := 25) rfl rfl ?_
        refine zEx_sub ?_ h
        exact ⟨rfl, rfl, rfl, rfl, trivial⟩
  · refine y_cmp (pc' := 63) rfl rfl (zc_geT hc1) rfl ?_
    refine y_pure (pc' := 64) (st' := [.int x2]) rfl rfl ?_
    refine y_pure (pc' := 65) (st' := [.int (-1 : Int32), .int x2]) rfl rfl ?_
    rcases zif_inv h with ⟨hc5, h⟩ | ⟨hc5, h⟩
    · refine y_cmp (pc' := 68) rfl rfl (zc_neF hc5) rfl ?_
      refine y_pure (pc' := 69) (st' := [.int x3]) rfl rfl ?_
      refine y_pure (pc' := 74) rfl rfl ?_
      exact y_ret rfl rfl rfl rfl h
    · refine y_cmp (pc' := 72) rfl rfl (zc_neT hc5) rfl ?_
      refine y_pure (pc' := 74) (st' := [.int (-2 : Int32)]) rfl rfl ?_
      exact y_ret rfl rfl rfl rfl h
theorem e_M_sets {d : Nat} {x1 : Int32} {x2 : Int32} {M : ZM} {r : ZR}  (h : zC1 (zEv d zmM_isCage [.ref 866, .int x1] M) (fun v3 M2 => (if v3 = (nI 0) then some (some (.int (-1 : Int32)), M2) else (if x2 < (-1 : Int32) then some (some (.int (-1 : Int32)), M2) else zC0 (zEv d zmM_laysWays [.ref 866, .int x1] M2) (fun M7 => h_M_sets_25 d x2 (nI 0) (nI 0) M7)))) = some r) : zEv (d + 1) zmM_sets [.ref 866, .int x1, .int x2] M = some r := by
  rw [zEv_succ]
  show zEx0 (zEv d) zmM_sets (0, [(0, .ref 866), (1, .int x1), (2, .int x2)], [], M) = some r
  refine y_pure (pc' := 1) (st' := [.ref 866]) rfl rfl ?_
  refine y_pure (pc' := 2) (st' := [.int x1, .ref 866]) rfl rfl ?_
  obtain ⟨v3, M2, he1, h⟩ := zC1_inv h
  refine y_callV (pc' := 5) (y := zmM_isCage) (a' := [.int x1]) (st' := []) rfl rfl rfl rfl rfl (zrecv_o (o := 10) zc_866 rfl) rfl he1 rfl rfl ?_
  rcases zif_inv h with ⟨hc4, h⟩ | ⟨hc4, h⟩
  · refine y_cnd (pc' := 13) rfl rfl (zc_eqT hc4) rfl ?_
    refine y_pure (pc' := 14) (st' := [.int (-1 : Int32)]) rfl rfl ?_
    exact y_ret rfl rfl rfl rfl h
  · refine y_cnd (pc' := 8) rfl rfl (zc_eqF hc4) rfl ?_
    refine y_pure (pc' := 9) (st' := [.int x2]) rfl rfl ?_
    refine y_pure (pc' := 10) (st' := [.int (-1 : Int32), .int x2]) rfl rfl ?_
    rcases zif_inv h with ⟨hc5, h⟩ | ⟨hc5, h⟩
    · refine y_cmp (pc' := 13) rfl rfl (zc_geF hc5) rfl ?_
      refine y_pure (pc' := 14) (st' := [.int (-1 : Int32)]) rfl rfl ?_
      exact y_ret rfl rfl rfl rfl h
    · refine y_cmp (pc' := 15) rfl rfl (zc_geT hc5) rfl ?_
      refine y_pure (pc' := 16) (st' := [.ref 866]) rfl rfl ?_
      refine y_pure (pc' := 17) (st' := [.int x1, .ref 866]) rfl rfl ?_
      obtain ⟨M7, he6, h⟩ := zC0_inv h
      refine y_callV (pc' := 20) (y := zmM_laysWays) (a' := [.int x1]) (st' := []) rfl rfl rfl rfl rfl (zrecv_o (o := 10) zc_866 rfl) rfl he6 rfl rfl ?_
      refine y_pure (pc' := 21) (st' := [.int (nI 0)]) rfl rfl ?_
      refine y_pure (pc' := 22) (ls' := [(0, .ref 866), (1, .int x1), (2, .int x2), (3, .int (nI 0))]) (st' := []) rfl rfl ?_
      refine y_pure (pc' := 23) (st' := [.int (nI 0)]) rfl rfl ?_
      refine y_pure (pc' := 25) (ls' := [(0, .ref 866), (1, .int x1), (2, .int x2), (3, .int (nI 0)), (4, .int (nI 0))]) (st' := []) rfl rfl ?_
      refine zEx_sub ?_ h
      exact ⟨rfl, rfl, rfl, rfl, trivial⟩
noncomputable def h_M_shared_30 (d : Nat) (x1 : Int32) (x2 : Int32) (x3 : Int64) (x5 : Int32) (M : ZM) : Option ZR := zEx0 (zEv d) zmM_shared (30, [(0, .ref 866), (1, .int x1), (2, .int x2), (3, .long x3), (5, .int x5)], [], M)
theorem e_M_shared_30 {d : Nat} {x1 : Int32} {x2 : Int32} {x3 : Int64} {x5 : Int32} {M : ZM} {r : ZR}  (h : zC1 (zEv d zmM_of [.ref 866, .int x1, .int (nI 3)] M) (fun v3 M2 => (if x5 < v3 then zC1 (zEv d zmM_cellOf [.ref 866, .int x1, .int x5] M2) (fun v7 M6 => zC1 (zEv d zmM_placeIn [.ref 866, .int x2, .int v7] M6) (fun v10 M9 => (if v10 = (-1 : Int32) then h_M_shared_30 d x1 x2 x3 (x5 + (nI 1)) M9 else zC1 (zEv d zmM_cellOf [.ref 866, .int x1, .int x5] M9) (fun v14 M13 => h_M_shared_30 d x1 x2 (x3 ||| ((nJ 1) <<< (Int32.toInt64 v14 &&& 63))) (x5 + (nI 1)) M13)))) else some (some (.long x3), M2))) = some r) : h_M_shared_30 d x1 x2 x3 x5 M = some r := by
  show zEx0 (zEv d) zmM_shared (30, [(0, .ref 866), (1, .int x1), (2, .int x2), (3, .long x3), (5, .int x5)], [], M) = some r
  refine y_pure (pc' := 32) (st' := [.int x5]) rfl rfl ?_
  refine y_pure (pc' := 33) (st' := [.ref 866, .int x5]) rfl rfl ?_
  refine y_pure (pc' := 34) (st' := [.int x1, .ref 866, .int x5]) rfl rfl ?_
  refine y_pure (pc' := 35) (st' := [.int (nI 3), .int x1, .ref 866, .int x5]) rfl rfl ?_
  obtain ⟨v3, M2, he1, h⟩ := zC1_inv h
  refine y_callV (pc' := 38) (y := zmM_of) (a' := [.int x1, .int (nI 3)]) (st' := [.int x5]) rfl rfl rfl rfl rfl (zrecv_o (o := 10) zc_866 rfl) rfl he1 rfl rfl ?_
  rcases zif_inv h with ⟨hc4, h⟩ | ⟨hc4, h⟩
  · refine y_cmp (pc' := 41) rfl rfl (zc_geF hc4) rfl ?_
    refine y_pure (pc' := 42) (st' := [.ref 866]) rfl rfl ?_
    refine y_pure (pc' := 43) (st' := [.int x2, .ref 866]) rfl rfl ?_
    refine y_pure (pc' := 44) (st' := [.ref 866, .int x2, .ref 866]) rfl rfl ?_
    refine y_pure (pc' := 45) (st' := [.int x1, .ref 866, .int x2, .ref 866]) rfl rfl ?_
    refine y_pure (pc' := 47) (st' := [.int x5, .int x1, .ref 866, .int x2, .ref 866]) rfl rfl ?_
    obtain ⟨v7, M6, he5, h⟩ := zC1_inv h
    refine y_callV (pc' := 50) (y := zmM_cellOf) (a' := [.int x1, .int x5]) (st' := [.int x2, .ref 866]) rfl rfl rfl rfl rfl (zrecv_o (o := 10) zc_866 rfl) rfl he5 rfl rfl ?_
    obtain ⟨v10, M9, he8, h⟩ := zC1_inv h
    refine y_callV (pc' := 53) (y := zmM_placeIn) (a' := [.int x2, .int v7]) (st' := []) rfl rfl rfl rfl rfl (zrecv_o (o := 10) zc_866 rfl) rfl he8 rfl rfl ?_
    refine y_pure (pc' := 54) (st' := [.int (-1 : Int32), .int v10]) rfl rfl ?_
    rcases zif_inv h with ⟨hc11, h⟩ | ⟨hc11, h⟩
    · refine y_cmp (pc' := 69) rfl rfl (zc_eqT hc11) rfl ?_
      refine y_pure (pc' := 72) (ls' := [(0, .ref 866), (1, .int x1), (2, .int x2), (3, .long x3), (5, .int (x5 + (nI 1)))]) (st' := []) rfl rfl ?_
      refine y_pure (pc' := 30) rfl rfl ?_
      refine zEx_sub ?_ h
      exact ⟨rfl, rfl, rfl, rfl, rfl, trivial⟩
    · refine y_cmp (pc' := 57) rfl rfl (zc_eqF hc11) rfl ?_
      refine y_pure (pc' := 58) (st' := [.long x3]) rfl rfl ?_
      refine y_pure (pc' := 59) (st' := [.long (nJ 1), .long x3]) rfl rfl ?_
      refine y_pure (pc' := 60) (st' := [.ref 866, .long (nJ 1), .long x3]) rfl rfl ?_
      refine y_pure (pc' := 61) (st' := [.int x1, .ref 866, .long (nJ 1), .long x3]) rfl rfl ?_
      refine y_pure (pc' := 63) (st' := [.int x5, .int x1, .ref 866, .long (nJ 1), .long x3]) rfl rfl ?_
      obtain ⟨v14, M13, he12, h⟩ := zC1_inv h
      refine y_callV (pc' := 66) (y := zmM_cellOf) (a' := [.int x1, .int x5]) (st' := [.long (nJ 1), .long x3]) rfl rfl rfl rfl rfl (zrecv_o (o := 10) zc_866 rfl) rfl he12 rfl rfl ?_
      refine y_pure (pc' := 67) (st' := [.long ((nJ 1) <<< (Int32.toInt64 v14 &&& 63)), .long x3]) rfl rfl ?_
      refine y_pure (pc' := 68) (st' := [.long (x3 ||| ((nJ 1) <<< (Int32.toInt64 v14 &&& 63)))]) rfl rfl ?_
      refine y_pure (pc' := 69) (ls' := [(0, .ref 866), (1, .int x1), (2, .int x2), (3, .long (x3 ||| ((nJ 1) <<< (Int32.toInt64 v14 &&& 63)))), (5, .int x5)]) (st' := []) rfl rfl ?_
      refine y_pure (pc' := 72) (ls' := [(0, .ref 866), (1, .int x1), (2, .int x2), (3, .long (x3 ||| ((nJ 1) <<< (Int32.toInt64 v14 &&& 63)))), (5, .int (x5 + (nI 1)))]) (st' := []) rfl rfl ?_
      refine y_pure (pc' := 30) rfl rfl ?_
      refine zEx_sub ?_ h
      exact ⟨rfl, rfl, rfl, rfl, rfl, trivial⟩
  · refine y_cmp (pc' := 75) rfl rfl (zc_geT hc4) rfl ?_
    refine y_pure (pc' := 76) (st' := [.long x3]) rfl rfl ?_
    exact y_ret rfl rfl rfl rfl h
theorem e_M_shared {d : Nat} {x1 : Int32} {x2 : Int32} {M : ZM} {r : ZR}  (h : zC1 (zEv d zmM_isCage [.ref 866, .int x1] M) (fun v3 M2 => (if v3 = (nI 0) then some (some (.long (-1 : Int64)), M2) else zC1 (zEv d zmM_isCage [.ref 866, .int x2] M2) (fun v7 M6 => (if v7 = (nI 0) then some (some (.long (-1 : Int64)), M6) else (if x1 = x2 then some (some (.long (-1 : Int64)), M6) else h_M_shared_30 d x1 x2 (nJ 0) (nI 0) M6))))) = some r) : zEv (d + 1) zmM_shared [.ref 866, .int x1, .int x2] M = some r := by
  rw [zEv_succ]
  show zEx0 (zEv d) zmM_shared (0, [(0, .ref 866), (1, .int x1), (2, .int x2)], [], M) = some r
  refine y_pure (pc' := 1) (st' := [.ref 866]) rfl rfl ?_
  refine y_pure (pc' := 2) (st' := [.int x1, .ref 866]) rfl rfl ?_
  obtain ⟨v3, M2, he1, h⟩ := zC1_inv h
  refine y_callV (pc' := 5) (y := zmM_isCage) (a' := [.int x1]) (st' := []) rfl rfl rfl rfl rfl (zrecv_o (o := 10) zc_866 rfl) rfl he1 rfl rfl ?_
  rcases zif_inv h with ⟨hc4, h⟩ | ⟨hc4, h⟩
  · refine y_cnd (pc' := 21) rfl rfl (zc_eqT hc4) rfl ?_
    refine y_pure (pc' := 24) (st' := [.long (-1 : Int64)]) rfl rfl ?_
    exact y_ret rfl rfl rfl rfl h
  · refine y_cnd (pc' := 8) rfl rfl (zc_eqF hc4) rfl ?_
    refine y_pure (pc' := 9) (st' := [.ref 866]) rfl rfl ?_
    refine y_pure (pc' := 10) (st' := [.int x2, .ref 866]) rfl rfl ?_
    obtain ⟨v7, M6, he5, h⟩ := zC1_inv h
    refine y_callV (pc' := 13) (y := zmM_isCage) (a' := [.int x2]) (st' := []) rfl rfl rfl rfl rfl (zrecv_o (o := 10) zc_866 rfl) rfl he5 rfl rfl ?_
    rcases zif_inv h with ⟨hc8, h⟩ | ⟨hc8, h⟩
    · refine y_cnd (pc' := 21) rfl rfl (zc_eqT hc8) rfl ?_
      refine y_pure (pc' := 24) (st' := [.long (-1 : Int64)]) rfl rfl ?_
      exact y_ret rfl rfl rfl rfl h
    · refine y_cnd (pc' := 16) rfl rfl (zc_eqF hc8) rfl ?_
      refine y_pure (pc' := 17) (st' := [.int x1]) rfl rfl ?_
      refine y_pure (pc' := 18) (st' := [.int x2, .int x1]) rfl rfl ?_
      rcases zif_inv h with ⟨hc9, h⟩ | ⟨hc9, h⟩
      · refine y_cmp (pc' := 21) rfl rfl (zc_neF hc9) rfl ?_
        refine y_pure (pc' := 24) (st' := [.long (-1 : Int64)]) rfl rfl ?_
        exact y_ret rfl rfl rfl rfl h
      · refine y_cmp (pc' := 25) rfl rfl (zc_neT hc9) rfl ?_
        refine y_pure (pc' := 26) (st' := [.long (nJ 0)]) rfl rfl ?_
        refine y_pure (pc' := 27) (ls' := [(0, .ref 866), (1, .int x1), (2, .int x2), (3, .long (nJ 0))]) (st' := []) rfl rfl ?_
        refine y_pure (pc' := 28) (st' := [.int (nI 0)]) rfl rfl ?_
        refine y_pure (pc' := 30) (ls' := [(0, .ref 866), (1, .int x1), (2, .int x2), (3, .long (nJ 0)), (5, .int (nI 0))]) (st' := []) rfl rfl ?_
        refine zEx_sub ?_ h
        exact ⟨rfl, rfl, rfl, rfl, rfl, trivial⟩
noncomputable def h_M_laysSet_4 (d : Nat) (x1 : Int32) (x2 : Int32) (x3 : Int32) (M : ZM) : Option ZR := zEx0 (zEv d) zmM_laysSet (4, [(0, .ref 866), (1, .int x1), (2, .int x2), (3, .int x3)], [], M)
theorem e_M_laysSet_4 {d : Nat} {x1 : Int32} {x2 : Int32} {x3 : Int32} {M : ZM} {r : ZR}  (h : (if (nI 7) < x3 then some (some (.int x2), M) else (if x2 < (nI 6) then zC1 (zEv d zmM_holds [.int x1, .int x3] M) (fun v5 M4 => (if v5 = (nI 0) then h_M_laysSet_4 d x1 x2 (x3 + (nI 1)) M4 else (if zin x2 6 = true then h_M_laysSet_4 d x1 (x2 + (nI 1)) (x3 + (nI 1)) (zpi M4 872 (Int32.toNatClampNeg x2) x3) else none))) else some (some (.int x2), M))) = some r) : h_M_laysSet_4 d x1 x2 x3 M = some r := by
  show zEx0 (zEv d) zmM_laysSet (4, [(0, .ref 866), (1, .int x1), (2, .int x2), (3, .int x3)], [], M) = some r
  refine y_pure (pc' := 5) (st' := [.int x3]) rfl rfl ?_
  refine y_pure (pc' := 7) (st' := [.int (nI 7), .int x3]) rfl rfl ?_
  rcases zif_inv h with ⟨hc1, h⟩ | ⟨hc1, h⟩
  · refine y_cmp (pc' := 43) rfl rfl (zc_gtT hc1) rfl ?_
    refine y_pure (pc' := 44) (st' := [.int x2]) rfl rfl ?_
    exact y_ret rfl rfl rfl rfl h
  · refine y_cmp (pc' := 10) rfl rfl (zc_gtF hc1) rfl ?_
    refine y_pure (pc' := 11) (st' := [.int x2]) rfl rfl ?_
    refine y_pure (pc' := 13) (st' := [.int (nI 6), .int x2]) rfl rfl ?_
    rcases zif_inv h with ⟨hc2, h⟩ | ⟨hc2, h⟩
    · refine y_cmp (pc' := 16) rfl rfl (zc_geF hc2) rfl ?_
      refine y_pure (pc' := 17) (st' := [.int x1]) rfl rfl ?_
      refine y_pure (pc' := 18) (st' := [.int x3, .int x1]) rfl rfl ?_
      obtain ⟨v5, M4, he3, h⟩ := zC1_inv h
      refine y_callS (pc' := 21) (y := zmM_holds) (a := [.int x1, .int x3]) (st' := []) rfl rfl rfl rfl rfl rfl he3 rfl rfl ?_
      rcases zif_inv h with ⟨hc6, h⟩ | ⟨hc6, h⟩
      · refine y_cnd (pc' := 24) rfl rfl (zc_neF hc6) rfl ?_
        refine y_pure (pc' := 37) rfl rfl ?_
        refine y_pure (pc' := 40) (ls' := [(0, .ref 866), (1, .int x1), (2, .int x2), (3, .int (x3 + (nI 1)))]) (st' := []) rfl rfl ?_
        refine y_pure (pc' := 4) rfl rfl ?_
        refine zEx_sub ?_ h
        exact ⟨rfl, rfl, rfl, rfl, trivial⟩
      · refine y_cnd (pc' := 27) rfl rfl (zc_neT hc6) rfl ?_
        refine y_pure (pc' := 28) (st' := [.ref 866]) rfl rfl ?_
        refine y_getf (pc' := 31) (v := .ref 872) rfl rfl rfl zc_866 rfl rfl ?_
        refine y_pure (pc' := 32) (st' := [.int x2, .ref 872]) rfl rfl ?_
        refine y_pure (pc' := 33) (st' := [.int x3, .int x2, .ref 872]) rfl rfl ?_
        obtain ⟨hi7, h⟩ := zg_inv h
        refine y_iast (pc' := 34) rfl zc_872 hi7 rfl ?_
        refine y_pure (pc' := 37) (ls' := [(0, .ref 866), (1, .int x1), (2, .int (x2 + (nI 1))), (3, .int x3)]) (st' := []) rfl rfl ?_
        refine y_pure (pc' := 40) (ls' := [(0, .ref 866), (1, .int x1), (2, .int (x2 + (nI 1))), (3, .int (x3 + (nI 1)))]) (st' := []) rfl rfl ?_
        refine y_pure (pc' := 4) rfl rfl ?_
        refine zEx_sub ?_ h
        exact ⟨rfl, rfl, rfl, rfl, trivial⟩
    · refine y_cmp (pc' := 43) rfl rfl (zc_geT hc2) rfl ?_
      refine y_pure (pc' := 44) (st' := [.int x2]) rfl rfl ?_
      exact y_ret rfl rfl rfl rfl h
theorem e_M_laysSet {d : Nat} {x1 : Int32} {M : ZM} {r : ZR}  (h : h_M_laysSet_4 d x1 (nI 0) (nI 1) M = some r) : zEv (d + 1) zmM_laysSet [.ref 866, .int x1] M = some r := by
  rw [zEv_succ]
  show zEx0 (zEv d) zmM_laysSet (0, [(0, .ref 866), (1, .int x1)], [], M) = some r
  refine y_pure (pc' := 1) (st' := [.int (nI 0)]) rfl rfl ?_
  refine y_pure (pc' := 2) (ls' := [(0, .ref 866), (1, .int x1), (2, .int (nI 0))]) (st' := []) rfl rfl ?_
  refine y_pure (pc' := 3) (st' := [.int (nI 1)]) rfl rfl ?_
  refine y_pure (pc' := 4) (ls' := [(0, .ref 866), (1, .int x1), (2, .int (nI 0)), (3, .int (nI 1))]) (st' := []) rfl rfl ?_
  refine zEx_sub ?_ h
  exact ⟨rfl, rfl, rfl, rfl, trivial⟩
noncomputable def h_M_combos_39 (d : Nat) (x1 : Int32) (x2 : Int32) (x3 : Int32) (x4 : Int32) (x5 : Int32) (M : ZM) : Option ZR := zEx0 (zEv d) zmM_combos (39, [(0, .ref 866), (1, .int x1), (2, .int x2), (3, .int x3), (4, .int x4), (5, .int x5)], [], M)
theorem e_M_combos_39 {d : Nat} {x1 : Int32} {x2 : Int32} {x3 : Int32} {x4 : Int32} {x5 : Int32} {M : ZM} {r : ZR}  (h : zC1 (zEv d zmM_allMarks [.ref 866] M) (fun v3 M2 => (if v3 < x5 then some (some (.int x4), M2) else zC1 (zEv d zmM_bits [.int x5] M2) (fun v7 M6 => (if v7 = x2 then zC1 (zEv d zmM_laysSet [.ref 866, .int x5] M6) (fun v11 M10 => zC1 (zEv d zmM_totalBy [.ref 866, .int x1, .int v11] M10) (fun v14 M13 => (if v14 = x3 then h_M_combos_39 d x1 x2 x3 (x4 + (nI 1)) (x5 + (nI 2)) M13 else h_M_combos_39 d x1 x2 x3 (x4 + (nI 0)) (x5 + (nI 2)) M13))) else h_M_combos_39 d x1 x2 x3 x4 (x5 + (nI 2)) M6)))) = some r) : h_M_combos_39 d x1 x2 x3 x4 x5 M = some r := by
  show zEx0 (zEv d) zmM_combos (39, [(0, .ref 866), (1, .int x1), (2, .int x2), (3, .int x3), (4, .int x4), (5, .int x5)], [], M) = some r
  refine y_pure (pc' := 41) (st' := [.int x5]) rfl rfl ?_
  refine y_pure (pc' := 42) (st' := [.ref 866, .int x5]) rfl rfl ?_
  obtain ⟨v3, M2, he1, h⟩ := zC1_inv h
  refine y_callV (pc' := 45) (y := zmM_allMarks) (a' := []) (st' := [.int x5]) rfl rfl rfl rfl rfl (zrecv_o (o := 10) zc_866 rfl) rfl he1 rfl rfl ?_
  rcases zif_inv h with ⟨hc4, h⟩ | ⟨hc4, h⟩
  · refine y_cmp (pc' := 95) rfl rfl (zc_gtT hc4) rfl ?_
    refine y_pure (pc' := 97) (st' := [.int x4]) rfl rfl ?_
    exact y_ret rfl rfl rfl rfl h
  · refine y_cmp (pc' := 48) rfl rfl (zc_gtF hc4) rfl ?_
    refine y_pure (pc' := 50) (st' := [.int x5]) rfl rfl ?_
    obtain ⟨v7, M6, he5, h⟩ := zC1_inv h
    refine y_callS (pc' := 53) (y := zmM_bits) (a := [.int x5]) (st' := []) rfl rfl rfl rfl rfl rfl he5 rfl rfl ?_
    refine y_pure (pc' := 54) (st' := [.int x2, .int v7]) rfl rfl ?_
    rcases zif_inv h with ⟨hc8, h⟩ | ⟨hc8, h⟩
    · refine y_cmp (pc' := 60) rfl rfl (zc_eqT hc8) rfl ?_
      refine y_pure (pc' := 61) (st' := [.ref 866]) rfl rfl ?_
      refine y_pure (pc' := 63) (st' := [.int x5, .ref 866]) rfl rfl ?_
      obtain ⟨v11, M10, he9, h⟩ := zC1_inv h
      refine y_callV (pc' := 66) (y := zmM_laysSet) (a' := [.int x5]) (st' := []) rfl rfl rfl rfl rfl (zrecv_o (o := 10) zc_866 rfl) rfl he9 rfl rfl ?_
      refine y_pure (pc' := 68) (ls' := [(0, .ref 866), (1, .int x1), (2, .int x2), (3, .int x3), (4, .int x4), (5, .int x5), (6, .int v11)]) (st' := []) rfl rfl ?_
      refine y_pure (pc' := 70) (st' := [.int x4]) rfl rfl ?_
      refine y_pure (pc' := 71) (st' := [.ref 866, .int x4]) rfl rfl ?_
      refine y_pure (pc' := 72) (st' := [.int x1, .ref 866, .int x4]) rfl rfl ?_
      refine y_pure (pc' := 74) (st' := [.int v11, .int x1, .ref 866, .int x4]) rfl rfl ?_
      obtain ⟨v14, M13, he12, h⟩ := zC1_inv h
      refine y_callV (pc' := 77) (y := zmM_totalBy) (a' := [.int x1, .int v11]) (st' := [.int x4]) rfl rfl rfl rfl rfl (zrecv_o (o := 10) zc_866 rfl) rfl he12 rfl rfl ?_
      refine y_pure (pc' := 78) (st' := [.int x3, .int v14, .int x4]) rfl rfl ?_
      rcases zif_inv h with ⟨hc15, h⟩ | ⟨hc15, h⟩
      · refine y_cmp (pc' := 81) rfl rfl (zc_neF hc15) rfl ?_
        refine y_pure (pc' := 82) (st' := [.int (nI 1), .int x4]) rfl rfl ?_
        refine y_pure (pc' := 86) rfl rfl ?_
        refine y_pure (pc' := 87) (st' := [.int (x4 + (nI 1))]) rfl rfl ?_
        refine y_pure (pc' := 89) (ls' := [(0, .ref 866), (1, .int x1), (2, .int x2), (3, .int x3), (4, .int (x4 + (nI 1))), (5, .int x5), (6, .int v11)]) (st' := []) rfl rfl ?_
        refine y_pure (pc' := 92) (ls' := [(0, .ref 866), (1, .int x1), (2, .int x2), (3, .int x3), (4, .int (x4 + (nI 1))), (5, .int (x5 + (nI 2))), (6, .int v11)]) (st' := []) rfl rfl ?_
        refine y_pure (pc' := 39) rfl rfl ?_
        refine zEx_sub ?_ h
        exact ⟨rfl, rfl, rfl, rfl, rfl, rfl, trivial⟩
      · refine y_cmp (pc' := 85) rfl rfl (zc_neT hc15) rfl ?_
        refine y_pure (pc' := 86) (st' := [.int (nI 0), .int x4]) rfl rfl ?_
        refine y_pure (pc' := 87) (st' := [.int (x4 + (nI 0))]) rfl rfl ?_
        refine y_pure (pc' := 89) (ls' := [(0, .ref 866), (1, .int x1), (2, .int x2), (3, .int x3), (4, .int (x4 + (nI 0))), (5, .int x5), (6, .int v11)]) (st' := []) rfl rfl ?_
        refine y_pure (pc' := 92) (ls' := [(0, .ref 866), (1, .int x1), (2, .int x2), (3, .int x3), (4, .int (x4 + (nI 0))), (5, .int (x5 + (nI 2))), (6, .int v11)]) (st' := []) rfl rfl ?_
        refine y_pure (pc' := 39) rfl rfl ?_
        refine zEx_sub ?_ h
        exact ⟨rfl, rfl, rfl, rfl, rfl, rfl, trivial⟩
    · refine y_cmp (pc' := 57) rfl rfl (zc_eqF hc8) rfl ?_
      refine y_pure (pc' := 89) rfl rfl ?_
      refine y_pure (pc' := 92) (ls' := [(0, .ref 866), (1, .int x1), (2, .int x2), (3, .int x3), (4, .int x4), (5, .int (x5 + (nI 2)))]) (st' := []) rfl rfl ?_
      refine y_pure (pc' := 39) rfl rfl ?_
      refine zEx_sub ?_ h
      exact ⟨rfl, rfl, rfl, rfl, rfl, rfl, trivial⟩
theorem e_M_combos {d : Nat} {x1 : Int32} {x2 : Int32} {x3 : Int32} {M : ZM} {r : ZR}  (h : zC1 (zEv d zmM_isBoard [.ref 866] M) (fun v3 M2 => (if v3 = (nI 0) then some (some (.int (-1 : Int32)), M2) else zC1 (zEv d zmM_in [.long (Int32.toInt64 x1), .long (nJ 0), .long (nJ 2)] M2) (fun v7 M6 => (if v7 = (nI 0) then some (some (.int (-1 : Int32)), M6) else zC1 (zEv d zmM_in [.long (Int32.toInt64 x2), .long (nJ 1), .long (nJ 6)] M6) (fun v11 M10 => (if v11 = (nI 0) then some (some (.int (-1 : Int32)), M10) else h_M_combos_39 d x1 x2 x3 (nI 0) (nI 2) M10)))))) = some r) : zEv (d + 1) zmM_combos [.ref 866, .int x1, .int x2, .int x3] M = some r := by
  rw [zEv_succ]
  show zEx0 (zEv d) zmM_combos (0, [(0, .ref 866), (1, .int x1), (2, .int x2), (3, .int x3)], [], M) = some r
  refine y_pure (pc' := 1) (st' := [.ref 866]) rfl rfl ?_
  obtain ⟨v3, M2, he1, h⟩ := zC1_inv h
  refine y_callV (pc' := 4) (y := zmM_isBoard) (a' := []) (st' := []) rfl rfl rfl rfl rfl (zrecv_o (o := 10) zc_866 rfl) rfl he1 rfl rfl ?_
  rcases zif_inv h with ⟨hc4, h⟩ | ⟨hc4, h⟩
  · refine y_cnd (pc' := 31) rfl rfl (zc_eqT hc4) rfl ?_
    refine y_pure (pc' := 32) (st' := [.int (-1 : Int32)]) rfl rfl ?_
    exact y_ret rfl rfl rfl rfl h
  · refine y_cnd (pc' := 7) rfl rfl (zc_eqF hc4) rfl ?_
    refine y_pure (pc' := 8) (st' := [.int x1]) rfl rfl ?_
    refine y_pure (pc' := 9) (st' := [.long (Int32.toInt64 x1)]) rfl rfl ?_
    refine y_pure (pc' := 10) (st' := [.long (nJ 0), .long (Int32.toInt64 x1)]) rfl rfl ?_
    refine y_pure (pc' := 13) (st' := [.long (nJ 2), .long (nJ 0), .long (Int32.toInt64 x1)]) rfl rfl ?_
    obtain ⟨v7, M6, he5, h⟩ := zC1_inv h
    refine y_callS (pc' := 16) (y := zmM_in) (a := [.long (Int32.toInt64 x1), .long (nJ 0), .long (nJ 2)]) (st' := []) rfl rfl rfl rfl rfl rfl he5 rfl rfl ?_
    rcases zif_inv h with ⟨hc8, h⟩ | ⟨hc8, h⟩
    · refine y_cnd (pc' := 31) rfl rfl (zc_eqT hc8) rfl ?_
      refine y_pure (pc' := 32) (st' := [.int (-1 : Int32)]) rfl rfl ?_
      exact y_ret rfl rfl rfl rfl h
    · refine y_cnd (pc' := 19) rfl rfl (zc_eqF hc8) rfl ?_
      refine y_pure (pc' := 20) (st' := [.int x2]) rfl rfl ?_
      refine y_pure (pc' := 21) (st' := [.long (Int32.toInt64 x2)]) rfl rfl ?_
      refine y_pure (pc' := 22) (st' := [.long (nJ 1), .long (Int32.toInt64 x2)]) rfl rfl ?_
      refine y_pure (pc' := 25) (st' := [.long (nJ 6), .long (nJ 1), .long (Int32.toInt64 x2)]) rfl rfl ?_
      obtain ⟨v11, M10, he9, h⟩ := zC1_inv h
      refine y_callS (pc' := 28) (y := zmM_in) (a := [.long (Int32.toInt64 x2), .long (nJ 1), .long (nJ 6)]) (st' := []) rfl rfl rfl rfl rfl rfl he9 rfl rfl ?_
      rcases zif_inv h with ⟨hc12, h⟩ | ⟨hc12, h⟩
      · refine y_cnd (pc' := 31) rfl rfl (zc_neF hc12) rfl ?_
        refine y_pure (pc' := 32) (st' := [.int (-1 : Int32)]) rfl rfl ?_
        exact y_ret rfl rfl rfl rfl h
      · refine y_cnd (pc' := 33) rfl rfl (zc_neT hc12) rfl ?_
        refine y_pure (pc' := 34) (st' := [.int (nI 0)]) rfl rfl ?_
        refine y_pure (pc' := 36) (ls' := [(0, .ref 866), (1, .int x1), (2, .int x2), (3, .int x3), (4, .int (nI 0))]) (st' := []) rfl rfl ?_
        refine y_pure (pc' := 37) (st' := [.int (nI 2)]) rfl rfl ?_
        refine y_pure (pc' := 39) (ls' := [(0, .ref 866), (1, .int x1), (2, .int x2), (3, .int x3), (4, .int (nI 0)), (5, .int (nI 2))]) (st' := []) rfl rfl ?_
        refine zEx_sub ?_ h
        exact ⟨rfl, rfl, rfl, rfl, rfl, rfl, trivial⟩
noncomputable def h_M_goesRange_67 (d : Nat) (x1 : Int32) (x2 : Int32) (x3 : Int32) (x4 : Int32) (M : ZM) : Option ZR := zEx0 (zEv d) zmM_goesRange (67, [(0, .ref 866), (1, .int x1), (2, .int x2), (3, .int x3), (4, .int x4)], [], M)
theorem e_M_goesRange_67 {d : Nat} {x1 : Int32} {x2 : Int32} {x3 : Int32} {x4 : Int32} {M : ZM} {r : ZR}  (h : zC1 (zEv d zmM_top [.ref 866] M) (fun v3 M2 => (if v3 < x4 then some (none, M2) else zC1 (zEv d zmM_cellOf [.ref 866, .int x1, .int x2] M2) (fun v7 M6 => zC1 (zEv d zmM_marks [.ref 866, .int v7] M6) (fun v10 M9 => zC1 (zEv d zmM_holds [.int v10, .int x4] M9) (fun v13 M12 => (if v13 = (nI 0) then h_M_goesRange_67 d x1 x2 x3 (x4 + (nI 1)) M12 else zC1 (zEv d zmM_of [.ref 866, .int x1, .int (nI 2)] M12) (fun v17 M16 => (if v17 = (nI 1) then zC1 (zEv d zmM_isLaid [.ref 866, .int x4, .int x2] M16) (fun v21 M20 => (if v21 = (nI 0) then (if zin x2 6 = true then zC0 (zEv d zmM_goesRange [.ref 866, .int x1, .int (x2 + (nI 1)), .int x3] (zpi M20 872 (Int32.toNatClampNeg x2) x4)) (fun M25 => h_M_goesRange_67 d x1 x2 x3 (x4 + (nI 1)) M25) else none) else h_M_goesRange_67 d x1 x2 x3 (x4 + (nI 1)) M20)) else (if zin x2 6 = true then zC0 (zEv d zmM_goesRange [.ref 866, .int x1, .int (x2 + (nI 1)), .int x3] (zpi M16 872 (Int32.toNatClampNeg x2) x4)) (fun M28 => h_M_goesRange_67 d x1 x2 x3 (x4 + (nI 1)) M28) else none))))))))) = some r) : h_M_goesRange_67 d x1 x2 x3 x4 M = some r := by
  show zEx0 (zEv d) zmM_goesRange (67, [(0, .ref 866), (1, .int x1), (2, .int x2), (3, .int x3), (4, .int x4)], [], M) = some r
  refine y_pure (pc' := 69) (st' := [.int x4]) rfl rfl ?_
  refine y_pure (pc' := 70) (st' := [.ref 866, .int x4]) rfl rfl ?_
  obtain ⟨v3, M2, he1, h⟩ := zC1_inv h
  refine y_callV (pc' := 73) (y := zmM_top) (a' := []) (st' := [.int x4]) rfl rfl rfl rfl rfl (zrecv_o (o := 10) zc_866 rfl) rfl he1 rfl rfl ?_
  rcases zif_inv h with ⟨hc4, h⟩ | ⟨hc4, h⟩
  · refine y_cmp (pc' := 140) rfl rfl (zc_gtT hc4) rfl ?_
    exact y_ret rfl rfl rfl rfl h
  · refine y_cmp (pc' := 76) rfl rfl (zc_gtF hc4) rfl ?_
    refine y_pure (pc' := 77) (st' := [.ref 866]) rfl rfl ?_
    refine y_pure (pc' := 78) (st' := [.ref 866, .ref 866]) rfl rfl ?_
    refine y_pure (pc' := 79) (st' := [.int x1, .ref 866, .ref 866]) rfl rfl ?_
    refine y_pure (pc' := 80) (st' := [.int x2, .int x1, .ref 866, .ref 866]) rfl rfl ?_
    obtain ⟨v7, M6, he5, h⟩ := zC1_inv h
    refine y_callV (pc' := 83) (y := zmM_cellOf) (a' := [.int x1, .int x2]) (st' := [.ref 866]) rfl rfl rfl rfl rfl (zrecv_o (o := 10) zc_866 rfl) rfl he5 rfl rfl ?_
    obtain ⟨v10, M9, he8, h⟩ := zC1_inv h
    refine y_callV (pc' := 86) (y := zmM_marks) (a' := [.int v7]) (st' := []) rfl rfl rfl rfl rfl (zrecv_o (o := 10) zc_866 rfl) rfl he8 rfl rfl ?_
    refine y_pure (pc' := 88) (st' := [.int x4, .int v10]) rfl rfl ?_
    obtain ⟨v13, M12, he11, h⟩ := zC1_inv h
    refine y_callS (pc' := 91) (y := zmM_holds) (a := [.int v10, .int x4]) (st' := []) rfl rfl rfl rfl rfl rfl he11 rfl rfl ?_
    rcases zif_inv h with ⟨hc14, h⟩ | ⟨hc14, h⟩
    · refine y_cnd (pc' := 134) rfl rfl (zc_eqT hc14) rfl ?_
      refine y_pure (pc' := 137) (ls' := [(0, .ref 866), (1, .int x1), (2, .int x2), (3, .int x3), (4, .int (x4 + (nI 1)))]) (st' := []) rfl rfl ?_
      refine y_pure (pc' := 67) rfl rfl ?_
      refine zEx_sub ?_ h
      exact ⟨rfl, rfl, rfl, rfl, rfl, trivial⟩
    · refine y_cnd (pc' := 94) rfl rfl (zc_eqF hc14) rfl ?_
      refine y_pure (pc' := 95) (st' := [.ref 866]) rfl rfl ?_
      refine y_pure (pc' := 96) (st' := [.int x1, .ref 866]) rfl rfl ?_
      refine y_pure (pc' := 97) (st' := [.int (nI 2), .int x1, .ref 866]) rfl rfl ?_
      obtain ⟨v17, M16, he15, h⟩ := zC1_inv h
      refine y_callV (pc' := 100) (y := zmM_of) (a' := [.int x1, .int (nI 2)]) (st' := []) rfl rfl rfl rfl rfl (zrecv_o (o := 10) zc_866 rfl) rfl he15 rfl rfl ?_
      refine y_pure (pc' := 101) (st' := [.int (nI 1), .int v17]) rfl rfl ?_
      rcases zif_inv h with ⟨hc18, h⟩ | ⟨hc18, h⟩
      · refine y_cmp (pc' := 104) rfl rfl (zc_neF hc18) rfl ?_
        refine y_pure (pc' := 105) (st' := [.ref 866]) rfl rfl ?_
        refine y_pure (pc' := 107) (st' := [.int x4, .ref 866]) rfl rfl ?_
        refine y_pure (pc' := 108) (st' := [.int x2, .int x4, .ref 866]) rfl rfl ?_
        obtain ⟨v21, M20, he19, h⟩ := zC1_inv h
        refine y_callV (pc' := 111) (y := zmM_isLaid) (a' := [.int x4, .int x2]) (st' := []) rfl rfl rfl rfl rfl (zrecv_o (o := 10) zc_866 rfl) rfl he19 rfl rfl ?_
        rcases zif_inv h with ⟨hc22, h⟩ | ⟨hc22, h⟩
        · refine y_cnd (pc' := 117) rfl rfl (zc_eqT hc22) rfl ?_
          refine y_pure (pc' := 118) (st' := [.ref 866]) rfl rfl ?_
          refine y_getf (pc' := 121) (v := .ref 872) rfl rfl rfl zc_866 rfl rfl ?_
          refine y_pure (pc' := 122) (st' := [.int x2, .ref 872]) rfl rfl ?_
          refine y_pure (pc' := 124) (st' := [.int x4, .int x2, .ref 872]) rfl rfl ?_
          obtain ⟨hi23, h⟩ := zg_inv h
          refine y_iast (pc' := 125) rfl zc_872 hi23 rfl ?_
          refine y_pure (pc' := 126) (st' := [.ref 866]) rfl rfl ?_
          refine y_pure (pc' := 127) (st' := [.int x1, .ref 866]) rfl rfl ?_
          refine y_pure (pc' := 128) (st' := [.int x2, .int x1, .ref 866]) rfl rfl ?_
          refine y_pure (pc' := 129) (st' := [.int (nI 1), .int x2, .int x1, .ref 866]) rfl rfl ?_
          refine y_pure (pc' := 130) (st' := [.int (x2 + (nI 1)), .int x1, .ref 866]) rfl rfl ?_
          refine y_pure (pc' := 131) (st' := [.int x3, .int (x2 + (nI 1)), .int x1, .ref 866]) rfl rfl ?_
          obtain ⟨M25, he24, h⟩ := zC0_inv h
          refine y_callV (pc' := 134) (y := zmM_goesRange) (a' := [.int x1, .int (x2 + (nI 1)), .int x3]) (st' := []) rfl rfl rfl rfl rfl (zrecv_o (o := 10) zc_866 rfl) rfl he24 rfl rfl ?_
          refine y_pure (pc' := 137) (ls' := [(0, .ref 866), (1, .int x1), (2, .int x2), (3, .int x3), (4, .int (x4 + (nI 1)))]) (st' := []) rfl rfl ?_
          refine y_pure (pc' := 67) rfl rfl ?_
          refine zEx_sub ?_ h
          exact ⟨rfl, rfl, rfl, rfl, rfl, trivial⟩
        · refine y_cnd (pc' := 114) rfl rfl (zc_eqF hc22) rfl ?_
          refine y_pure (pc' := 134) rfl rfl ?_
          refine y_pure (pc' := 137) (ls' := [(0, .ref 866), (1, .int x1), (2, .int x2), (3, .int x3), (4, .int (x4 + (nI 1)))]) (st' := []) rfl rfl ?_
          refine y_pure (pc' := 67) rfl rfl ?_
          refine zEx_sub ?_ h
          exact ⟨rfl, rfl, rfl, rfl, rfl, trivial⟩
      · refine y_cmp (pc' := 117) rfl rfl (zc_neT hc18) rfl ?_
        refine y_pure (pc' := 118) (st' := [.ref 866]) rfl rfl ?_
        refine y_getf (pc' := 121) (v := .ref 872) rfl rfl rfl zc_866 rfl rfl ?_
        refine y_pure (pc' := 122) (st' := [.int x2, .ref 872]) rfl rfl ?_
        refine y_pure (pc' := 124) (st' := [.int x4, .int x2, .ref 872]) rfl rfl ?_
        obtain ⟨hi26, h⟩ := zg_inv h
        refine y_iast (pc' := 125) rfl zc_872 hi26 rfl ?_
        refine y_pure (pc' := 126) (st' := [.ref 866]) rfl rfl ?_
        refine y_pure (pc' := 127) (st' := [.int x1, .ref 866]) rfl rfl ?_
        refine y_pure (pc' := 128) (st' := [.int x2, .int x1, .ref 866]) rfl rfl ?_
        refine y_pure (pc' := 129) (st' := [.int (nI 1), .int x2, .int x1, .ref 866]) rfl rfl ?_
        refine y_pure (pc' := 130) (st' := [.int (x2 + (nI 1)), .int x1, .ref 866]) rfl rfl ?_
        refine y_pure (pc' := 131) (st' := [.int x3, .int (x2 + (nI 1)), .int x1, .ref 866]) rfl rfl ?_
        obtain ⟨M28, he27, h⟩ := zC0_inv h
        refine y_callV (pc' := 134) (y := zmM_goesRange) (a' := [.int x1, .int (x2 + (nI 1)), .int x3]) (st' := []) rfl rfl rfl rfl rfl (zrecv_o (o := 10) zc_866 rfl) rfl he27 rfl rfl ?_
        refine y_pure (pc' := 137) (ls' := [(0, .ref 866), (1, .int x1), (2, .int x2), (3, .int x3), (4, .int (x4 + (nI 1)))]) (st' := []) rfl rfl ?_
        refine y_pure (pc' := 67) rfl rfl ?_
        refine zEx_sub ?_ h
        exact ⟨rfl, rfl, rfl, rfl, rfl, trivial⟩
theorem e_M_goesRange {d : Nat} {x1 : Int32} {x2 : Int32} {x3 : Int32} {M : ZM} {r : ZR}  (h : zC1 (zEv d zmM_of [.ref 866, .int x1, .int (nI 3)] M) (fun v3 M2 => (if x2 = v3 then zC1 (zEv d zmM_of [.ref 866, .int x1, .int (nI 0)] M2) (fun v7 M6 => zC1 (zEv d zmM_totalBy [.ref 866, .int v7, .int x2] M6) (fun v10 M9 => (if (M9.1 866 23) = (-2 : Int32) then some (none, (zpi M9 866 23 v10)) else (if x3 = (nI 0) then (if v10 < (M9.1 866 23) then some (none, (zpi M9 866 23 v10)) else some (none, M9)) else (if (M9.1 866 23) < v10 then some (none, (zpi M9 866 23 v10)) else some (none, M9)))))) else h_M_goesRange_67 d x1 x2 x3 (nI 1) M2)) = some r) : zEv (d + 1) zmM_goesRange [.ref 866, .int x1, .int x2, .int x3] M = some r := by
  rw [zEv_succ]
  show zEx0 (zEv d) zmM_goesRange (0, [(0, .ref 866), (1, .int x1), (2, .int x2), (3, .int x3)], [], M) = some r
  refine y_pure (pc' := 1) (st' := [.int x2]) rfl rfl ?_
  refine y_pure (pc' := 2) (st' := [.ref 866, .int x2]) rfl rfl ?_
  refine y_pure (pc' := 3) (st' := [.int x1, .ref 866, .int x2]) rfl rfl ?_
  refine y_pure (pc' := 4) (st' := [.int (nI 3), .int x1, .ref 866, .int x2]) rfl rfl ?_
  obtain ⟨v3, M2, he1, h⟩ := zC1_inv h
  refine y_callV (pc' := 7) (y := zmM_of) (a' := [.int x1, .int (nI 3)]) (st' := [.int x2]) rfl rfl rfl rfl rfl (zrecv_o (o := 10) zc_866 rfl) rfl he1 rfl rfl ?_
  rcases zif_inv h with ⟨hc4, h⟩ | ⟨hc4, h⟩
  · refine y_cmp (pc' := 10) rfl rfl (zc_neF hc4) rfl ?_
    refine y_pure (pc' := 11) (st' := [.ref 866]) rfl rfl ?_
    refine y_pure (pc' := 12) (st' := [.ref 866, .ref 866]) rfl rfl ?_
    refine y_pure (pc' := 13) (st' := [.int x1, .ref 866, .ref 866]) rfl rfl ?_
    refine y_pure (pc' := 14) (st' := [.int (nI 0), .int x1, .ref 866, .ref 866]) rfl rfl ?_
    obtain ⟨v7, M6, he5, h⟩ := zC1_inv h
    refine y_callV (pc' := 17) (y := zmM_of) (a' := [.int x1, .int (nI 0)]) (st' := [.ref 866]) rfl rfl rfl rfl rfl (zrecv_o (o := 10) zc_866 rfl) rfl he5 rfl rfl ?_
    refine y_pure (pc' := 18) (st' := [.int x2, .int v7, .ref 866]) rfl rfl ?_
    obtain ⟨v10, M9, he8, h⟩ := zC1_inv h
    refine y_callV (pc' := 21) (y := zmM_totalBy) (a' := [.int v7, .int x2]) (st' := []) rfl rfl rfl rfl rfl (zrecv_o (o := 10) zc_866 rfl) rfl he8 rfl rfl ?_
    refine y_pure (pc' := 23) (ls' := [(0, .ref 866), (1, .int x1), (2, .int x2), (3, .int x3), (4, .int v10)]) (st' := []) rfl rfl ?_
    refine y_pure (pc' := 24) (st' := [.ref 866]) rfl rfl ?_
    refine y_getf (pc' := 27) (v := .int (M9.1 866 23)) rfl rfl rfl zc_866 rfl rfl ?_
    refine y_pure (pc' := 29) (st' := [.int (-2 : Int32), .int (M9.1 866 23)]) rfl rfl ?_
    rcases zif_inv h with ⟨hc11, h⟩ | ⟨hc11, h⟩
    · refine y_cmp (pc' := 57) rfl rfl (zc_eqT hc11) rfl ?_
      refine y_pure (pc' := 58) (st' := [.ref 866]) rfl rfl ?_
      refine y_pure (pc' := 60) (st' := [.int v10, .ref 866]) rfl rfl ?_
      refine y_putI (pc' := 63) rfl rfl zc_866 rfl ?_
      exact y_ret rfl rfl rfl rfl h
    · refine y_cmp (pc' := 32) rfl rfl (zc_eqF hc11) rfl ?_
      refine y_pure (pc' := 33) (st' := [.int x3]) rfl rfl ?_
      rcases zif_inv h with ⟨hc12, h⟩ | ⟨hc12, h⟩
      · refine y_cnd (pc' := 48) rfl rfl (zc_eqT hc12) rfl ?_
        refine y_pure (pc' := 50) (st' := [.int v10]) rfl rfl ?_
        refine y_pure (pc' := 51) (st' := [.ref 866, .int v10]) rfl rfl ?_
        refine y_getf (pc' := 54) (v := .int (M9.1 866 23)) rfl rfl rfl zc_866 rfl rfl ?_
        rcases zif_inv h with ⟨hc13, h⟩ | ⟨hc13, h⟩
        · refine y_cmp (pc' := 57) rfl rfl (zc_geF hc13) rfl ?_
          refine y_pure (pc' := 58) (st' := [.ref 866]) rfl rfl ?_
          refine y_pure (pc' := 60) (st' := [.int v10, .ref 866]) rfl rfl ?_
          refine y_putI (pc' := 63) rfl rfl zc_866 rfl ?_
          exact y_ret rfl rfl rfl rfl h
        · refine y_cmp (pc' := 63) rfl rfl (zc_geT hc13) rfl ?_
          exact y_ret rfl rfl rfl rfl h
      · refine y_cnd (pc' := 36) rfl rfl (zc_eqF hc12) rfl ?_
        refine y_pure (pc' := 38) (st' := [.int v10]) rfl rfl ?_
        refine y_pure (pc' := 39) (st' := [.ref 866, .int v10]) rfl rfl ?_
        refine y_getf (pc' := 42) (v := .int (M9.1 866 23)) rfl rfl rfl zc_866 rfl rfl ?_
        rcases zif_inv h with ⟨hc14, h⟩ | ⟨hc14, h⟩
        · refine y_cmp (pc' := 45) rfl rfl (zc_leF hc14) rfl ?_
          refine y_pure (pc' := 57) rfl rfl ?_
          refine y_pure (pc' := 58) (st' := [.ref 866]) rfl rfl ?_
          refine y_pure (pc' := 60) (st' := [.int v10, .ref 866]) rfl rfl ?_
          refine y_putI (pc' := 63) rfl rfl zc_866 rfl ?_
          exact y_ret rfl rfl rfl rfl h
        · refine y_cmp (pc' := 63) rfl rfl (zc_leT hc14) rfl ?_
          exact y_ret rfl rfl rfl rfl h
  · refine y_cmp (pc' := 64) rfl rfl (zc_neT hc4) rfl ?_
    refine y_pure (pc' := 65) (st' := [.int (nI 1)]) rfl rfl ?_
    refine y_pure (pc' := 67) (ls' := [(0, .ref 866), (1, .int x1), (2, .int x2), (3, .int x3), (4, .int (nI 1))]) (st' := []) rfl rfl ?_
    refine zEx_sub ?_ h
    exact ⟨rfl, rfl, rfl, rfl, rfl, trivial⟩
theorem e_M_range {d : Nat} {x1 : Int32} {x2 : Int32} {M : ZM} {r : ZR}  (h : zC1 (zEv d zmM_isCage [.ref 866, .int x1] M) (fun v3 M2 => (if v3 = (nI 0) then some (some (.int (-1 : Int32)), M2) else zC0 (zEv d zmM_goesRange [.ref 866, .int x1, .int (nI 0), .int x2] (zpi M2 866 23 (-2 : Int32))) (fun M6 => some (some (.int (M6.1 866 23)), M6)))) = some r) : zEv (d + 1) zmM_range [.ref 866, .int x1, .int x2] M = some r := by
  rw [zEv_succ]
  show zEx0 (zEv d) zmM_range (0, [(0, .ref 866), (1, .int x1), (2, .int x2)], [], M) = some r
  refine y_pure (pc' := 1) (st' := [.ref 866]) rfl rfl ?_
  refine y_pure (pc' := 2) (st' := [.int x1, .ref 866]) rfl rfl ?_
  obtain ⟨v3, M2, he1, h⟩ := zC1_inv h
  refine y_callV (pc' := 5) (y := zmM_isCage) (a' := [.int x1]) (st' := []) rfl rfl rfl rfl rfl (zrecv_o (o := 10) zc_866 rfl) rfl he1 rfl rfl ?_
  rcases zif_inv h with ⟨hc4, h⟩ | ⟨hc4, h⟩
  · refine y_cnd (pc' := 8) rfl rfl (zc_neF hc4) rfl ?_
    refine y_pure (pc' := 9) (st' := [.int (-1 : Int32)]) rfl rfl ?_
    exact y_ret rfl rfl rfl rfl h
  · refine y_cnd (pc' := 10) rfl rfl (zc_neT hc4) rfl ?_
    refine y_pure (pc' := 11) (st' := [.ref 866]) rfl rfl ?_
    refine y_pure (pc' := 13) (st' := [.int (-2 : Int32), .ref 866]) rfl rfl ?_
    refine y_putI (pc' := 16) rfl rfl zc_866 rfl ?_
    refine y_pure (pc' := 17) (st' := [.ref 866]) rfl rfl ?_
    refine y_pure (pc' := 18) (st' := [.int x1, .ref 866]) rfl rfl ?_
    refine y_pure (pc' := 19) (st' := [.int (nI 0), .int x1, .ref 866]) rfl rfl ?_
    refine y_pure (pc' := 20) (st' := [.int x2, .int (nI 0), .int x1, .ref 866]) rfl rfl ?_
    obtain ⟨M6, he5, h⟩ := zC0_inv h
    refine y_callV (pc' := 23) (y := zmM_goesRange) (a' := [.int x1, .int (nI 0), .int x2]) (st' := []) rfl rfl rfl rfl rfl (zrecv_o (o := 10) zc_866 rfl) rfl he5 rfl rfl ?_
    refine y_pure (pc' := 24) (st' := [.ref 866]) rfl rfl ?_
    refine y_getf (pc' := 27) (v := .int (M6.1 866 23)) rfl rfl rfl zc_866 rfl rfl ?_
    exact y_ret rfl rfl rfl rfl h
noncomputable def h_M_counted_4 (d : Nat) (x1 : Int32) (x2 : Int32) (x3 : Int32) (M : ZM) : Option ZR := zEx0 (zEv d) zmM_counted (4, [(0, .ref 866), (1, .int x1), (2, .int x2), (3, .int x3)], [], M)
theorem e_M_counted_4 {d : Nat} {x1 : Int32} {x2 : Int32} {x3 : Int32} {M : ZM} {r : ZR}  (h : zC1 (zEv d zmM_cells [.ref 866] M) (fun v3 M2 => (if x3 < v3 then zC1 (zEv d zmM_isOpen [.ref 866, .int x3] M2) (fun v7 M6 => (if v7 = (nI 0) then h_M_counted_4 d x1 x2 (x3 + (nI 1)) M6 else (if x1 = (nI 3) then h_M_counted_4 d x1 (x2 + (nI 1)) (x3 + (nI 1)) M6 else (if x1 = (nI 5) then (if zin ((nI 76) + x3) 268 = true then h_M_counted_4 d x1 (x2 + (M6.1 867 (Int32.toNatClampNeg ((nI 76) + x3)))) (x3 + (nI 1)) M6 else none) else (if x1 = (nI 6) then zC1 (zEv d zmM_isDone [.ref 866, .int x3] M6) (fun v15 M14 => (if v15 = (nI 0) then h_M_counted_4 d x1 (x2 + (nI 0)) (x3 + (nI 1)) M14 else h_M_counted_4 d x1 (x2 + (nI 1)) (x3 + (nI 1)) M14)) else zC1 (zEv d zmM_marks [.ref 866, .int x3] M6) (fun v19 M18 => zC1 (zEv d zmM_bits [.int v19] M18) (fun v22 M21 => h_M_counted_4 d x1 (x2 + v22) (x3 + (nI 1)) M21))))))) else some (some (.int x2), M2))) = some r) : h_M_counted_4 d x1 x2 x3 M = some r := by
  show zEx0 (zEv d) zmM_counted (4, [(0, .ref 866), (1, .int x1), (2, .int x2), (3, .int x3)], [], M) = some r
  refine y_pure (pc' := 5) (st' := [.int x3]) rfl rfl ?_
  refine y_pure (pc' := 6) (st' := [.ref 866, .int x3]) rfl rfl ?_
  obtain ⟨v3, M2, he1, h⟩ := zC1_inv h
  refine y_callV (pc' := 9) (y := zmM_cells) (a' := []) (st' := [.int x3]) rfl rfl rfl rfl rfl (zrecv_o (o := 10) zc_866 rfl) rfl he1 rfl rfl ?_
  rcases zif_inv h with ⟨hc4, h⟩ | ⟨hc4, h⟩
  · refine y_cmp (pc' := 12) rfl rfl (zc_geF hc4) rfl ?_
    refine y_pure (pc' := 13) (st' := [.ref 866]) rfl rfl ?_
    refine y_pure (pc' := 14) (st' := [.int x3, .ref 866]) rfl rfl ?_
    obtain ⟨v7, M6, he5, h⟩ := zC1_inv h
    refine y_callV (pc' := 17) (y := zmM_isOpen) (a' := [.int x3]) (st' := []) rfl rfl rfl rfl rfl (zrecv_o (o := 10) zc_866 rfl) rfl he5 rfl rfl ?_
    rcases zif_inv h with ⟨hc8, h⟩ | ⟨hc8, h⟩
    · refine y_cnd (pc' := 20) rfl rfl (zc_neF hc8) rfl ?_
      refine y_pure (pc' := 82) rfl rfl ?_
      refine y_pure (pc' := 85) (ls' := [(0, .ref 866), (1, .int x1), (2, .int x2), (3, .int (x3 + (nI 1)))]) (st' := []) rfl rfl ?_
      refine y_pure (pc' := 4) rfl rfl ?_
      refine zEx_sub ?_ h
      exact ⟨rfl, rfl, rfl, rfl, trivial⟩
    · refine y_cnd (pc' := 23) rfl rfl (zc_neT hc8) rfl ?_
      refine y_pure (pc' := 24) (st' := [.int x2]) rfl rfl ?_
      refine y_pure (pc' := 25) (st' := [.int x1, .int x2]) rfl rfl ?_
      refine y_pure (pc' := 26) (st' := [.int (nI 3), .int x1, .int x2]) rfl rfl ?_
      rcases zif_inv h with ⟨hc9, h⟩ | ⟨hc9, h⟩
      · refine y_cmp (pc' := 29) rfl rfl (zc_neF hc9) rfl ?_
        refine y_pure (pc' := 30) (st' := [.int (nI 1), .int x2]) rfl rfl ?_
        refine y_pure (pc' := 80) rfl rfl ?_
        refine y_pure (pc' := 81) (st' := [.int (x2 + (nI 1))]) rfl rfl ?_
        refine y_pure (pc' := 82) (ls' := [(0, .ref 866), (1, .int x1), (2, .int (x2 + (nI 1))), (3, .int x3)]) (st' := []) rfl rfl ?_
        refine y_pure (pc' := 85) (ls' := [(0, .ref 866), (1, .int x1), (2, .int (x2 + (nI 1))), (3, .int (x3 + (nI 1)))]) (st' := []) rfl rfl ?_
        refine y_pure (pc' := 4) rfl rfl ?_
        refine zEx_sub ?_ h
        exact ⟨rfl, rfl, rfl, rfl, trivial⟩
      · refine y_cmp (pc' := 33) rfl rfl (zc_neT hc9) rfl ?_
        refine y_pure (pc' := 34) (st' := [.int x1, .int x2]) rfl rfl ?_
        refine y_pure (pc' := 35) (st' := [.int (nI 5), .int x1, .int x2]) rfl rfl ?_
        rcases zif_inv h with ⟨hc10, h⟩ | ⟨hc10, h⟩
        · refine y_cmp (pc' := 38) rfl rfl (zc_neF hc10) rfl ?_
          refine y_pure (pc' := 39) (st' := [.ref 866, .int x2]) rfl rfl ?_
          refine y_getf (pc' := 42) (v := .ref 867) rfl rfl rfl zc_866 rfl rfl ?_
          refine y_pure (pc' := 44) (st' := [.int (nI 76), .ref 867, .int x2]) rfl rfl ?_
          refine y_pure (pc' := 45) (st' := [.int x3, .int (nI 76), .ref 867, .int x2]) rfl rfl ?_
          refine y_pure (pc' := 46) (st' := [.int ((nI 76) + x3), .ref 867, .int x2]) rfl rfl ?_
          obtain ⟨hi11, h⟩ := zg_inv h
          refine y_iald (pc' := 47) rfl zc_867 hi11 rfl ?_
          refine y_pure (pc' := 80) rfl rfl ?_
          refine y_pure (pc' := 81) (st' := [.int (x2 + (M6.1 867 (Int32.toNatClampNeg ((nI 76) + x3))))]) rfl rfl ?_
          refine y_pure (pc' := 82) (ls' := [(0, .ref 866), (1, .int x1), (2, .int (x2 + (M6.1 867 (Int32.toNatClampNeg ((nI 76) + x3))))), (3, .int x3)]) (st' := []) rfl rfl ?_
          refine y_pure (pc' := 85) (ls' := [(0, .ref 866), (1, .int x1), (2, .int (x2 + (M6.1 867 (Int32.toNatClampNeg ((nI 76) + x3))))), (3, .int (x3 + (nI 1)))]) (st' := []) rfl rfl ?_
          refine y_pure (pc' := 4) rfl rfl ?_
          refine zEx_sub ?_ h
          exact ⟨rfl, rfl, rfl, rfl, trivial⟩
        · refine y_cmp (pc' := 50) rfl rfl (zc_neT hc10) rfl ?_
          refine y_pure (pc' := 51) (st' := [.int x1, .int x2]) rfl rfl ?_
          refine y_pure (pc' := 53) (st' := [.int (nI 6), .int x1, .int x2]) rfl rfl ?_
          rcases zif_inv h with ⟨hc12, h⟩ | ⟨hc12, h⟩
          · refine y_cmp (pc' := 56) rfl rfl (zc_neF hc12) rfl ?_
            refine y_pure (pc' := 57) (st' := [.ref 866, .int x2]) rfl rfl ?_
            refine y_pure (pc' := 58) (st' := [.int x3, .ref 866, .int x2]) rfl rfl ?_
            obtain ⟨v15, M14, he13, h⟩ := zC1_inv h
            refine y_callV (pc' := 61) (y := zmM_isDone) (a' := [.int x3]) (st' := [.int x2]) rfl rfl rfl rfl rfl (zrecv_o (o := 10) zc_866 rfl) rfl he13 rfl rfl ?_
            rcases zif_inv h with ⟨hc16, h⟩ | ⟨hc16, h⟩
            · refine y_cnd (pc' := 68) rfl rfl (zc_eqT hc16) rfl ?_
              refine y_pure (pc' := 69) (st' := [.int (nI 0), .int x2]) rfl rfl ?_
              refine y_pure (pc' := 80) rfl rfl ?_
              refine y_pure (pc' := 81) (st' := [.int (x2 + (nI 0))]) rfl rfl ?_
              refine y_pure (pc' := 82) (ls' := [(0, .ref 866), (1, .int x1), (2, .int (x2 + (nI 0))), (3, .int x3)]) (st' := []) rfl rfl ?_
              refine y_pure (pc' := 85) (ls' := [(0, .ref 866), (1, .int x1), (2, .int (x2 + (nI 0))), (3, .int (x3 + (nI 1)))]) (st' := []) rfl rfl ?_
              refine y_pure (pc' := 4) rfl rfl ?_
              refine zEx_sub ?_ h
              exact ⟨rfl, rfl, rfl, rfl, trivial⟩
            · refine y_cnd (pc' := 64) rfl rfl (zc_eqF hc16) rfl ?_
              refine y_pure (pc' := 65) (st' := [.int (nI 1), .int x2]) rfl rfl ?_
              refine y_pure (pc' := 80) rfl rfl ?_
              refine y_pure (pc' := 81) (st' := [.int (x2 + (nI 1))]) rfl rfl ?_
              refine y_pure (pc' := 82) (ls' := [(0, .ref 866), (1, .int x1), (2, .int (x2 + (nI 1))), (3, .int x3)]) (st' := []) rfl rfl ?_
              refine y_pure (pc' := 85) (ls' := [(0, .ref 866), (1, .int x1), (2, .int (x2 + (nI 1))), (3, .int (x3 + (nI 1)))]) (st' := []) rfl rfl ?_
              refine y_pure (pc' := 4) rfl rfl ?_
              refine zEx_sub ?_ h
              exact ⟨rfl, rfl, rfl, rfl, trivial⟩
          · refine y_cmp (pc' := 72) rfl rfl (zc_neT hc12) rfl ?_
            refine y_pure (pc' := 73) (st' := [.ref 866, .int x2]) rfl rfl ?_
            refine y_pure (pc' := 74) (st' := [.int x3, .ref 866, .int x2]) rfl rfl ?_
            obtain ⟨v19, M18, he17, h⟩ := zC1_inv h
            refine y_callV (pc' := 77) (y := zmM_marks) (a' := [.int x3]) (st' := [.int x2]) rfl rfl rfl rfl rfl (zrecv_o (o := 10) zc_866 rfl) rfl he17 rfl rfl ?_
            obtain ⟨v22, M21, he20, h⟩ := zC1_inv h
            refine y_callS (pc' := 80) (y := zmM_bits) (a := [.int v19]) (st' := [.int x2]) rfl rfl rfl rfl rfl rfl he20 rfl rfl ?_
            refine y_pure (pc' := 81) (st' := [.int (x2 + v22)]) rfl rfl ?_
            refine y_pure (pc' := 82) (ls' := [(0, .ref 866), (1, .int x1), (2, .int (x2 + v22)), (3, .int x3)]) (st' := []) rfl rfl ?_
            refine y_pure (pc' := 85) (ls' := [(0, .ref 866), (1, .int x1), (2, .int (x2 + v22)), (3, .int (x3 + (nI 1)))]) (st' := []) rfl rfl ?_
            refine y_pure (pc' := 4) rfl rfl ?_
            refine zEx_sub ?_ h
            exact ⟨rfl, rfl, rfl, rfl, trivial⟩
  · refine y_cmp (pc' := 88) rfl rfl (zc_geT hc4) rfl ?_
    refine y_pure (pc' := 89) (st' := [.int x2]) rfl rfl ?_
    exact y_ret rfl rfl rfl rfl h
theorem e_M_counted {d : Nat} {x1 : Int32} {M : ZM} {r : ZR}  (h : h_M_counted_4 d x1 (nI 0) (nI 0) M = some r) : zEv (d + 1) zmM_counted [.ref 866, .int x1] M = some r := by
  rw [zEv_succ]
  show zEx0 (zEv d) zmM_counted (0, [(0, .ref 866), (1, .int x1)], [], M) = some r
  refine y_pure (pc' := 1) (st' := [.int (nI 0)]) rfl rfl ?_
  refine y_pure (pc' := 2) (ls' := [(0, .ref 866), (1, .int x1), (2, .int (nI 0))]) (st' := []) rfl rfl ?_
  refine y_pure (pc' := 3) (st' := [.int (nI 0)]) rfl rfl ?_
  refine y_pure (pc' := 4) (ls' := [(0, .ref 866), (1, .int x1), (2, .int (nI 0)), (3, .int (nI 0))]) (st' := []) rfl rfl ?_
  refine zEx_sub ?_ h
  exact ⟨rfl, rfl, rfl, rfl, trivial⟩
theorem e_M_count {d : Nat} {x1 : Int32} {M : ZM} {r : ZR}  (h : (if x1 = (nI 0) then some (some (.int (M.1 867 0)), M) else (if x1 = (nI 1) then some (some (.int (M.1 867 1)), M) else (if x1 = (nI 2) then zC1 (zEv d zmM_top [.ref 866] M) (fun v14 M13 => some (some (.int v14), M13)) else (if x1 = (nI 3) then zC1 (zEv d zmM_counted [.ref 866, .int x1] M) (fun v17 M16 => some (some (.int v17), M16)) else (if x1 = (nI 4) then zC1 (zEv d zmM_cages [.ref 866] M) (fun v20 M19 => some (some (.int v20), M19)) else (if x1 = (nI 5) then zC1 (zEv d zmM_counted [.ref 866, .int x1] M) (fun v23 M22 => some (some (.int v23), M22)) else (if x1 = (nI 6) then zC1 (zEv d zmM_counted [.ref 866, .int x1] M) (fun v26 M25 => some (some (.int v26), M25)) else (if x1 = (nI 7) then zC1 (zEv d zmM_counted [.ref 866, .int x1] M) (fun v29 M28 => some (some (.int v29), M28)) else (if x1 = (nI 8) then some (some (.int (M.1 866 2)), M) else (if x1 = (nI 9) then some (some (.int (M.1 866 35)), M) else (if x1 = (nI 10) then (if (M.1 870 0) = (nI 0) then (if (M.1 870 1) = (nI 0) then some (some (.int ((nI 0) + (nI 0))), M) else some (some (.int ((nI 0) + (nI 2))), M)) else (if (M.1 870 1) = (nI 0) then some (some (.int ((nI 1) + (nI 0))), M) else some (some (.int ((nI 1) + (nI 2))), M))) else some (some (.int (-1 : Int32)), M)))))))))))) = some r) : zEv (d + 1) zmM_count [.ref 866, .int x1] M = some r := by
  rw [zEv_succ]
  show zEx0 (zEv d) zmM_count (0, [(0, .ref 866), (1, .int x1)], [], M) = some r
  refine y_pure (pc' := 1) (st' := [.int x1]) rfl rfl ?_
  rcases zif_inv h with ⟨hc1, h⟩ | ⟨hc1, h⟩
  · refine y_sw (k := 0) (t := 60) rfl (by rw [hc1]; decide) (by decide) rfl rfl ?_
    refine y_pure (pc' := 61) (st' := [.ref 866]) rfl rfl ?_
    refine y_getf (pc' := 64) (v := .ref 867) rfl rfl rfl zc_866 rfl rfl ?_
    refine y_pure (pc' := 65) (st' := [.int (nI 0), .ref 867]) rfl rfl ?_
    refine y_iald (pc' := 66) rfl zc_867 (by decide) rfl ?_
    exact y_ret rfl rfl rfl rfl h
  · rcases zif_inv h with ⟨hc2, h⟩ | ⟨hc2, h⟩
    · refine y_sw (k := 1) (t := 67) rfl (by rw [hc2]; decide) (by decide) rfl rfl ?_
      refine y_pure (pc' := 68) (st' := [.ref 866]) rfl rfl ?_
      refine y_getf (pc' := 71) (v := .ref 867) rfl rfl rfl zc_866 rfl rfl ?_
      refine y_pure (pc' := 72) (st' := [.int (nI 1), .ref 867]) rfl rfl ?_
      refine y_iald (pc' := 73) rfl zc_867 (by decide) rfl ?_
      exact y_ret rfl rfl rfl rfl h
    · rcases zif_inv h with ⟨hc3, h⟩ | ⟨hc3, h⟩
      · refine y_sw (k := 2) (t := 74) rfl (by rw [hc3]; decide) (by decide) rfl rfl ?_
        refine y_pure (pc' := 75) (st' := [.ref 866]) rfl rfl ?_
        obtain ⟨v14, M13, he12, h⟩ := zC1_inv h
        refine y_callV (pc' := 78) (y := zmM_top) (a' := []) (st' := []) rfl rfl rfl rfl rfl (zrecv_o (o := 10) zc_866 rfl) rfl he12 rfl rfl ?_
        exact y_ret rfl rfl rfl rfl h
      · rcases zif_inv h with ⟨hc4, h⟩ | ⟨hc4, h⟩
        · refine y_sw (k := 3) (t := 84) rfl (by rw [hc4]; decide) (by decide) rfl rfl ?_
          refine y_pure (pc' := 85) (st' := [.ref 866]) rfl rfl ?_
          refine y_pure (pc' := 86) (st' := [.int x1, .ref 866]) rfl rfl ?_
          obtain ⟨v17, M16, he15, h⟩ := zC1_inv h
          refine y_callV (pc' := 89) (y := zmM_counted) (a' := [.int x1]) (st' := []) rfl rfl rfl rfl rfl (zrecv_o (o := 10) zc_866 rfl) rfl he15 rfl rfl ?_
          exact y_ret rfl rfl rfl rfl h
        · rcases zif_inv h with ⟨hc5, h⟩ | ⟨hc5, h⟩
          · refine y_sw (k := 4) (t := 79) rfl (by rw [hc5]; decide) (by decide) rfl rfl ?_
            refine y_pure (pc' := 80) (st' := [.ref 866]) rfl rfl ?_
            obtain ⟨v20, M19, he18, h⟩ := zC1_inv h
            refine y_callV (pc' := 83) (y := zmM_cages) (a' := []) (st' := []) rfl rfl rfl rfl rfl (zrecv_o (o := 10) zc_866 rfl) rfl he18 rfl rfl ?_
            exact y_ret rfl rfl rfl rfl h
          · rcases zif_inv h with ⟨hc6, h⟩ | ⟨hc6, h⟩
            · refine y_sw (k := 5) (t := 84) rfl (by rw [hc6]; decide) (by decide) rfl rfl ?_
              refine y_pure (pc' := 85) (st' := [.ref 866]) rfl rfl ?_
              refine y_pure (pc' := 86) (st' := [.int x1, .ref 866]) rfl rfl ?_
              obtain ⟨v23, M22, he21, h⟩ := zC1_inv h
              refine y_callV (pc' := 89) (y := zmM_counted) (a' := [.int x1]) (st' := []) rfl rfl rfl rfl rfl (zrecv_o (o := 10) zc_866 rfl) rfl he21 rfl rfl ?_
              exact y_ret rfl rfl rfl rfl h
            · rcases zif_inv h with ⟨hc7, h⟩ | ⟨hc7, h⟩
              · refine y_sw (k := 6) (t := 84) rfl (by rw [hc7]; decide) (by decide) rfl rfl ?_
                refine y_pure (pc' := 85) (st' := [.ref 866]) rfl rfl ?_
                refine y_pure (pc' := 86) (st' := [.int x1, .ref 866]) rfl rfl ?_
                obtain ⟨v26, M25, he24, h⟩ := zC1_inv h
                refine y_callV (pc' := 89) (y := zmM_counted) (a' := [.int x1]) (st' := []) rfl rfl rfl rfl rfl (zrecv_o (o := 10) zc_866 rfl) rfl he24 rfl rfl ?_
                exact y_ret rfl rfl rfl rfl h
              · rcases zif_inv h with ⟨hc8, h⟩ | ⟨hc8, h⟩
                · refine y_sw (k := 7) (t := 84) rfl (by rw [hc8]; decide) (by decide) rfl rfl ?_
                  refine y_pure (pc' := 85) (st' := [.ref 866]) rfl rfl ?_
                  refine y_pure (pc' := 86) (st' := [.int x1, .ref 866]) rfl rfl ?_
                  obtain ⟨v29, M28, he27, h⟩ := zC1_inv h
                  refine y_callV (pc' := 89) (y := zmM_counted) (a' := [.int x1]) (st' := []) rfl rfl rfl rfl rfl (zrecv_o (o := 10) zc_866 rfl) rfl he27 rfl rfl ?_
                  exact y_ret rfl rfl rfl rfl h
                · rcases zif_inv h with ⟨hc9, h⟩ | ⟨hc9, h⟩
                  · refine y_sw (k := 8) (t := 90) rfl (by rw [hc9]; decide) (by decide) rfl rfl ?_
                    refine y_pure (pc' := 91) (st' := [.ref 866]) rfl rfl ?_
                    refine y_getf (pc' := 94) (v := .int (M.1 866 2)) rfl rfl rfl zc_866 rfl rfl ?_
                    exact y_ret rfl rfl rfl rfl h
                  · rcases zif_inv h with ⟨hc10, h⟩ | ⟨hc10, h⟩
                    · refine y_sw (k := 9) (t := 95) rfl (by rw [hc10]; decide) (by decide) rfl rfl ?_
                      refine y_pure (pc' := 96) (st' := [.ref 866]) rfl rfl ?_
                      refine y_getf (pc' := 99) (v := .int (M.1 866 35)) rfl rfl rfl zc_866 rfl rfl ?_
                      exact y_ret rfl rfl rfl rfl h
                    · rcases zif_inv h with ⟨hc11, h⟩ | ⟨hc11, h⟩
                      · refine y_sw (k := 10) (t := 100) rfl (by rw [hc11]; decide) (by decide) rfl rfl ?_
                        refine y_pure (pc' := 101) (st' := [.ref 866]) rfl rfl ?_
                        refine y_getf (pc' := 104) (v := .ref 870) rfl rfl rfl zc_866 rfl rfl ?_
                        refine y_pure (pc' := 105) (st' := [.int (nI 0), .ref 870]) rfl rfl ?_
                        refine y_zald (pc' := 106) rfl zc_870 (by decide) rfl ?_
                        rcases zif_inv h with ⟨hc30, h⟩ | ⟨hc30, h⟩
                        · refine y_cnd (pc' := 113) rfl rfl (zc_eqT hc30) rfl ?_
                          refine y_pure (pc' := 114) (st' := [.int (nI 0)]) rfl rfl ?_
                          refine y_pure (pc' := 115) (st' := [.ref 866, .int (nI 0)]) rfl rfl ?_
                          refine y_getf (pc' := 118) (v := .ref 870) rfl rfl rfl zc_866 rfl rfl ?_
                          refine y_pure (pc' := 119) (st' := [.int (nI 1), .ref 870, .int (nI 0)]) rfl rfl ?_
                          refine y_zald (pc' := 120) rfl zc_870 (by decide) rfl ?_
                          rcases zif_inv h with ⟨hc31, h⟩ | ⟨hc31, h⟩
                          · refine y_cnd (pc' := 127) rfl rfl (zc_eqT hc31) rfl ?_
                            refine y_pure (pc' := 128) (st' := [.int (nI 0), .int (nI 0)]) rfl rfl ?_
                            refine y_pure (pc' := 129) (st' := [.int ((nI 0) + (nI 0))]) rfl rfl ?_
                            exact y_ret rfl rfl rfl rfl h
                          · refine y_cnd (pc' := 123) rfl rfl (zc_eqF hc31) rfl ?_
                            refine y_pure (pc' := 124) (st' := [.int (nI 2), .int (nI 0)]) rfl rfl ?_
                            refine y_pure (pc' := 128) rfl rfl ?_
                            refine y_pure (pc' := 129) (st' := [.int ((nI 0) + (nI 2))]) rfl rfl ?_
                            exact y_ret rfl rfl rfl rfl h
                        · refine y_cnd (pc' := 109) rfl rfl (zc_eqF hc30) rfl ?_
                          refine y_pure (pc' := 110) (st' := [.int (nI 1)]) rfl rfl ?_
                          refine y_pure (pc' := 114) rfl rfl ?_
                          refine y_pure (pc' := 115) (st' := [.ref 866, .int (nI 1)]) rfl rfl ?_
                          refine y_getf (pc' := 118) (v := .ref 870) rfl rfl rfl zc_866 rfl rfl ?_
                          refine y_pure (pc' := 119) (st' := [.int (nI 1), .ref 870, .int (nI 1)]) rfl rfl ?_
                          refine y_zald (pc' := 120) rfl zc_870 (by decide) rfl ?_
                          rcases zif_inv h with ⟨hc32, h⟩ | ⟨hc32, h⟩
                          · refine y_cnd (pc' := 127) rfl rfl (zc_eqT hc32) rfl ?_
                            refine y_pure (pc' := 128) (st' := [.int (nI 0), .int (nI 1)]) rfl rfl ?_
                            refine y_pure (pc' := 129) (st' := [.int ((nI 1) + (nI 0))]) rfl rfl ?_
                            exact y_ret rfl rfl rfl rfl h
                          · refine y_cnd (pc' := 123) rfl rfl (zc_eqF hc32) rfl ?_
                            refine y_pure (pc' := 124) (st' := [.int (nI 2), .int (nI 1)]) rfl rfl ?_
                            refine y_pure (pc' := 128) rfl rfl ?_
                            refine y_pure (pc' := 129) (st' := [.int ((nI 1) + (nI 2))]) rfl rfl ?_
                            exact y_ret rfl rfl rfl rfl h
                      · refine y_swD (t := 130) rfl (by have q0 := zsw_ne (k := 0) (by decide) hc1; have q1 := zsw_ne (k := 1) (by decide) hc2; have q2 := zsw_ne (k := 2) (by decide) hc3; have q3 := zsw_ne (k := 3) (by decide) hc4; have q4 := zsw_ne (k := 4) (by decide) hc5; have q5 := zsw_ne (k := 5) (by decide) hc6; have q6 := zsw_ne (k := 6) (by decide) hc7; have q7 := zsw_ne (k := 7) (by decide) hc8; have q8 := zsw_ne (k := 8) (by decide) hc9; have q9 := zsw_ne (k := 9) (by decide) hc10; have q10 := zsw_ne (k := 10) (by decide) hc11; omega) rfl ?_
                        refine y_pure (pc' := 131) (st' := [.int (-1 : Int32)]) rfl rfl ?_
                        exact y_ret rfl rfl rfl rfl h
noncomputable def h_M_keepsRow_13 (d : Nat) (x1 : Nat) (x2 : Int32) (M : ZM) : Option ZR := zEx0 (zEv d) zmM_keepsRow (13, [(0, .ref 866), (1, .ref x1), (2, .int x2)], [], M)
noncomputable def h_M_keepsRow_54 (d : Nat) (x1 : Nat) (x2 : Int32) (M : ZM) : Option ZR := zEx0 (zEv d) zmM_keepsRow (54, [(0, .ref 866), (1, .ref x1), (2, .int x2)], [], M)
theorem e_M_keepsRow_13 {d : Nat} {x1 : Nat} {x2 : Int32} {M : ZM} {r : ZR} (hk1 : zkd x1 = (1, 268)) (h : (if x2 < (nI 2680) then (if zin x2 2680 = true then (if zin (x2 - (nI 268)) 2680 = true then h_M_keepsRow_13 d x1 (x2 + (nI 1)) (zpi M 868 (Int32.toNatClampNeg (x2 - (nI 268))) (M.1 868 (Int32.toNatClampNeg x2))) else none) else none) else h_M_keepsRow_54 d x1 (nI 0) (zpi M 866 2 ((M.1 866 2) - (nI 1)))) = some r) : h_M_keepsRow_13 d x1 x2 M = some r := by
  show zEx0 (zEv d) zmM_keepsRow (13, [(0, .ref 866), (1, .ref x1), (2, .int x2)], [], M) = some r
  refine y_pure (pc' := 14) (st' := [.int x2]) rfl rfl ?_
  refine y_pure (pc' := 17) (st' := [.int (nI 2680), .int x2]) rfl rfl ?_
  rcases zif_inv h with ⟨hc1, h⟩ | ⟨hc1, h⟩
  · refine y_cmp (pc' := 20) rfl rfl (zc_geF hc1) rfl ?_
    refine y_pure (pc' := 21) (st' := [.ref 866]) rfl rfl ?_
    refine y_getf (pc' := 24) (v := .ref 868) rfl rfl rfl zc_866 rfl rfl ?_
    refine y_pure (pc' := 25) (st' := [.int x2, .ref 868]) rfl rfl ?_
    refine y_pure (pc' := 28) (st' := [.int (nI 268), .int x2, .ref 868]) rfl rfl ?_
    refine y_pure (pc' := 29) (st' := [.int (x2 - (nI 268)), .ref 868]) rfl rfl ?_
    refine y_pure (pc' := 30) (st' := [.ref 866, .int (x2 - (nI 268)), .ref 868]) rfl rfl ?_
    refine y_getf (pc' := 33) (v := .ref 868) rfl rfl rfl zc_866 rfl rfl ?_
    refine y_pure (pc' := 34) (st' := [.int x2, .ref 868, .int (x2 - (nI 268)), .ref 868]) rfl rfl ?_
    obtain ⟨hi2, h⟩ := zg_inv h
    refine y_iald (pc' := 35) rfl zc_868 hi2 rfl ?_
    obtain ⟨hi3, h⟩ := zg_inv h
    refine y_iast (pc' := 36) rfl zc_868 hi3 rfl ?_
    refine y_pure (pc' := 39) (ls' := [(0, .ref 866), (1, .ref x1), (2, .int (x2 + (nI 1)))]) (st' := []) rfl rfl ?_
    refine y_pure (pc' := 13) rfl rfl ?_
    refine zEx_sub ?_ h
    exact ⟨rfl, rfl, rfl, trivial⟩
  · refine y_cmp (pc' := 42) rfl rfl (zc_geT hc1) rfl ?_
    refine y_pure (pc' := 43) (st' := [.ref 866]) rfl rfl ?_
    refine y_pure (pc' := 44) (st' := [.ref 866, .ref 866]) rfl rfl ?_
    refine y_getf (pc' := 47) (v := .int (M.1 866 2)) rfl rfl rfl zc_866 rfl rfl ?_
    refine y_pure (pc' := 48) (st' := [.int (nI 1), .int (M.1 866 2), .ref 866]) rfl rfl ?_
    refine y_pure (pc' := 49) (st' := [.int ((M.1 866 2) - (nI 1)), .ref 866]) rfl rfl ?_
    refine y_putI (pc' := 52) rfl rfl zc_866 rfl ?_
    refine y_pure (pc' := 53) (st' := [.int (nI 0)]) rfl rfl ?_
    refine y_pure (pc' := 54) (ls' := [(0, .ref 866), (1, .ref x1), (2, .int (nI 0))]) (st' := []) rfl rfl ?_
    refine zEx_sub ?_ h
    exact ⟨rfl, rfl, rfl, trivial⟩
theorem e_M_keepsRow_54 {d : Nat} {x1 : Nat} {x2 : Int32} {M : ZM} {r : ZR} (hk1 : zkd x1 = (1, 268)) (h : (if x2 < (nI 268) then (if zin x2 268 = true then (if zin (((nI 268) * (M.1 866 2)) + x2) 2680 = true then h_M_keepsRow_54 d x1 (x2 + (nI 1)) (zpi M 868 (Int32.toNatClampNeg (((nI 268) * (M.1 866 2)) + x2)) (M.1 x1 (Int32.toNatClampNeg x2))) else none) else none) else some (none, (zpi M 866 2 ((M.1 866 2) + (nI 1))))) = some r) : h_M_keepsRow_54 d x1 x2 M = some r := by
  show zEx0 (zEv d) zmM_keepsRow (54, [(0, .ref 866), (1, .ref x1), (2, .int x2)], [], M) = some r
  refine y_pure (pc' := 55) (st' := [.int x2]) rfl rfl ?_
  refine y_pure (pc' := 58) (st' := [.int (nI 268), .int x2]) rfl rfl ?_
  rcases zif_inv h with ⟨hc1, h⟩ | ⟨hc1, h⟩
  · refine y_cmp (pc' := 61) rfl rfl (zc_geF hc1) rfl ?_
    refine y_pure (pc' := 62) (st' := [.ref 866]) rfl rfl ?_
    refine y_getf (pc' := 65) (v := .ref 868) rfl rfl rfl zc_866 rfl rfl ?_
    refine y_pure (pc' := 68) (st' := [.int (nI 268), .ref 868]) rfl rfl ?_
    refine y_pure (pc' := 69) (st' := [.ref 866, .int (nI 268), .ref 868]) rfl rfl ?_
    refine y_getf (pc' := 72) (v := .int (M.1 866 2)) rfl rfl rfl zc_866 rfl rfl ?_
    refine y_pure (pc' := 73) (st' := [.int ((nI 268) * (M.1 866 2)), .ref 868]) rfl rfl ?_
    refine y_pure (pc' := 74) (st' := [.int x2, .int ((nI 268) * (M.1 866 2)), .ref 868]) rfl rfl ?_
    refine y_pure (pc' := 75) (st' := [.int (((nI 268) * (M.1 866 2)) + x2), .ref 868]) rfl rfl ?_
    refine y_pure (pc' := 76) (st' := [.ref x1, .int (((nI 268) * (M.1 866 2)) + x2), .ref 868]) rfl rfl ?_
    refine y_pure (pc' := 77) (st' := [.int x2, .ref x1, .int (((nI 268) * (M.1 866 2)) + x2), .ref 868]) rfl rfl ?_
    obtain ⟨hi2, h⟩ := zg_inv h
    refine y_iald (pc' := 78) rfl hk1 hi2 rfl ?_
    obtain ⟨hi3, h⟩ := zg_inv h
    refine y_iast (pc' := 79) rfl zc_868 hi3 rfl ?_
    refine y_pure (pc' := 82) (ls' := [(0, .ref 866), (1, .ref x1), (2, .int (x2 + (nI 1)))]) (st' := []) rfl rfl ?_
    refine y_pure (pc' := 54) rfl rfl ?_
    refine zEx_sub ?_ h
    exact ⟨rfl, rfl, rfl, trivial⟩
  · refine y_cmp (pc' := 85) rfl rfl (zc_geT hc1) rfl ?_
    refine y_pure (pc' := 86) (st' := [.ref 866]) rfl rfl ?_
    refine y_pure (pc' := 87) (st' := [.ref 866, .ref 866]) rfl rfl ?_
    refine y_getf (pc' := 90) (v := .int (M.1 866 2)) rfl rfl rfl zc_866 rfl rfl ?_
    refine y_pure (pc' := 91) (st' := [.int (nI 1), .int (M.1 866 2), .ref 866]) rfl rfl ?_
    refine y_pure (pc' := 92) (st' := [.int ((M.1 866 2) + (nI 1)), .ref 866]) rfl rfl ?_
    refine y_putI (pc' := 95) rfl rfl zc_866 rfl ?_
    exact y_ret rfl rfl rfl rfl h
theorem e_M_keepsRow {d : Nat} {x1 : Nat} {M : ZM} {r : ZR} (hk1 : zkd x1 = (1, 268)) (h : (if (M.1 866 2) = (nI 10) then h_M_keepsRow_13 d x1 (nI 268) M else h_M_keepsRow_54 d x1 (nI 0) M) = some r) : zEv (d + 1) zmM_keepsRow [.ref 866, .ref x1] M = some r := by
  rw [zEv_succ]
  show zEx0 (zEv d) zmM_keepsRow (0, [(0, .ref 866), (1, .ref x1)], [], M) = some r
  refine y_pure (pc' := 1) (st' := [.ref 866]) rfl rfl ?_
  refine y_getf (pc' := 4) (v := .int (M.1 866 2)) rfl rfl rfl zc_866 rfl rfl ?_
  refine y_pure (pc' := 6) (st' := [.int (nI 10), .int (M.1 866 2)]) rfl rfl ?_
  rcases zif_inv h with ⟨hc1, h⟩ | ⟨hc1, h⟩
  · refine y_cmp (pc' := 9) rfl rfl (zc_neF hc1) rfl ?_
    refine y_pure (pc' := 12) (st' := [.int (nI 268)]) rfl rfl ?_
    refine y_pure (pc' := 13) (ls' := [(0, .ref 866), (1, .ref x1), (2, .int (nI 268))]) (st' := []) rfl rfl ?_
    refine zEx_sub ?_ h
    exact ⟨rfl, rfl, rfl, trivial⟩
  · refine y_cmp (pc' := 52) rfl rfl (zc_neT hc1) rfl ?_
    refine y_pure (pc' := 53) (st' := [.int (nI 0)]) rfl rfl ?_
    refine y_pure (pc' := 54) (ls' := [(0, .ref 866), (1, .ref x1), (2, .int (nI 0))]) (st' := []) rfl rfl ?_
    refine zEx_sub ?_ h
    exact ⟨rfl, rfl, rfl, trivial⟩
theorem e_M_keepsAct {d : Nat}  {M : ZM} {r : ZR}  (h : zC0 (zEv d zmM_keepsRow [.ref 866, .ref 867] M) (fun M2 => some (none, M2)) = some r) : zEv (d + 1) zmM_keepsAct [.ref 866] M = some r := by
  rw [zEv_succ]
  show zEx0 (zEv d) zmM_keepsAct (0, [(0, .ref 866)], [], M) = some r
  refine y_pure (pc' := 1) (st' := [.ref 866]) rfl rfl ?_
  refine y_pure (pc' := 2) (st' := [.ref 866, .ref 866]) rfl rfl ?_
  refine y_getf (pc' := 5) (v := .ref 867) rfl rfl rfl zc_866 rfl rfl ?_
  obtain ⟨M2, he1, h⟩ := zC0_inv h
  refine y_callV (pc' := 8) (y := zmM_keepsRow) (a' := [.ref 867]) (st' := []) rfl rfl rfl rfl rfl (zrecv_o (o := 10) zc_866 rfl) rfl he1 rfl rfl ?_
  exact y_ret rfl rfl rfl rfl h
theorem e_M_put {d : Nat} {x1 : Int32} {x2 : Int32} {M : ZM} {r : ZR}  (h : zC1 (zEv d zmM_isOpen [.ref 866, .int x1] M) (fun v3 M2 => (if v3 = (nI 0) then some (some (.int (-1 : Int32)), M2) else zC1 (zEv d zmM_isDigit [.ref 866, .int x2] M2) (fun v7 M6 => (if v7 = (nI 0) then some (some (.int (-1 : Int32)), M6) else zC1 (zEv d zmM_isDone [.ref 866, .int x1] M6) (fun v11 M10 => (if v11 = (nI 0) then zC1 (zEv d zmM_marks [.ref 866, .int x1] M10) (fun v15 M14 => zC1 (zEv d zmM_holds [.int v15, .int x2] M14) (fun v18 M17 => (if v18 = (nI 0) then some (some (.int (-3 : Int32)), M17) else zC0 (zEv d zmM_keepsAct [.ref 866] M17) (fun M21 => zC0 (zEv d zmM_puts [.ref 866, .int x1, .int x2] M21) (fun M23 => some (some (.int (nI 1)), M23)))))) else some (some (.int (-2 : Int32)), M10))))))) = some r) : zEv (d + 1) zmM_put [.ref 866, .int x1, .int x2] M = some r := by
  rw [zEv_succ]
  show zEx0 (zEv d) zmM_put (0, [(0, .ref 866), (1, .int x1), (2, .int x2)], [], M) = some r
  refine y_pure (pc' := 1) (st' := [.ref 866]) rfl rfl ?_
  refine y_pure (pc' := 2) (st' := [.int x1, .ref 866]) rfl rfl ?_
  obtain ⟨v3, M2, he1, h⟩ := zC1_inv h
  refine y_callV (pc' := 5) (y := zmM_isOpen) (a' := [.int x1]) (st' := []) rfl rfl rfl rfl rfl (zrecv_o (o := 10) zc_866 rfl) rfl he1 rfl rfl ?_
  rcases zif_inv h with ⟨hc4, h⟩ | ⟨hc4, h⟩
  · refine y_cnd (pc' := 16) rfl rfl (zc_eqT hc4) rfl ?_
    refine y_pure (pc' := 17) (st' := [.int (-1 : Int32)]) rfl rfl ?_
    exact y_ret rfl rfl rfl rfl h
  · refine y_cnd (pc' := 8) rfl rfl (zc_eqF hc4) rfl ?_
    refine y_pure (pc' := 9) (st' := [.ref 866]) rfl rfl ?_
    refine y_pure (pc' := 10) (st' := [.int x2, .ref 866]) rfl rfl ?_
    obtain ⟨v7, M6, he5, h⟩ := zC1_inv h
    refine y_callV (pc' := 13) (y := zmM_isDigit) (a' := [.int x2]) (st' := []) rfl rfl rfl rfl rfl (zrecv_o (o := 10) zc_866 rfl) rfl he5 rfl rfl ?_
    rcases zif_inv h with ⟨hc8, h⟩ | ⟨hc8, h⟩
    · refine y_cnd (pc' := 16) rfl rfl (zc_neF hc8) rfl ?_
      refine y_pure (pc' := 17) (st' := [.int (-1 : Int32)]) rfl rfl ?_
      exact y_ret rfl rfl rfl rfl h
    · refine y_cnd (pc' := 18) rfl rfl (zc_neT hc8) rfl ?_
      refine y_pure (pc' := 19) (st' := [.ref 866]) rfl rfl ?_
      refine y_pure (pc' := 20) (st' := [.int x1, .ref 866]) rfl rfl ?_
      obtain ⟨v11, M10, he9, h⟩ := zC1_inv h
      refine y_callV (pc' := 23) (y := zmM_isDone) (a' := [.int x1]) (st' := []) rfl rfl rfl rfl rfl (zrecv_o (o := 10) zc_866 rfl) rfl he9 rfl rfl ?_
      rcases zif_inv h with ⟨hc12, h⟩ | ⟨hc12, h⟩
      · refine y_cnd (pc' := 29) rfl rfl (zc_eqT hc12) rfl ?_
        refine y_pure (pc' := 30) (st' := [.ref 866]) rfl rfl ?_
        refine y_pure (pc' := 31) (st' := [.int x1, .ref 866]) rfl rfl ?_
        obtain ⟨v15, M14, he13, h⟩ := zC1_inv h
        refine y_callV (pc' := 34) (y := zmM_marks) (a' := [.int x1]) (st' := []) rfl rfl rfl rfl rfl (zrecv_o (o := 10) zc_866 rfl) rfl he13 rfl rfl ?_
        refine y_pure (pc' := 35) (st' := [.int x2, .int v15]) rfl rfl ?_
        obtain ⟨v18, M17, he16, h⟩ := zC1_inv h
        refine y_callS (pc' := 38) (y := zmM_holds) (a := [.int v15, .int x2]) (st' := []) rfl rfl rfl rfl rfl rfl he16 rfl rfl ?_
        rcases zif_inv h with ⟨hc19, h⟩ | ⟨hc19, h⟩
        · refine y_cnd (pc' := 41) rfl rfl (zc_neF hc19) rfl ?_
          refine y_pure (pc' := 43) (st' := [.int (-3 : Int32)]) rfl rfl ?_
          exact y_ret rfl rfl rfl rfl h
        · refine y_cnd (pc' := 44) rfl rfl (zc_neT hc19) rfl ?_
          refine y_pure (pc' := 45) (st' := [.ref 866]) rfl rfl ?_
          obtain ⟨M21, he20, h⟩ := zC0_inv h
          refine y_callV (pc' := 48) (y := zmM_keepsAct) (a' := []) (st' := []) rfl rfl rfl rfl rfl (zrecv_o (o := 10) zc_866 rfl) rfl he20 rfl rfl ?_
          refine y_pure (pc' := 49) (st' := [.ref 866]) rfl rfl ?_
          refine y_pure (pc' := 50) (st' := [.int x1, .ref 866]) rfl rfl ?_
          refine y_pure (pc' := 51) (st' := [.int x2, .int x1, .ref 866]) rfl rfl ?_
          obtain ⟨M23, he22, h⟩ := zC0_inv h
          refine y_callV (pc' := 54) (y := zmM_puts) (a' := [.int x1, .int x2]) (st' := []) rfl rfl rfl rfl rfl (zrecv_o (o := 10) zc_866 rfl) rfl he22 rfl rfl ?_
          refine y_pure (pc' := 55) (st' := [.int (nI 1)]) rfl rfl ?_
          exact y_ret rfl rfl rfl rfl h
      · refine y_cnd (pc' := 26) rfl rfl (zc_eqF hc12) rfl ?_
        refine y_pure (pc' := 28) (st' := [.int (-2 : Int32)]) rfl rfl ?_
        exact y_ret rfl rfl rfl rfl h
theorem e_M_lift {d : Nat} {x1 : Int32} {M : ZM} {r : ZR}  (h : zC1 (zEv d zmM_isOpen [.ref 866, .int x1] M) (fun v3 M2 => (if v3 = (nI 0) then some (some (.int (-1 : Int32)), M2) else zC1 (zEv d zmM_isDone [.ref 866, .int x1] M2) (fun v7 M6 => (if v7 = (nI 0) then some (some (.int (-2 : Int32)), M6) else (if zin ((nI 76) + x1) 268 = true then (if (M6.1 867 (Int32.toNatClampNeg ((nI 76) + x1))) = (nI 1) then some (some (.int (-2 : Int32)), M6) else zC0 (zEv d zmM_keepsAct [.ref 866] M6) (fun M12 => (if zin ((nI 40) + x1) 268 = true then zC1 (zEv d zmM_allMarks [.ref 866] (zpi M12 867 (Int32.toNatClampNeg ((nI 40) + x1)) (nI 0))) (fun v16 M15 => (if zin ((nI 112) + x1) 268 = true then some (some (.int (M12.1 867 (Int32.toNatClampNeg ((nI 40) + x1)))), (zpi M15 867 (Int32.toNatClampNeg ((nI 112) + x1)) v16)) else none)) else none))) else none))))) = some r) : zEv (d + 1) zmM_lift [.ref 866, .int x1] M = some r := by
  rw [zEv_succ]
  show zEx0 (zEv d) zmM_lift (0, [(0, .ref 866), (1, .int x1)], [], M) = some r
  refine y_pure (pc' := 1) (st' := [.ref 866]) rfl rfl ?_
  refine y_pure (pc' := 2) (st' := [.int x1, .ref 866]) rfl rfl ?_
  obtain ⟨v3, M2, he1, h⟩ := zC1_inv h
  refine y_callV (pc' := 5) (y := zmM_isOpen) (a' := [.int x1]) (st' := []) rfl rfl rfl rfl rfl (zrecv_o (o := 10) zc_866 rfl) rfl he1 rfl rfl ?_
  rcases zif_inv h with ⟨hc4, h⟩ | ⟨hc4, h⟩
  · refine y_cnd (pc' := 8) rfl rfl (zc_neF hc4) rfl ?_
    refine y_pure (pc' := 9) (st' := [.int (-1 : Int32)]) rfl rfl ?_
    exact y_ret rfl rfl rfl rfl h
  · refine y_cnd (pc' := 10) rfl rfl (zc_neT hc4) rfl ?_
    refine y_pure (pc' := 11) (st' := [.ref 866]) rfl rfl ?_
    refine y_pure (pc' := 12) (st' := [.int x1, .ref 866]) rfl rfl ?_
    obtain ⟨v7, M6, he5, h⟩ := zC1_inv h
    refine y_callV (pc' := 15) (y := zmM_isDone) (a' := [.int x1]) (st' := []) rfl rfl rfl rfl rfl (zrecv_o (o := 10) zc_866 rfl) rfl he5 rfl rfl ?_
    rcases zif_inv h with ⟨hc8, h⟩ | ⟨hc8, h⟩
    · refine y_cnd (pc' := 31) rfl rfl (zc_eqT hc8) rfl ?_
      refine y_pure (pc' := 33) (st' := [.int (-2 : Int32)]) rfl rfl ?_
      exact y_ret rfl rfl rfl rfl h
    · refine y_cnd (pc' := 18) rfl rfl (zc_eqF hc8) rfl ?_
      refine y_pure (pc' := 19) (st' := [.ref 866]) rfl rfl ?_
      refine y_getf (pc' := 22) (v := .ref 867) rfl rfl rfl zc_866 rfl rfl ?_
      refine y_pure (pc' := 24) (st' := [.int (nI 76), .ref 867]) rfl rfl ?_
      refine y_pure (pc' := 25) (st' := [.int x1, .int (nI 76), .ref 867]) rfl rfl ?_
      refine y_pure (pc' := 26) (st' := [.int ((nI 76) + x1), .ref 867]) rfl rfl ?_
      obtain ⟨hi9, h⟩ := zg_inv h
      refine y_iald (pc' := 27) rfl zc_867 hi9 rfl ?_
      refine y_pure (pc' := 28) (st' := [.int (nI 1), .int (M6.1 867 (Int32.toNatClampNeg ((nI 76) + x1)))]) rfl rfl ?_
      rcases zif_inv h with ⟨hc10, h⟩ | ⟨hc10, h⟩
      · refine y_cmp (pc' := 31) rfl rfl (zc_neF hc10) rfl ?_
        refine y_pure (pc' := 33) (st' := [.int (-2 : Int32)]) rfl rfl ?_
        exact y_ret rfl rfl rfl rfl h
      · refine y_cmp (pc' := 34) rfl rfl (zc_neT hc10) rfl ?_
        refine y_pure (pc' := 35) (st' := [.ref 866]) rfl rfl ?_
        obtain ⟨M12, he11, h⟩ := zC0_inv h
        refine y_callV (pc' := 38) (y := zmM_keepsAct) (a' := []) (st' := []) rfl rfl rfl rfl rfl (zrecv_o (o := 10) zc_866 rfl) rfl he11 rfl rfl ?_
        refine y_pure (pc' := 39) (st' := [.ref 866]) rfl rfl ?_
        refine y_getf (pc' := 42) (v := .ref 867) rfl rfl rfl zc_866 rfl rfl ?_
        refine y_pure (pc' := 44) (st' := [.int (nI 40), .ref 867]) rfl rfl ?_
        refine y_pure (pc' := 45) (st' := [.int x1, .int (nI 40), .ref 867]) rfl rfl ?_
        refine y_pure (pc' := 46) (st' := [.int ((nI 40) + x1), .ref 867]) rfl rfl ?_
        obtain ⟨hi13, h⟩ := zg_inv h
        refine y_iald (pc' := 47) rfl zc_867 hi13 rfl ?_
        refine y_pure (pc' := 48) (ls' := [(0, .ref 866), (1, .int x1), (2, .int (M12.1 867 (Int32.toNatClampNeg ((nI 40) + x1))))]) (st' := []) rfl rfl ?_
        refine y_pure (pc' := 49) (st' := [.ref 866]) rfl rfl ?_
        refine y_getf (pc' := 52) (v := .ref 867) rfl rfl rfl zc_866 rfl rfl ?_
        refine y_pure (pc' := 54) (st' := [.int (nI 40), .ref 867]) rfl rfl ?_
        refine y_pure (pc' := 55) (st' := [.int x1, .int (nI 40), .ref 867]) rfl rfl ?_
        refine y_pure (pc' := 56) (st' := [.int ((nI 40) + x1), .ref 867]) rfl rfl ?_
        refine y_pure (pc' := 57) (st' := [.int (nI 0), .int ((nI 40) + x1), .ref 867]) rfl rfl ?_
        refine y_iast (pc' := 58) rfl zc_867 hi13 rfl ?_
        refine y_pure (pc' := 59) (st' := [.ref 866]) rfl rfl ?_
        refine y_getf (pc' := 62) (v := .ref 867) rfl rfl rfl zc_866 rfl rfl ?_
        refine y_pure (pc' := 64) (st' := [.int (nI 112), .ref 867]) rfl rfl ?_
        refine y_pure (pc' := 65) (st' := [.int x1, .int (nI 112), .ref 867]) rfl rfl ?_
        refine y_pure (pc' := 66) (st' := [.int ((nI 112) + x1), .ref 867]) rfl rfl ?_
        refine y_pure (pc' := 67) (st' := [.ref 866, .int ((nI 112) + x1), .ref 867]) rfl rfl ?_
        obtain ⟨v16, M15, he14, h⟩ := zC1_inv h
        refine y_callV (pc' := 70) (y := zmM_allMarks) (a' := []) (st' := [.int ((nI 112) + x1), .ref 867]) rfl rfl rfl rfl rfl (zrecv_o (o := 10) zc_866 rfl) rfl he14 rfl rfl ?_
        obtain ⟨hi17, h⟩ := zg_inv h
        refine y_iast (pc' := 71) rfl zc_867 hi17 rfl ?_
        refine y_pure (pc' := 72) (st' := [.int (M12.1 867 (Int32.toNatClampNeg ((nI 40) + x1)))]) rfl rfl ?_
        exact y_ret rfl rfl rfl rfl h
theorem e_M_strike {d : Nat} {x1 : Int32} {x2 : Int32} {M : ZM} {r : ZR}  (h : zC1 (zEv d zmM_isOpen [.ref 866, .int x1] M) (fun v3 M2 => (if v3 = (nI 0) then some (some (.int (-1 : Int32)), M2) else zC1 (zEv d zmM_isDigit [.ref 866, .int x2] M2) (fun v7 M6 => (if v7 = (nI 0) then some (some (.int (-1 : Int32)), M6) else zC1 (zEv d zmM_isDone [.ref 866, .int x1] M6) (fun v11 M10 => (if v11 = (nI 0) then zC1 (zEv d zmM_marks [.ref 866, .int x1] M10) (fun v15 M14 => zC1 (zEv d zmM_holds [.int v15, .int x2] M14) (fun v18 M17 => (if v18 = (nI 0) then some (some (.int (-3 : Int32)), M17) else zC0 (zEv d zmM_keepsAct [.ref 866] M17) (fun M21 => (if zin ((nI 112) + x1) 268 = true then zL (zpi M21 867 (Int32.toNatClampNeg ((nI 112) + x1)) ((M21.1 867 (Int32.toNatClampNeg ((nI 112) + x1))) &&& (((nI 1) <<< (x2 &&& 31)) ^^^ (-1 : Int32)))) (fun M23 => zC1 (zEv d zmM_marks [.ref 866, .int x1] M23) (fun v27 M26 => zC1 (zEv d zmM_bits [.int v27] M26) (fun v30 M29 => some (some (.int v30), M29)))) else none))))) else some (some (.int (-2 : Int32)), M10))))))) = some r) : zEv (d + 1) zmM_strike [.ref 866, .int x1, .int x2] M = some r := by
  rw [zEv_succ]
  show zEx0 (zEv d) zmM_strike (0, [(0, .ref 866), (1, .int x1), (2, .int x2)], [], M) = some r
  refine y_pure (pc' := 1) (st' := [.ref 866]) rfl rfl ?_
  refine y_pure (pc' := 2) (st' := [.int x1, .ref 866]) rfl rfl ?_
  obtain ⟨v3, M2, he1, h⟩ := zC1_inv h
  refine y_callV (pc' := 5) (y := zmM_isOpen) (a' := [.int x1]) (st' := []) rfl rfl rfl rfl rfl (zrecv_o (o := 10) zc_866 rfl) rfl he1 rfl rfl ?_
  rcases zif_inv h with ⟨hc4, h⟩ | ⟨hc4, h⟩
  · refine y_cnd (pc' := 16) rfl rfl (zc_eqT hc4) rfl ?_
    refine y_pure (pc' := 17) (st' := [.int (-1 : Int32)]) rfl rfl ?_
    exact y_ret rfl rfl rfl rfl h
  · refine y_cnd (pc' := 8) rfl rfl (zc_eqF hc4) rfl ?_
    refine y_pure (pc' := 9) (st' := [.ref 866]) rfl rfl ?_
    refine y_pure (pc' := 10) (st' := [.int x2, .ref 866]) rfl rfl ?_
    obtain ⟨v7, M6, he5, h⟩ := zC1_inv h
    refine y_callV (pc' := 13) (y := zmM_isDigit) (a' := [.int x2]) (st' := []) rfl rfl rfl rfl rfl (zrecv_o (o := 10) zc_866 rfl) rfl he5 rfl rfl ?_
    rcases zif_inv h with ⟨hc8, h⟩ | ⟨hc8, h⟩
    · refine y_cnd (pc' := 16) rfl rfl (zc_neF hc8) rfl ?_
      refine y_pure (pc' := 17) (st' := [.int (-1 : Int32)]) rfl rfl ?_
      exact y_ret rfl rfl rfl rfl h
    · refine y_cnd (pc' := 18) rfl rfl (zc_neT hc8) rfl ?_
      refine y_pure (pc' := 19) (st' := [.ref 866]) rfl rfl ?_
      refine y_pure (pc' := 20) (st' := [.int x1, .ref 866]) rfl rfl ?_
      obtain ⟨v11, M10, he9, h⟩ := zC1_inv h
      refine y_callV (pc' := 23) (y := zmM_isDone) (a' := [.int x1]) (st' := []) rfl rfl rfl rfl rfl (zrecv_o (o := 10) zc_866 rfl) rfl he9 rfl rfl ?_
      rcases zif_inv h with ⟨hc12, h⟩ | ⟨hc12, h⟩
      · refine y_cnd (pc' := 29) rfl rfl (zc_eqT hc12) rfl ?_
        refine y_pure (pc' := 30) (st' := [.ref 866]) rfl rfl ?_
        refine y_pure (pc' := 31) (st' := [.int x1, .ref 866]) rfl rfl ?_
        obtain ⟨v15, M14, he13, h⟩ := zC1_inv h
        refine y_callV (pc' := 34) (y := zmM_marks) (a' := [.int x1]) (st' := []) rfl rfl rfl rfl rfl (zrecv_o (o := 10) zc_866 rfl) rfl he13 rfl rfl ?_
        refine y_pure (pc' := 35) (st' := [.int x2, .int v15]) rfl rfl ?_
        obtain ⟨v18, M17, he16, h⟩ := zC1_inv h
        refine y_callS (pc' := 38) (y := zmM_holds) (a := [.int v15, .int x2]) (st' := []) rfl rfl rfl rfl rfl rfl he16 rfl rfl ?_
        rcases zif_inv h with ⟨hc19, h⟩ | ⟨hc19, h⟩
        · refine y_cnd (pc' := 41) rfl rfl (zc_neF hc19) rfl ?_
          refine y_pure (pc' := 43) (st' := [.int (-3 : Int32)]) rfl rfl ?_
          exact y_ret rfl rfl rfl rfl h
        · refine y_cnd (pc' := 44) rfl rfl (zc_neT hc19) rfl ?_
          refine y_pure (pc' := 45) (st' := [.ref 866]) rfl rfl ?_
          obtain ⟨M21, he20, h⟩ := zC0_inv h
          refine y_callV (pc' := 48) (y := zmM_keepsAct) (a' := []) (st' := []) rfl rfl rfl rfl rfl (zrecv_o (o := 10) zc_866 rfl) rfl he20 rfl rfl ?_
          refine y_pure (pc' := 49) (st' := [.ref 866]) rfl rfl ?_
          refine y_getf (pc' := 52) (v := .ref 867) rfl rfl rfl zc_866 rfl rfl ?_
          refine y_pure (pc' := 54) (st' := [.int (nI 112), .ref 867]) rfl rfl ?_
          refine y_pure (pc' := 55) (st' := [.int x1, .int (nI 112), .ref 867]) rfl rfl ?_
          refine y_pure (pc' := 56) (st' := [.int ((nI 112) + x1), .ref 867]) rfl rfl ?_
          refine y_pure (pc' := 57) (st' := [.int ((nI 112) + x1), .ref 867, .int ((nI 112) + x1), .ref 867]) rfl rfl ?_
          obtain ⟨hi22, h⟩ := zg_inv h
          refine y_iald (pc' := 58) rfl zc_867 hi22 rfl ?_
          refine y_pure (pc' := 59) (st' := [.int (nI 1), .int (M21.1 867 (Int32.toNatClampNeg ((nI 112) + x1))), .int ((nI 112) + x1), .ref 867]) rfl rfl ?_
          refine y_pure (pc' := 60) (st' := [.int x2, .int (nI 1), .int (M21.1 867 (Int32.toNatClampNeg ((nI 112) + x1))), .int ((nI 112) + x1), .ref 867]) rfl rfl ?_
          refine y_pure (pc' := 61) (st' := [.int ((nI 1) <<< (x2 &&& 31)), .int (M21.1 867 (Int32.toNatClampNeg ((nI 112) + x1))), .int ((nI 112) + x1), .ref 867]) rfl rfl ?_
          refine y_pure (pc' := 62) (st' := [.int (-1 : Int32), .int ((nI 1) <<< (x2 &&& 31)), .int (M21.1 867 (Int32.toNatClampNeg ((nI 112) + x1))), .int ((nI 112) + x1), .ref 867]) rfl rfl ?_
          refine y_pure (pc' := 63) (st' := [.int (((nI 1) <<< (x2 &&& 31)) ^^^ (-1 : Int32)), .int (M21.1 867 (Int32.toNatClampNeg ((nI 112) + x1))), .int ((nI 112) + x1), .ref 867]) rfl rfl ?_
          refine y_pure (pc' := 64) (st' := [.int ((M21.1 867 (Int32.toNatClampNeg ((nI 112) + x1))) &&& (((nI 1) <<< (x2 &&& 31)) ^^^ (-1 : Int32))), .int ((nI 112) + x1), .ref 867]) rfl rfl ?_
          refine y_iast (pc' := 65) rfl zc_867 hi22 rfl ?_
          obtain ⟨M23, e24, h⟩ := zL_inv h
          refine zM_gen e24 ?_
          refine y_pure (pc' := 66) (st' := [.ref 866]) rfl rfl ?_
          refine y_pure (pc' := 67) (st' := [.int x1, .ref 866]) rfl rfl ?_
          obtain ⟨v27, M26, he25, h⟩ := zC1_inv h
          refine y_callV (pc' := 70) (y := zmM_marks) (a' := [.int x1]) (st' := []) rfl rfl rfl rfl rfl (zrecv_o (o := 10) zc_866 rfl) rfl he25 rfl rfl ?_
          obtain ⟨v30, M29, he28, h⟩ := zC1_inv h
          refine y_callS (pc' := 73) (y := zmM_bits) (a := [.int v27]) (st' := []) rfl rfl rfl rfl rfl rfl he28 rfl rfl ?_
          exact y_ret rfl rfl rfl rfl h
      · refine y_cnd (pc' := 26) rfl rfl (zc_eqF hc12) rfl ?_
        refine y_pure (pc' := 28) (st' := [.int (-2 : Int32)]) rfl rfl ?_
        exact y_ret rfl rfl rfl rfl h
theorem e_M_give {d : Nat} {x1 : Int32} {x2 : Int32} {M : ZM} {r : ZR}  (h : zC1 (zEv d zmM_isOpen [.ref 866, .int x1] M) (fun v3 M2 => (if v3 = (nI 0) then some (some (.int (-1 : Int32)), M2) else zC1 (zEv d zmM_isDigit [.ref 866, .int x2] M2) (fun v7 M6 => (if v7 = (nI 0) then some (some (.int (-1 : Int32)), M6) else (if zin ((nI 76) + x1) 268 = true then (if (M6.1 867 (Int32.toNatClampNeg ((nI 76) + x1))) = (nI 1) then (if zin ((nI 40) + x1) 268 = true then (if (M6.1 867 (Int32.toNatClampNeg ((nI 40) + x1))) = x2 then some (some (.int (-2 : Int32)), M6) else zC0 (zEv d zmM_keepsAct [.ref 866] M6) (fun M14 => zC0 (zEv d zmM_puts [.ref 866, .int x1, .int x2] M14) (fun M16 => some (some (.int (nI 1)), (zpi M16 867 (Int32.toNatClampNeg ((nI 76) + x1)) (nI 1)))))) else none) else zC0 (zEv d zmM_keepsAct [.ref 866] M6) (fun M18 => zC0 (zEv d zmM_puts [.ref 866, .int x1, .int x2] M18) (fun M20 => some (some (.int (nI 1)), (zpi M20 867 (Int32.toNatClampNeg ((nI 76) + x1)) (nI 1)))))) else none))))) = some r) : zEv (d + 1) zmM_give [.ref 866, .int x1, .int x2] M = some r := by
  rw [zEv_succ]
  show zEx0 (zEv d) zmM_give (0, [(0, .ref 866), (1, .int x1), (2, .int x2)], [], M) = some r
  refine y_pure (pc' := 1) (st' := [.ref 866]) rfl rfl ?_
  refine y_pure (pc' := 2) (st' := [.int x1, .ref 866]) rfl rfl ?_
  obtain ⟨v3, M2, he1, h⟩ := zC1_inv h
  refine y_callV (pc' := 5) (y := zmM_isOpen) (a' := [.int x1]) (st' := []) rfl rfl rfl rfl rfl (zrecv_o (o := 10) zc_866 rfl) rfl he1 rfl rfl ?_
  rcases zif_inv h with ⟨hc4, h⟩ | ⟨hc4, h⟩
  · refine y_cnd (pc' := 16) rfl rfl (zc_eqT hc4) rfl ?_
    refine y_pure (pc' := 17) (st' := [.int (-1 : Int32)]) rfl rfl ?_
    exact y_ret rfl rfl rfl rfl h
  · refine y_cnd (pc' := 8) rfl rfl (zc_eqF hc4) rfl ?_
    refine y_pure (pc' := 9) (st' := [.ref 866]) rfl rfl ?_
    refine y_pure (pc' := 10) (st' := [.int x2, .ref 866]) rfl rfl ?_
    obtain ⟨v7, M6, he5, h⟩ := zC1_inv h
    refine y_callV (pc' := 13) (y := zmM_isDigit) (a' := [.int x2]) (st' := []) rfl rfl rfl rfl rfl (zrecv_o (o := 10) zc_866 rfl) rfl he5 rfl rfl ?_
    rcases zif_inv h with ⟨hc8, h⟩ | ⟨hc8, h⟩
    · refine y_cnd (pc' := 16) rfl rfl (zc_neF hc8) rfl ?_
      refine y_pure (pc' := 17) (st' := [.int (-1 : Int32)]) rfl rfl ?_
      exact y_ret rfl rfl rfl rfl h
    · refine y_cnd (pc' := 18) rfl rfl (zc_neT hc8) rfl ?_
      refine y_pure (pc' := 19) (st' := [.ref 866]) rfl rfl ?_
      refine y_getf (pc' := 22) (v := .ref 867) rfl rfl rfl zc_866 rfl rfl ?_
      refine y_pure (pc' := 24) (st' := [.int (nI 76), .ref 867]) rfl rfl ?_
      refine y_pure (pc' := 25) (st' := [.int x1, .int (nI 76), .ref 867]) rfl rfl ?_
      refine y_pure (pc' := 26) (st' := [.int ((nI 76) + x1), .ref 867]) rfl rfl ?_
      obtain ⟨hi9, h⟩ := zg_inv h
      refine y_iald (pc' := 27) rfl zc_867 hi9 rfl ?_
      refine y_pure (pc' := 28) (st' := [.int (nI 1), .int (M6.1 867 (Int32.toNatClampNeg ((nI 76) + x1)))]) rfl rfl ?_
      rcases zif_inv h with ⟨hc10, h⟩ | ⟨hc10, h⟩
      · refine y_cmp (pc' := 31) rfl rfl (zc_neF hc10) rfl ?_
        refine y_pure (pc' := 32) (st' := [.ref 866]) rfl rfl ?_
        refine y_getf (pc' := 35) (v := .ref 867) rfl rfl rfl zc_866 rfl rfl ?_
        refine y_pure (pc' := 37) (st' := [.int (nI 40), .ref 867]) rfl rfl ?_
        refine y_pure (pc' := 38) (st' := [.int x1, .int (nI 40), .ref 867]) rfl rfl ?_
        refine y_pure (pc' := 39) (st' := [.int ((nI 40) + x1), .ref 867]) rfl rfl ?_
        obtain ⟨hi11, h⟩ := zg_inv h
        refine y_iald (pc' := 40) rfl zc_867 hi11 rfl ?_
        refine y_pure (pc' := 41) (st' := [.int x2, .int (M6.1 867 (Int32.toNatClampNeg ((nI 40) + x1)))]) rfl rfl ?_
        rcases zif_inv h with ⟨hc12, h⟩ | ⟨hc12, h⟩
        · refine y_cmp (pc' := 44) rfl rfl (zc_neF hc12) rfl ?_
          refine y_pure (pc' := 46) (st' := [.int (-2 : Int32)]) rfl rfl ?_
          exact y_ret rfl rfl rfl rfl h
        · refine y_cmp (pc' := 47) rfl rfl (zc_neT hc12) rfl ?_
          refine y_pure (pc' := 48) (st' := [.ref 866]) rfl rfl ?_
          obtain ⟨M14, he13, h⟩ := zC0_inv h
          refine y_callV (pc' := 51) (y := zmM_keepsAct) (a' := []) (st' := []) rfl rfl rfl rfl rfl (zrecv_o (o := 10) zc_866 rfl) rfl he13 rfl rfl ?_
          refine y_pure (pc' := 52) (st' := [.ref 866]) rfl rfl ?_
          refine y_pure (pc' := 53) (st' := [.int x1, .ref 866]) rfl rfl ?_
          refine y_pure (pc' := 54) (st' := [.int x2, .int x1, .ref 866]) rfl rfl ?_
          obtain ⟨M16, he15, h⟩ := zC0_inv h
          refine y_callV (pc' := 57) (y := zmM_puts) (a' := [.int x1, .int x2]) (st' := []) rfl rfl rfl rfl rfl (zrecv_o (o := 10) zc_866 rfl) rfl he15 rfl rfl ?_
          refine y_pure (pc' := 58) (st' := [.ref 866]) rfl rfl ?_
          refine y_getf (pc' := 61) (v := .ref 867) rfl rfl rfl zc_866 rfl rfl ?_
          refine y_pure (pc' := 63) (st' := [.int (nI 76), .ref 867]) rfl rfl ?_
          refine y_pure (pc' := 64) (st' := [.int x1, .int (nI 76), .ref 867]) rfl rfl ?_
          refine y_pure (pc' := 65) (st' := [.int ((nI 76) + x1), .ref 867]) rfl rfl ?_
          refine y_pure (pc' := 66) (st' := [.int (nI 1), .int ((nI 76) + x1), .ref 867]) rfl rfl ?_
          refine y_iast (pc' := 67) rfl zc_867 hi9 rfl ?_
          refine y_pure (pc' := 68) (st' := [.int (nI 1)]) rfl rfl ?_
          exact y_ret rfl rfl rfl rfl h
      · refine y_cmp (pc' := 47) rfl rfl (zc_neT hc10) rfl ?_
        refine y_pure (pc' := 48) (st' := [.ref 866]) rfl rfl ?_
        obtain ⟨M18, he17, h⟩ := zC0_inv h
        refine y_callV (pc' := 51) (y := zmM_keepsAct) (a' := []) (st' := []) rfl rfl rfl rfl rfl (zrecv_o (o := 10) zc_866 rfl) rfl he17 rfl rfl ?_
        refine y_pure (pc' := 52) (st' := [.ref 866]) rfl rfl ?_
        refine y_pure (pc' := 53) (st' := [.int x1, .ref 866]) rfl rfl ?_
        refine y_pure (pc' := 54) (st' := [.int x2, .int x1, .ref 866]) rfl rfl ?_
        obtain ⟨M20, he19, h⟩ := zC0_inv h
        refine y_callV (pc' := 57) (y := zmM_puts) (a' := [.int x1, .int x2]) (st' := []) rfl rfl rfl rfl rfl (zrecv_o (o := 10) zc_866 rfl) rfl he19 rfl rfl ?_
        refine y_pure (pc' := 58) (st' := [.ref 866]) rfl rfl ?_
        refine y_getf (pc' := 61) (v := .ref 867) rfl rfl rfl zc_866 rfl rfl ?_
        refine y_pure (pc' := 63) (st' := [.int (nI 76), .ref 867]) rfl rfl ?_
        refine y_pure (pc' := 64) (st' := [.int x1, .int (nI 76), .ref 867]) rfl rfl ?_
        refine y_pure (pc' := 65) (st' := [.int ((nI 76) + x1), .ref 867]) rfl rfl ?_
        refine y_pure (pc' := 66) (st' := [.int (nI 1), .int ((nI 76) + x1), .ref 867]) rfl rfl ?_
        refine y_iast (pc' := 67) rfl zc_867 hi9 rfl ?_
        refine y_pure (pc' := 68) (st' := [.int (nI 1)]) rfl rfl ?_
        exact y_ret rfl rfl rfl rfl h
theorem e_M_mostOf {d : Nat} {x0 : Int32} {M : ZM} {r : ZR}  (h : (if x0 = (nI 0) then some (some (.int (nI 99)), M) else (if x0 = (nI 1) then some (some (.int (nI 999999)), M) else some (some (.int (nI 6)), M))) = some r) : zEv (d + 1) zmM_mostOf [.int x0] M = some r := by
  rw [zEv_succ]
  show zEx0 (zEv d) zmM_mostOf (0, [(0, .int x0)], [], M) = some r
  refine y_pure (pc' := 1) (st' := [.int x0]) rfl rfl ?_
  rcases zif_inv h with ⟨hc1, h⟩ | ⟨hc1, h⟩
  · refine y_cnd (pc' := 4) rfl rfl (zc_neF hc1) rfl ?_
    refine y_pure (pc' := 6) (st' := [.int (nI 99)]) rfl rfl ?_
    refine y_pure (pc' := 22) rfl rfl ?_
    exact y_ret rfl rfl rfl rfl h
  · refine y_cnd (pc' := 9) rfl rfl (zc_neT hc1) rfl ?_
    refine y_pure (pc' := 10) (st' := [.int x0]) rfl rfl ?_
    refine y_pure (pc' := 11) (st' := [.int (nI 1), .int x0]) rfl rfl ?_
    rcases zif_inv h with ⟨hc2, h⟩ | ⟨hc2, h⟩
    · refine y_cmp (pc' := 14) rfl rfl (zc_neF hc2) rfl ?_
      refine y_pure (pc' := 17) (st' := [.int (nI 999999)]) rfl rfl ?_
      refine y_pure (pc' := 22) rfl rfl ?_
      exact y_ret rfl rfl rfl rfl h
    · refine y_cmp (pc' := 20) rfl rfl (zc_neT hc2) rfl ?_
      refine y_pure (pc' := 22) (st' := [.int (nI 6)]) rfl rfl ?_
      exact y_ret rfl rfl rfl rfl h
theorem e_M_total {d : Nat} {x1 : Int32} {x2 : Int32} {M : ZM} {r : ZR}  (h : zC1 (zEv d zmM_isCage [.ref 866, .int x1] M) (fun v3 M2 => (if v3 = (nI 0) then some (some (.int (-1 : Int32)), M2) else zC1 (zEv d zmM_of [.ref 866, .int x1, .int (nI 0)] M2) (fun v7 M6 => (if v7 = (nI 3) then some (some (.int (-1 : Int32)), M6) else zC1 (zEv d zmM_of [.ref 866, .int x1, .int (nI 0)] M6) (fun v11 M10 => zC1 (zEv d zmM_mostOf [.int v11] M10) (fun v14 M13 => zC1 (zEv d zmM_in [.long (Int32.toInt64 x2), .long (nJ 0), .long (Int32.toInt64 v14)] M13) (fun v17 M16 => (if v17 = (nI 0) then some (some (.int (-1 : Int32)), M16) else zC1 (zEv d zmM_of [.ref 866, .int x1, .int (nI 1)] M16) (fun v21 M20 => (if v21 = x2 then some (some (.int (-2 : Int32)), M20) else zC0 (zEv d zmM_keepsAct [.ref 866] M20) (fun M24 => (if zin (((nI 148) + ((nI 10) * x1)) + (nI 1)) 268 = true then some (some (.int v21), (zpi M24 867 (Int32.toNatClampNeg (((nI 148) + ((nI 10) * x1)) + (nI 1))) x2)) else none)))))))))))) = some r) : zEv (d + 1) zmM_total [.ref 866, .int x1, .int x2] M = some r := by
  rw [zEv_succ]
  show zEx0 (zEv d) zmM_total (0, [(0, .ref 866), (1, .int x1), (2, .int x2)], [], M) = some r
  refine y_pure (pc' := 1) (st' := [.ref 866]) rfl rfl ?_
  refine y_pure (pc' := 2) (st' := [.int x1, .ref 866]) rfl rfl ?_
  obtain ⟨v3, M2, he1, h⟩ := zC1_inv h
  refine y_callV (pc' := 5) (y := zmM_isCage) (a' := [.int x1]) (st' := []) rfl rfl rfl rfl rfl (zrecv_o (o := 10) zc_866 rfl) rfl he1 rfl rfl ?_
  rcases zif_inv h with ⟨hc4, h⟩ | ⟨hc4, h⟩
  · refine y_cnd (pc' := 37) rfl rfl (zc_eqT hc4) rfl ?_
    refine y_pure (pc' := 38) (st' := [.int (-1 : Int32)]) rfl rfl ?_
    exact y_ret rfl rfl rfl rfl h
  · refine y_cnd (pc' := 8) rfl rfl (zc_eqF hc4) rfl ?_
    refine y_pure (pc' := 9) (st' := [.ref 866]) rfl rfl ?_
    refine y_pure (pc' := 10) (st' := [.int x1, .ref 866]) rfl rfl ?_
    refine y_pure (pc' := 11) (st' := [.int (nI 0), .int x1, .ref 866]) rfl rfl ?_
    obtain ⟨v7, M6, he5, h⟩ := zC1_inv h
    refine y_callV (pc' := 14) (y := zmM_of) (a' := [.int x1, .int (nI 0)]) (st' := []) rfl rfl rfl rfl rfl (zrecv_o (o := 10) zc_866 rfl) rfl he5 rfl rfl ?_
    refine y_pure (pc' := 15) (st' := [.int (nI 3), .int v7]) rfl rfl ?_
    rcases zif_inv h with ⟨hc8, h⟩ | ⟨hc8, h⟩
    · refine y_cmp (pc' := 37) rfl rfl (zc_eqT hc8) rfl ?_
      refine y_pure (pc' := 38) (st' := [.int (-1 : Int32)]) rfl rfl ?_
      exact y_ret rfl rfl rfl rfl h
    · refine y_cmp (pc' := 18) rfl rfl (zc_eqF hc8) rfl ?_
      refine y_pure (pc' := 19) (st' := [.int x2]) rfl rfl ?_
      refine y_pure (pc' := 20) (st' := [.long (Int32.toInt64 x2)]) rfl rfl ?_
      refine y_pure (pc' := 21) (st' := [.long (nJ 0), .long (Int32.toInt64 x2)]) rfl rfl ?_
      refine y_pure (pc' := 22) (st' := [.ref 866, .long (nJ 0), .long (Int32.toInt64 x2)]) rfl rfl ?_
      refine y_pure (pc' := 23) (st' := [.int x1, .ref 866, .long (nJ 0), .long (Int32.toInt64 x2)]) rfl rfl ?_
      refine y_pure (pc' := 24) (st' := [.int (nI 0), .int x1, .ref 866, .long (nJ 0), .long (Int32.toInt64 x2)]) rfl rfl ?_
      obtain ⟨v11, M10, he9, h⟩ := zC1_inv h
      refine y_callV (pc' := 27) (y := zmM_of) (a' := [.int x1, .int (nI 0)]) (st' := [.long (nJ 0), .long (Int32.toInt64 x2)]) rfl rfl rfl rfl rfl (zrecv_o (o := 10) zc_866 rfl) rfl he9 rfl rfl ?_
      obtain ⟨v14, M13, he12, h⟩ := zC1_inv h
      refine y_callS (pc' := 30) (y := zmM_mostOf) (a := [.int v11]) (st' := [.long (nJ 0), .long (Int32.toInt64 x2)]) rfl rfl rfl rfl rfl rfl he12 rfl rfl ?_
      refine y_pure (pc' := 31) (st' := [.long (Int32.toInt64 v14), .long (nJ 0), .long (Int32.toInt64 x2)]) rfl rfl ?_
      obtain ⟨v17, M16, he15, h⟩ := zC1_inv h
      refine y_callS (pc' := 34) (y := zmM_in) (a := [.long (Int32.toInt64 x2), .long (nJ 0), .long (Int32.toInt64 v14)]) (st' := []) rfl rfl rfl rfl rfl rfl he15 rfl rfl ?_
      rcases zif_inv h with ⟨hc18, h⟩ | ⟨hc18, h⟩
      · refine y_cnd (pc' := 37) rfl rfl (zc_neF hc18) rfl ?_
        refine y_pure (pc' := 38) (st' := [.int (-1 : Int32)]) rfl rfl ?_
        exact y_ret rfl rfl rfl rfl h
      · refine y_cnd (pc' := 39) rfl rfl (zc_neT hc18) rfl ?_
        refine y_pure (pc' := 40) (st' := [.ref 866]) rfl rfl ?_
        refine y_pure (pc' := 41) (st' := [.int x1, .ref 866]) rfl rfl ?_
        refine y_pure (pc' := 42) (st' := [.int (nI 1), .int x1, .ref 866]) rfl rfl ?_
        obtain ⟨v21, M20, he19, h⟩ := zC1_inv h
        refine y_callV (pc' := 45) (y := zmM_of) (a' := [.int x1, .int (nI 1)]) (st' := []) rfl rfl rfl rfl rfl (zrecv_o (o := 10) zc_866 rfl) rfl he19 rfl rfl ?_
        refine y_pure (pc' := 46) (ls' := [(0, .ref 866), (1, .int x1), (2, .int x2), (3, .int v21)]) (st' := []) rfl rfl ?_
        refine y_pure (pc' := 47) (st' := [.int v21]) rfl rfl ?_
        refine y_pure (pc' := 48) (st' := [.int x2, .int v21]) rfl rfl ?_
        rcases zif_inv h with ⟨hc22, h⟩ | ⟨hc22, h⟩
        · refine y_cmp (pc' := 51) rfl rfl (zc_neF hc22) rfl ?_
          refine y_pure (pc' := 53) (st' := [.int (-2 : Int32)]) rfl rfl ?_
          exact y_ret rfl rfl rfl rfl h
        · refine y_cmp (pc' := 54) rfl rfl (zc_neT hc22) rfl ?_
          refine y_pure (pc' := 55) (st' := [.ref 866]) rfl rfl ?_
          obtain ⟨M24, he23, h⟩ := zC0_inv h
          refine y_callV (pc' := 58) (y := zmM_keepsAct) (a' := []) (st' := []) rfl rfl rfl rfl rfl (zrecv_o (o := 10) zc_866 rfl) rfl he23 rfl rfl ?_
          refine y_pure (pc' := 59) (st' := [.ref 866]) rfl rfl ?_
          refine y_getf (pc' := 62) (v := .ref 867) rfl rfl rfl zc_866 rfl rfl ?_
          refine y_pure (pc' := 65) (st' := [.int (nI 148), .ref 867]) rfl rfl ?_
          refine y_pure (pc' := 67) (st' := [.int (nI 10), .int (nI 148), .ref 867]) rfl rfl ?_
          refine y_pure (pc' := 68) (st' := [.int x1, .int (nI 10), .int (nI 148), .ref 867]) rfl rfl ?_
          refine y_pure (pc' := 69) (st' := [.int ((nI 10) * x1), .int (nI 148), .ref 867]) rfl rfl ?_
          refine y_pure (pc' := 70) (st' := [.int ((nI 148) + ((nI 10) * x1)), .ref 867]) rfl rfl ?_
          refine y_pure (pc' := 71) (st' := [.int (nI 1), .int ((nI 148) + ((nI 10) * x1)), .ref 867]) rfl rfl ?_
          refine y_pure (pc' := 72) (st' := [.int (((nI 148) + ((nI 10) * x1)) + (nI 1)), .ref 867]) rfl rfl ?_
          refine y_pure (pc' := 73) (st' := [.int x2, .int (((nI 148) + ((nI 10) * x1)) + (nI 1)), .ref 867]) rfl rfl ?_
          obtain ⟨hi25, h⟩ := zg_inv h
          refine y_iast (pc' := 74) rfl zc_867 hi25 rfl ?_
          refine y_pure (pc' := 75) (st' := [.int v21]) rfl rfl ?_
          exact y_ret rfl rfl rfl rfl h
theorem e_M_step {d : Nat}  {M : ZM} {r : ZR}  (h : zC1 (zEv d zmM_isBoard [.ref 866] M) (fun v3 M2 => (if v3 = (nI 0) then some (some (.int (-1 : Int32)), M2) else zC1 (zEv d zmM_isBroken [.ref 866] M2) (fun v7 M6 => (if v7 = (nI 0) then zC0 (zEv d zmM_findsStep [.ref 866] M6) (fun M10 => (if (M10.1 866 12) = (nI 0) then some (some (.int (nI 0)), M10) else zC0 (zEv d zmM_keepsAct [.ref 866] M10) (fun M13 => zC0 (zEv d zmM_goesStep [.ref 866] M13) (fun M15 => some (some (.int (M15.1 866 12)), M15))))) else some (some (.int (-2 : Int32)), M6))))) = some r) : zEv (d + 1) zmM_step [.ref 866] M = some r := by
  rw [zEv_succ]
  show zEx0 (zEv d) zmM_step (0, [(0, .ref 866)], [], M) = some r
  refine y_pure (pc' := 1) (st' := [.ref 866]) rfl rfl ?_
  obtain ⟨v3, M2, he1, h⟩ := zC1_inv h
  refine y_callV (pc' := 4) (y := zmM_isBoard) (a' := []) (st' := []) rfl rfl rfl rfl rfl (zrecv_o (o := 10) zc_866 rfl) rfl he1 rfl rfl ?_
  rcases zif_inv h with ⟨hc4, h⟩ | ⟨hc4, h⟩
  · refine y_cnd (pc' := 7) rfl rfl (zc_neF hc4) rfl ?_
    refine y_pure (pc' := 8) (st' := [.int (-1 : Int32)]) rfl rfl ?_
    exact y_ret rfl rfl rfl rfl h
  · refine y_cnd (pc' := 9) rfl rfl (zc_neT hc4) rfl ?_
    refine y_pure (pc' := 10) (st' := [.ref 866]) rfl rfl ?_
    obtain ⟨v7, M6, he5, h⟩ := zC1_inv h
    refine y_callV (pc' := 13) (y := zmM_isBroken) (a' := []) (st' := []) rfl rfl rfl rfl rfl (zrecv_o (o := 10) zc_866 rfl) rfl he5 rfl rfl ?_
    rcases zif_inv h with ⟨hc8, h⟩ | ⟨hc8, h⟩
    · refine y_cnd (pc' := 19) rfl rfl (zc_eqT hc8) rfl ?_
      refine y_pure (pc' := 20) (st' := [.ref 866]) rfl rfl ?_
      obtain ⟨M10, he9, h⟩ := zC0_inv h
      refine y_callV (pc' := 23) (y := zmM_findsStep) (a' := []) (st' := []) rfl rfl rfl rfl rfl (zrecv_o (o := 10) zc_866 rfl) rfl he9 rfl rfl ?_
      refine y_pure (pc' := 24) (st' := [.ref 866]) rfl rfl ?_
      refine y_getf (pc' := 27) (v := .int (M10.1 866 12)) rfl rfl rfl zc_866 rfl rfl ?_
      rcases zif_inv h with ⟨hc11, h⟩ | ⟨hc11, h⟩
      · refine y_cnd (pc' := 30) rfl rfl (zc_neF hc11) rfl ?_
        refine y_pure (pc' := 31) (st' := [.int (nI 0)]) rfl rfl ?_
        exact y_ret rfl rfl rfl rfl h
      · refine y_cnd (pc' := 32) rfl rfl (zc_neT hc11) rfl ?_
        refine y_pure (pc' := 33) (st' := [.ref 866]) rfl rfl ?_
        obtain ⟨M13, he12, h⟩ := zC0_inv h
        refine y_callV (pc' := 36) (y := zmM_keepsAct) (a' := []) (st' := []) rfl rfl rfl rfl rfl (zrecv_o (o := 10) zc_866 rfl) rfl he12 rfl rfl ?_
        refine y_pure (pc' := 37) (st' := [.ref 866]) rfl rfl ?_
        obtain ⟨M15, he14, h⟩ := zC0_inv h
        refine y_callV (pc' := 40) (y := zmM_goesStep) (a' := []) (st' := []) rfl rfl rfl rfl rfl (zrecv_o (o := 10) zc_866 rfl) rfl he14 rfl rfl ?_
        refine y_pure (pc' := 41) (st' := [.ref 866]) rfl rfl ?_
        refine y_getf (pc' := 44) (v := .int (M15.1 866 12)) rfl rfl rfl zc_866 rfl rfl ?_
        exact y_ret rfl rfl rfl rfl h
    · refine y_cnd (pc' := 16) rfl rfl (zc_eqF hc8) rfl ?_
      refine y_pure (pc' := 18) (st' := [.int (-2 : Int32)]) rfl rfl ?_
      exact y_ret rfl rfl rfl rfl h
theorem e_M_run {d : Nat}  {M : ZM} {r : ZR}  (h : zC1 (zEv d zmM_isBoard [.ref 866] M) (fun v3 M2 => (if v3 = (nI 0) then some (some (.int (-1 : Int32)), M2) else zC1 (zEv d zmM_isBroken [.ref 866] M2) (fun v7 M6 => (if v7 = (nI 0) then zC0 (zEv d zmM_putsAside [.ref 866] M6) (fun M10 => zC0 (zEv d zmM_goesAll [.ref 866] M10) (fun M12 => (if (nI 0) < (M12.1 866 17) then zC0 (zEv d zmM_keepsRow [.ref 866, .ref 871] M12) (fun M15 => some (some (.int (M15.1 866 17)), M15)) else some (some (.int (M12.1 866 17)), M12)))) else some (some (.int (-2 : Int32)), M6))))) = some r) : zEv (d + 1) zmM_run [.ref 866] M = some r := by
  rw [zEv_succ]
  show zEx0 (zEv d) zmM_run (0, [(0, .ref 866)], [], M) = some r
  refine y_pure (pc' := 1) (st' := [.ref 866]) rfl rfl ?_
  obtain ⟨v3, M2, he1, h⟩ := zC1_inv h
  refine y_callV (pc' := 4) (y := zmM_isBoard) (a' := []) (st' := []) rfl rfl rfl rfl rfl (zrecv_o (o := 10) zc_866 rfl) rfl he1 rfl rfl ?_
  rcases zif_inv h with ⟨hc4, h⟩ | ⟨hc4, h⟩
  · refine y_cnd (pc' := 7) rfl rfl (zc_neF hc4) rfl ?_
    refine y_pure (pc' := 8) (st' := [.int (-1 : Int32)]) rfl rfl ?_
    exact y_ret rfl rfl rfl rfl h
  · refine y_cnd (pc' := 9) rfl rfl (zc_neT hc4) rfl ?_
    refine y_pure (pc' := 10) (st' := [.ref 866]) rfl rfl ?_
    obtain ⟨v7, M6, he5, h⟩ := zC1_inv h
    refine y_callV (pc' := 13) (y := zmM_isBroken) (a' := []) (st' := []) rfl rfl rfl rfl rfl (zrecv_o (o := 10) zc_866 rfl) rfl he5 rfl rfl ?_
    rcases zif_inv h with ⟨hc8, h⟩ | ⟨hc8, h⟩
    · refine y_cnd (pc' := 19) rfl rfl (zc_eqT hc8) rfl ?_
      refine y_pure (pc' := 20) (st' := [.ref 866]) rfl rfl ?_
      obtain ⟨M10, he9, h⟩ := zC0_inv h
      refine y_callV (pc' := 23) (y := zmM_putsAside) (a' := []) (st' := []) rfl rfl rfl rfl rfl (zrecv_o (o := 10) zc_866 rfl) rfl he9 rfl rfl ?_
      refine y_pure (pc' := 24) (st' := [.ref 866]) rfl rfl ?_
      obtain ⟨M12, he11, h⟩ := zC0_inv h
      refine y_callV (pc' := 27) (y := zmM_goesAll) (a' := []) (st' := []) rfl rfl rfl rfl rfl (zrecv_o (o := 10) zc_866 rfl) rfl he11 rfl rfl ?_
      refine y_pure (pc' := 28) (st' := [.ref 866]) rfl rfl ?_
      refine y_getf (pc' := 31) (v := .int (M12.1 866 17)) rfl rfl rfl zc_866 rfl rfl ?_
      rcases zif_inv h with ⟨hc13, h⟩ | ⟨hc13, h⟩
      · refine y_cnd (pc' := 34) rfl rfl (zc_leF hc13) rfl ?_
        refine y_pure (pc' := 35) (st' := [.ref 866]) rfl rfl ?_
        refine y_pure (pc' := 36) (st' := [.ref 866, .ref 866]) rfl rfl ?_
        refine y_getf (pc' := 39) (v := .ref 871) rfl rfl rfl zc_866 rfl rfl ?_
        obtain ⟨M15, he14, h⟩ := zC0_inv h
        refine y_callV (pc' := 42) (y := zmM_keepsRow) (a' := [.ref 871]) (st' := []) rfl rfl rfl rfl rfl (zrecv_o (o := 10) zc_866 rfl) rfl he14 rfl rfl ?_
        refine y_pure (pc' := 43) (st' := [.ref 866]) rfl rfl ?_
        refine y_getf (pc' := 46) (v := .int (M15.1 866 17)) rfl rfl rfl zc_866 rfl rfl ?_
        exact y_ret rfl rfl rfl rfl h
      · refine y_cnd (pc' := 42) rfl rfl (zc_leT hc13) rfl ?_
        refine y_pure (pc' := 43) (st' := [.ref 866]) rfl rfl ?_
        refine y_getf (pc' := 46) (v := .int (M12.1 866 17)) rfl rfl rfl zc_866 rfl rfl ?_
        exact y_ret rfl rfl rfl rfl h
    · refine y_cnd (pc' := 16) rfl rfl (zc_eqF hc8) rfl ?_
      refine y_pure (pc' := 18) (st' := [.int (-2 : Int32)]) rfl rfl ?_
      exact y_ret rfl rfl rfl rfl h
theorem e_M_draw {d : Nat} {x1 : Int32} {M : ZM} {r : ZR}  (h : (if x1 = nI 0 then none else some (some (.int (((Int32.toUInt32 ((zpi M 866 24 (((M.1 866 24) * (nI 1103515245)) + (nI 12345))).1 866 24) >>> (Int32.toUInt32 (nI 16) &&& Int32.toUInt32 31)).toInt32) - ((Int32.toUInt32 ((zpi M 866 24 (((M.1 866 24) * (nI 1103515245)) + (nI 12345))).1 866 24) >>> (Int32.toUInt32 (nI 16) &&& Int32.toUInt32 31)).toInt32) / x1 * x1)), (zpi M 866 24 (((M.1 866 24) * (nI 1103515245)) + (nI 12345))))) = some r) : zEv (d + 1) zmM_draw [.ref 866, .int x1] M = some r := by
  rw [zEv_succ]
  show zEx0 (zEv d) zmM_draw (0, [(0, .ref 866), (1, .int x1)], [], M) = some r
  refine y_pure (pc' := 1) (st' := [.ref 866]) rfl rfl ?_
  refine y_pure (pc' := 2) (st' := [.ref 866, .ref 866]) rfl rfl ?_
  refine y_getf (pc' := 5) (v := .int (M.1 866 24)) rfl rfl rfl zc_866 rfl rfl ?_
  refine y_pure (pc' := 8) (st' := [.int (nI 1103515245), .int (M.1 866 24), .ref 866]) rfl rfl ?_
  refine y_pure (pc' := 9) (st' := [.int ((M.1 866 24) * (nI 1103515245)), .ref 866]) rfl rfl ?_
  refine y_pure (pc' := 12) (st' := [.int (nI 12345), .int ((M.1 866 24) * (nI 1103515245)), .ref 866]) rfl rfl ?_
  refine y_pure (pc' := 13) (st' := [.int (((M.1 866 24) * (nI 1103515245)) + (nI 12345)), .ref 866]) rfl rfl ?_
  refine y_putI (pc' := 16) rfl rfl zc_866 rfl ?_
  refine y_pure (pc' := 17) (st' := [.ref 866]) rfl rfl ?_
  refine y_getf (pc' := 20) (v := .int ((zpi M 866 24 (((M.1 866 24) * (nI 1103515245)) + (nI 12345))).1 866 24)) rfl rfl rfl zc_866 rfl rfl ?_
  refine y_pure (pc' := 22) (st' := [.int (nI 16), .int ((zpi M 866 24 (((M.1 866 24) * (nI 1103515245)) + (nI 12345))).1 866 24)]) rfl rfl ?_
  refine y_pure (pc' := 23) (st' := [.int ((Int32.toUInt32 ((zpi M 866 24 (((M.1 866 24) * (nI 1103515245)) + (nI 12345))).1 866 24) >>> (Int32.toUInt32 (nI 16) &&& Int32.toUInt32 31)).toInt32)]) rfl rfl ?_
  refine y_pure (pc' := 24) (st' := [.int x1, .int ((Int32.toUInt32 ((zpi M 866 24 (((M.1 866 24) * (nI 1103515245)) + (nI 12345))).1 866 24) >>> (Int32.toUInt32 (nI 16) &&& Int32.toUInt32 31)).toInt32)]) rfl rfl ?_
  obtain ⟨hb1, h⟩ := zd_inv h
  refine y_irem (pc' := 25) (st := []) rfl hb1 rfl ?_
  exact y_ret rfl rfl rfl rfl h
noncomputable def h_M_isTwice_2 (d : Nat) (x1 : Int32) (x2 : Int32) (x3 : Int32) (M : ZM) : Option ZR := zEx0 (zEv d) zmM_isTwice (2, [(0, .ref 866), (1, .int x1), (2, .int x2), (3, .int x3)], [], M)
noncomputable def h_M_isTwice_35 (d : Nat) (x1 : Int32) (x2 : Int32) (x3 : Int32) (x4 : Int32) (M : ZM) : Option ZR := zEx0 (zEv d) zmM_isTwice (35, [(0, .ref 866), (1, .int x1), (2, .int x2), (3, .int x3), (4, .int x4)], [], M)
theorem e_M_isTwice_2 {d : Nat} {x1 : Int32} {x2 : Int32} {x3 : Int32} {M : ZM} {r : ZR}  (h : zC1 (zEv d zmM_cages [.ref 866] M) (fun v3 M2 => (if x3 < v3 then zC1 (zEv d zmM_of [.ref 866, .int x3, .int (nI 2)] M2) (fun v7 M6 => (if v7 = (nI 0) then h_M_isTwice_2 d x1 x2 (x3 + (nI 1)) M6 else zC1 (zEv d zmM_placeIn [.ref 866, .int x3, .int x1] M6) (fun v11 M10 => (if v11 = (-1 : Int32) then h_M_isTwice_2 d x1 x2 (x3 + (nI 1)) M10 else h_M_isTwice_35 d x1 x2 x3 (nI 0) M10)))) else some (some (.int (nI 0)), M2))) = some r) : h_M_isTwice_2 d x1 x2 x3 M = some r := by
  show zEx0 (zEv d) zmM_isTwice (2, [(0, .ref 866), (1, .int x1), (2, .int x2), (3, .int x3)], [], M) = some r
  refine y_pure (pc' := 3) (st' := [.int x3]) rfl rfl ?_
  refine y_pure (pc' := 4) (st' := [.ref 866, .int x3]) rfl rfl ?_
  obtain ⟨v3, M2, he1, h⟩ := zC1_inv h
  refine y_callV (pc' := 7) (y := zmM_cages) (a' := []) (st' := [.int x3]) rfl rfl rfl rfl rfl (zrecv_o (o := 10) zc_866 rfl) rfl he1 rfl rfl ?_
  rcases zif_inv h with ⟨hc4, h⟩ | ⟨hc4, h⟩
  · refine y_cmp (pc' := 10) rfl rfl (zc_geF hc4) rfl ?_
    refine y_pure (pc' := 11) (st' := [.ref 866]) rfl rfl ?_
    refine y_pure (pc' := 12) (st' := [.int x3, .ref 866]) rfl rfl ?_
    refine y_pure (pc' := 13) (st' := [.int (nI 2), .int x3, .ref 866]) rfl rfl ?_
    obtain ⟨v7, M6, he5, h⟩ := zC1_inv h
    refine y_callV (pc' := 16) (y := zmM_of) (a' := [.int x3, .int (nI 2)]) (st' := []) rfl rfl rfl rfl rfl (zrecv_o (o := 10) zc_866 rfl) rfl he5 rfl rfl ?_
    rcases zif_inv h with ⟨hc8, h⟩ | ⟨hc8, h⟩
    · refine y_cnd (pc' := 81) rfl rfl (zc_eqT hc8) rfl ?_
      refine y_pure (pc' := 84) (ls' := [(0, .ref 866), (1, .int x1), (2, .int x2), (3, .int (x3 + (nI 1)))]) (st' := []) rfl rfl ?_
      refine y_pure (pc' := 2) rfl rfl ?_
      refine zEx_sub ?_ h
      exact ⟨rfl, rfl, rfl, rfl, trivial⟩
    · refine y_cnd (pc' := 19) rfl rfl (zc_eqF hc8) rfl ?_
      refine y_pure (pc' := 20) (st' := [.ref 866]) rfl rfl ?_
      refine y_pure (pc' := 21) (st' := [.int x3, .ref 866]) rfl rfl ?_
      refine y_pure (pc' := 22) (st' := [.int x1, .int x3, .ref 866]) rfl rfl ?_
      obtain ⟨v11, M10, he9, h⟩ := zC1_inv h
      refine y_callV (pc' := 25) (y := zmM_placeIn) (a' := [.int x3, .int x1]) (st' := []) rfl rfl rfl rfl rfl (zrecv_o (o := 10) zc_866 rfl) rfl he9 rfl rfl ?_
      refine y_pure (pc' := 26) (st' := [.int (-1 : Int32), .int v11]) rfl rfl ?_
      rcases zif_inv h with ⟨hc12, h⟩ | ⟨hc12, h⟩
      · refine y_cmp (pc' := 29) rfl rfl (zc_neF hc12) rfl ?_
        refine y_pure (pc' := 81) rfl rfl ?_
        refine y_pure (pc' := 84) (ls' := [(0, .ref 866), (1, .int x1), (2, .int x2), (3, .int (x3 + (nI 1)))]) (st' := []) rfl rfl ?_
        refine y_pure (pc' := 2) rfl rfl ?_
        refine zEx_sub ?_ h
        exact ⟨rfl, rfl, rfl, rfl, trivial⟩
      · refine y_cmp (pc' := 32) rfl rfl (zc_neT hc12) rfl ?_
        refine y_pure (pc' := 33) (st' := [.int (nI 0)]) rfl rfl ?_
        refine y_pure (pc' := 35) (ls' := [(0, .ref 866), (1, .int x1), (2, .int x2), (3, .int x3), (4, .int (nI 0))]) (st' := []) rfl rfl ?_
        refine zEx_sub ?_ h
        exact ⟨rfl, rfl, rfl, rfl, rfl, trivial⟩
  · refine y_cmp (pc' := 87) rfl rfl (zc_geT hc4) rfl ?_
    refine y_pure (pc' := 88) (st' := [.int (nI 0)]) rfl rfl ?_
    exact y_retZ rfl rfl (by decide) h
theorem e_M_isTwice_35 {d : Nat} {x1 : Int32} {x2 : Int32} {x3 : Int32} {x4 : Int32} {M : ZM} {r : ZR}  (h : zC1 (zEv d zmM_of [.ref 866, .int x3, .int (nI 3)] M) (fun v3 M2 => (if x4 < v3 then zC1 (zEv d zmM_cellOf [.ref 866, .int x3, .int x4] M2) (fun v7 M6 => (if v7 = x1 then h_M_isTwice_35 d x1 x2 x3 (x4 + (nI 1)) M6 else zC1 (zEv d zmM_cellOf [.ref 866, .int x3, .int x4] M6) (fun v11 M10 => (if zin v11 36 = true then (if (M10.1 881 (Int32.toNatClampNeg v11)) = x2 then some (some (.int (nI 1)), M10) else h_M_isTwice_35 d x1 x2 x3 (x4 + (nI 1)) M10) else none)))) else h_M_isTwice_2 d x1 x2 (x3 + (nI 1)) M2)) = some r) : h_M_isTwice_35 d x1 x2 x3 x4 M = some r := by
  show zEx0 (zEv d) zmM_isTwice (35, [(0, .ref 866), (1, .int x1), (2, .int x2), (3, .int x3), (4, .int x4)], [], M) = some r
  refine y_pure (pc' := 37) (st' := [.int x4]) rfl rfl ?_
  refine y_pure (pc' := 38) (st' := [.ref 866, .int x4]) rfl rfl ?_
  refine y_pure (pc' := 39) (st' := [.int x3, .ref 866, .int x4]) rfl rfl ?_
  refine y_pure (pc' := 40) (st' := [.int (nI 3), .int x3, .ref 866, .int x4]) rfl rfl ?_
  obtain ⟨v3, M2, he1, h⟩ := zC1_inv h
  refine y_callV (pc' := 43) (y := zmM_of) (a' := [.int x3, .int (nI 3)]) (st' := [.int x4]) rfl rfl rfl rfl rfl (zrecv_o (o := 10) zc_866 rfl) rfl he1 rfl rfl ?_
  rcases zif_inv h with ⟨hc4, h⟩ | ⟨hc4, h⟩
  · refine y_cmp (pc' := 46) rfl rfl (zc_geF hc4) rfl ?_
    refine y_pure (pc' := 47) (st' := [.ref 866]) rfl rfl ?_
    refine y_pure (pc' := 48) (st' := [.int x3, .ref 866]) rfl rfl ?_
    refine y_pure (pc' := 50) (st' := [.int x4, .int x3, .ref 866]) rfl rfl ?_
    obtain ⟨v7, M6, he5, h⟩ := zC1_inv h
    refine y_callV (pc' := 53) (y := zmM_cellOf) (a' := [.int x3, .int x4]) (st' := []) rfl rfl rfl rfl rfl (zrecv_o (o := 10) zc_866 rfl) rfl he5 rfl rfl ?_
    refine y_pure (pc' := 54) (st' := [.int x1, .int v7]) rfl rfl ?_
    rcases zif_inv h with ⟨hc8, h⟩ | ⟨hc8, h⟩
    · refine y_cmp (pc' := 75) rfl rfl (zc_eqT hc8) rfl ?_
      refine y_pure (pc' := 78) (ls' := [(0, .ref 866), (1, .int x1), (2, .int x2), (3, .int x3), (4, .int (x4 + (nI 1)))]) (st' := []) rfl rfl ?_
      refine y_pure (pc' := 35) rfl rfl ?_
      refine zEx_sub ?_ h
      exact ⟨rfl, rfl, rfl, rfl, rfl, trivial⟩
    · refine y_cmp (pc' := 57) rfl rfl (zc_eqF hc8) rfl ?_
      refine y_pure (pc' := 58) (st' := [.ref 866]) rfl rfl ?_
      refine y_getf (pc' := 61) (v := .ref 881) rfl rfl rfl zc_866 rfl rfl ?_
      refine y_pure (pc' := 62) (st' := [.ref 866, .ref 881]) rfl rfl ?_
      refine y_pure (pc' := 63) (st' := [.int x3, .ref 866, .ref 881]) rfl rfl ?_
      refine y_pure (pc' := 65) (st' := [.int x4, .int x3, .ref 866, .ref 881]) rfl rfl ?_
      obtain ⟨v11, M10, he9, h⟩ := zC1_inv h
      refine y_callV (pc' := 68) (y := zmM_cellOf) (a' := [.int x3, .int x4]) (st' := [.ref 881]) rfl rfl rfl rfl rfl (zrecv_o (o := 10) zc_866 rfl) rfl he9 rfl rfl ?_
      obtain ⟨hi12, h⟩ := zg_inv h
      refine y_iald (pc' := 69) rfl zc_881 hi12 rfl ?_
      refine y_pure (pc' := 70) (st' := [.int x2, .int (M10.1 881 (Int32.toNatClampNeg v11))]) rfl rfl ?_
      rcases zif_inv h with ⟨hc13, h⟩ | ⟨hc13, h⟩
      · refine y_cmp (pc' := 73) rfl rfl (zc_neF hc13) rfl ?_
        refine y_pure (pc' := 74) (st' := [.int (nI 1)]) rfl rfl ?_
        exact y_retZ rfl rfl (by decide) h
      · refine y_cmp (pc' := 75) rfl rfl (zc_neT hc13) rfl ?_
        refine y_pure (pc' := 78) (ls' := [(0, .ref 866), (1, .int x1), (2, .int x2), (3, .int x3), (4, .int (x4 + (nI 1)))]) (st' := []) rfl rfl ?_
        refine y_pure (pc' := 35) rfl rfl ?_
        refine zEx_sub ?_ h
        exact ⟨rfl, rfl, rfl, rfl, rfl, trivial⟩
  · refine y_cmp (pc' := 81) rfl rfl (zc_geT hc4) rfl ?_
    refine y_pure (pc' := 84) (ls' := [(0, .ref 866), (1, .int x1), (2, .int x2), (3, .int (x3 + (nI 1))), (4, .int x4)]) (st' := []) rfl rfl ?_
    refine y_pure (pc' := 2) rfl rfl ?_
    refine zEx_sub ?_ h
    exact ⟨rfl, rfl, rfl, rfl, trivial⟩
theorem e_M_isTwice {d : Nat} {x1 : Int32} {x2 : Int32} {M : ZM} {r : ZR}  (h : h_M_isTwice_2 d x1 x2 (nI 0) M = some r) : zEv (d + 1) zmM_isTwice [.ref 866, .int x1, .int x2] M = some r := by
  rw [zEv_succ]
  show zEx0 (zEv d) zmM_isTwice (0, [(0, .ref 866), (1, .int x1), (2, .int x2)], [], M) = some r
  refine y_pure (pc' := 1) (st' := [.int (nI 0)]) rfl rfl ?_
  refine y_pure (pc' := 2) (ls' := [(0, .ref 866), (1, .int x1), (2, .int x2), (3, .int (nI 0))]) (st' := []) rfl rfl ?_
  refine zEx_sub ?_ h
  exact ⟨rfl, rfl, rfl, rfl, trivial⟩
noncomputable def h_M_goesNext_14 (d : Nat) (x1 : Int32) (x2 : Int32) (M : ZM) : Option ZR := zEx0 (zEv d) zmM_goesNext (14, [(0, .ref 866), (1, .int x1), (2, .int x2)], [], M)
theorem e_M_goesNext_14 {d : Nat} {x1 : Int32} {x2 : Int32} {M : ZM} {r : ZR}  (h : (if zin x1 36 = true then zC1 (zEv d zmM_top [.ref 866] M) (fun v4 M3 => (if (M.1 880 (Int32.toNatClampNeg x1)) < v4 then zC1 (zEv d zmM_top [.ref 866] M3) (fun v8 M7 => (if v8 = nI 0 then none else zL ((nI 1) + (((M3.1 879 (Int32.toNatClampNeg x1)) + (M3.1 880 (Int32.toNatClampNeg x1))) - ((M3.1 879 (Int32.toNatClampNeg x1)) + (M3.1 880 (Int32.toNatClampNeg x1))) / v8 * v8)) (fun y10 => zC1 (zEv d zmM_isTwice [.ref 866, .int x2, .int y10] (zpi M7 880 (Int32.toNatClampNeg x1) ((M7.1 880 (Int32.toNatClampNeg x1)) + (nI 1)))) (fun v14 M13 => (if v14 = (nI 0) then (if zin x2 36 = true then some (some (.int (nI 1)), (zpi M13 881 (Int32.toNatClampNeg x2) y10)) else none) else h_M_goesNext_14 d x1 x2 M13))))) else some (some (.int (nI 0)), M3))) else none) = some r) : h_M_goesNext_14 d x1 x2 M = some r := by
  show zEx0 (zEv d) zmM_goesNext (14, [(0, .ref 866), (1, .int x1), (2, .int x2)], [], M) = some r
  refine y_pure (pc' := 15) (st' := [.ref 866]) rfl rfl ?_
  refine y_getf (pc' := 18) (v := .ref 880) rfl rfl rfl zc_866 rfl rfl ?_
  refine y_pure (pc' := 19) (st' := [.int x1, .ref 880]) rfl rfl ?_
  obtain ⟨hi1, h⟩ := zg_inv h
  refine y_iald (pc' := 20) rfl zc_880 hi1 rfl ?_
  refine y_pure (pc' := 21) (st' := [.ref 866, .int (M.1 880 (Int32.toNatClampNeg x1))]) rfl rfl ?_
  obtain ⟨v4, M3, he2, h⟩ := zC1_inv h
  refine y_callV (pc' := 24) (y := zmM_top) (a' := []) (st' := [.int (M.1 880 (Int32.toNatClampNeg x1))]) rfl rfl rfl rfl rfl (zrecv_o (o := 10) zc_866 rfl) rfl he2 rfl rfl ?_
  rcases zif_inv h with ⟨hc5, h⟩ | ⟨hc5, h⟩
  · refine y_cmp (pc' := 27) rfl rfl (zc_geF hc5) rfl ?_
    refine y_pure (pc' := 28) (st' := [.int (nI 1)]) rfl rfl ?_
    refine y_pure (pc' := 29) (st' := [.ref 866, .int (nI 1)]) rfl rfl ?_
    refine y_getf (pc' := 32) (v := .ref 879) rfl rfl rfl zc_866 rfl rfl ?_
    refine y_pure (pc' := 33) (st' := [.int x1, .ref 879, .int (nI 1)]) rfl rfl ?_
    refine y_iald (pc' := 34) rfl zc_879 hi1 rfl ?_
    refine y_pure (pc' := 35) (st' := [.ref 866, .int (M3.1 879 (Int32.toNatClampNeg x1)), .int (nI 1)]) rfl rfl ?_
    refine y_getf (pc' := 38) (v := .ref 880) rfl rfl rfl zc_866 rfl rfl ?_
    refine y_pure (pc' := 39) (st' := [.int x1, .ref 880, .int (M3.1 879 (Int32.toNatClampNeg x1)), .int (nI 1)]) rfl rfl ?_
    refine y_iald (pc' := 40) rfl zc_880 hi1 rfl ?_
    refine y_pure (pc' := 41) (st' := [.int ((M3.1 879 (Int32.toNatClampNeg x1)) + (M3.1 880 (Int32.toNatClampNeg x1))), .int (nI 1)]) rfl rfl ?_
    refine y_pure (pc' := 42) (st' := [.ref 866, .int ((M3.1 879 (Int32.toNatClampNeg x1)) + (M3.1 880 (Int32.toNatClampNeg x1))), .int (nI 1)]) rfl rfl ?_
    obtain ⟨v8, M7, he6, h⟩ := zC1_inv h
    refine y_callV (pc' := 45) (y := zmM_top) (a' := []) (st' := [.int ((M3.1 879 (Int32.toNatClampNeg x1)) + (M3.1 880 (Int32.toNatClampNeg x1))), .int (nI 1)]) rfl rfl rfl rfl rfl (zrecv_o (o := 10) zc_866 rfl) rfl he6 rfl rfl ?_
    obtain ⟨hb9, h⟩ := zd_inv h
    refine y_irem (pc' := 46) (st := [.int (nI 1)]) rfl hb9 rfl ?_
    refine y_pure (pc' := 47) (st' := [.int ((nI 1) + (((M3.1 879 (Int32.toNatClampNeg x1)) + (M3.1 880 (Int32.toNatClampNeg x1))) - ((M3.1 879 (Int32.toNatClampNeg x1)) + (M3.1 880 (Int32.toNatClampNeg x1))) / v8 * v8))]) rfl rfl ?_
    obtain ⟨y10, e11, h⟩ := zL_inv h
    refine zT_gen e11 ?_
    refine y_pure (pc' := 48) (ls' := [(0, .ref 866), (1, .int x1), (2, .int x2), (3, .int y10)]) (st' := []) rfl rfl ?_
    refine y_pure (pc' := 49) (st' := [.ref 866]) rfl rfl ?_
    refine y_getf (pc' := 52) (v := .ref 880) rfl rfl rfl zc_866 rfl rfl ?_
    refine y_pure (pc' := 53) (st' := [.int x1, .ref 880]) rfl rfl ?_
    refine y_pure (pc' := 54) (st' := [.int x1, .ref 880, .int x1, .ref 880]) rfl rfl ?_
    refine y_iald (pc' := 55) rfl zc_880 hi1 rfl ?_
    refine y_pure (pc' := 56) (st' := [.int (nI 1), .int (M7.1 880 (Int32.toNatClampNeg x1)), .int x1, .ref 880]) rfl rfl ?_
    refine y_pure (pc' := 57) (st' := [.int ((M7.1 880 (Int32.toNatClampNeg x1)) + (nI 1)), .int x1, .ref 880]) rfl rfl ?_
    refine y_iast (pc' := 58) rfl zc_880 hi1 rfl ?_
    refine y_pure (pc' := 59) (st' := [.ref 866]) rfl rfl ?_
    refine y_pure (pc' := 60) (st' := [.int x2, .ref 866]) rfl rfl ?_
    refine y_pure (pc' := 61) (st' := [.int y10, .int x2, .ref 866]) rfl rfl ?_
    obtain ⟨v14, M13, he12, h⟩ := zC1_inv h
    refine y_callV (pc' := 64) (y := zmM_isTwice) (a' := [.int x2, .int y10]) (st' := []) rfl rfl rfl rfl rfl (zrecv_o (o := 10) zc_866 rfl) rfl he12 rfl rfl ?_
    rcases zif_inv h with ⟨hc15, h⟩ | ⟨hc15, h⟩
    · refine y_cnd (pc' := 70) rfl rfl (zc_eqT hc15) rfl ?_
      refine y_pure (pc' := 71) (st' := [.ref 866]) rfl rfl ?_
      refine y_getf (pc' := 74) (v := .ref 881) rfl rfl rfl zc_866 rfl rfl ?_
      refine y_pure (pc' := 75) (st' := [.int x2, .ref 881]) rfl rfl ?_
      refine y_pure (pc' := 76) (st' := [.int y10, .int x2, .ref 881]) rfl rfl ?_
      obtain ⟨hi16, h⟩ := zg_inv h
      refine y_iast (pc' := 77) rfl zc_881 hi16 rfl ?_
      refine y_pure (pc' := 78) (st' := [.int (nI 1)]) rfl rfl ?_
      exact y_retZ rfl rfl (by decide) h
    · refine y_cnd (pc' := 67) rfl rfl (zc_eqF hc15) rfl ?_
      refine y_pure (pc' := 14) rfl rfl ?_
      refine zEx_sub ?_ h
      exact ⟨rfl, rfl, rfl, trivial⟩
  · refine y_cmp (pc' := 79) rfl rfl (zc_geT hc5) rfl ?_
    refine y_pure (pc' := 80) (st' := [.int (nI 0)]) rfl rfl ?_
    exact y_retZ rfl rfl (by decide) h
theorem e_M_goesNext {d : Nat} {x1 : Int32} {M : ZM} {r : ZR}  (h : (if zin x1 36 = true then (if zin (M.1 878 (Int32.toNatClampNeg x1)) 36 = true then h_M_goesNext_14 d x1 (M.1 878 (Int32.toNatClampNeg x1)) (zpi M 881 (Int32.toNatClampNeg (M.1 878 (Int32.toNatClampNeg x1))) (nI 0)) else none) else none) = some r) : zEv (d + 1) zmM_goesNext [.ref 866, .int x1] M = some r := by
  rw [zEv_succ]
  show zEx0 (zEv d) zmM_goesNext (0, [(0, .ref 866), (1, .int x1)], [], M) = some r
  refine y_pure (pc' := 1) (st' := [.ref 866]) rfl rfl ?_
  refine y_getf (pc' := 4) (v := .ref 878) rfl rfl rfl zc_866 rfl rfl ?_
  refine y_pure (pc' := 5) (st' := [.int x1, .ref 878]) rfl rfl ?_
  obtain ⟨hi1, h⟩ := zg_inv h
  refine y_iald (pc' := 6) rfl zc_878 hi1 rfl ?_
  refine y_pure (pc' := 7) (ls' := [(0, .ref 866), (1, .int x1), (2, .int (M.1 878 (Int32.toNatClampNeg x1)))]) (st' := []) rfl rfl ?_
  refine y_pure (pc' := 8) (st' := [.ref 866]) rfl rfl ?_
  refine y_getf (pc' := 11) (v := .ref 881) rfl rfl rfl zc_866 rfl rfl ?_
  refine y_pure (pc' := 12) (st' := [.int (M.1 878 (Int32.toNatClampNeg x1)), .ref 881]) rfl rfl ?_
  refine y_pure (pc' := 13) (st' := [.int (nI 0), .int (M.1 878 (Int32.toNatClampNeg x1)), .ref 881]) rfl rfl ?_
  obtain ⟨hi2, h⟩ := zg_inv h
  refine y_iast (pc' := 14) rfl zc_881 hi2 rfl ?_
  refine zEx_sub ?_ h
  exact ⟨rfl, rfl, rfl, trivial⟩
noncomputable def h_M_laysOpen_7 (d : Nat) (x1 : Int32) (M : ZM) : Option ZR := zEx0 (zEv d) zmM_laysOpen (7, [(0, .ref 866), (1, .int x1)], [], M)
theorem e_M_laysOpen_7 {d : Nat} {x1 : Int32} {M : ZM} {r : ZR}  (h : (if x1 < (nI 36) then (if zin x1 36 = true then zC1 (zEv d zmM_isOpen [.ref 866, .int x1] (zpi M 881 (Int32.toNatClampNeg x1) (nI 0))) (fun v5 M4 => (if v5 = (nI 0) then h_M_laysOpen_7 d (x1 + (nI 1)) M4 else (if zin (M4.1 866 27) 36 = true then h_M_laysOpen_7 d (x1 + (nI 1)) (zpi (zpi M4 878 (Int32.toNatClampNeg (M4.1 866 27)) x1) 866 27 (((zpi M4 878 (Int32.toNatClampNeg (M4.1 866 27)) x1).1 866 27) + (nI 1))) else none))) else none) else some (none, M)) = some r) : h_M_laysOpen_7 d x1 M = some r := by
  show zEx0 (zEv d) zmM_laysOpen (7, [(0, .ref 866), (1, .int x1)], [], M) = some r
  refine y_pure (pc' := 8) (st' := [.int x1]) rfl rfl ?_
  refine y_pure (pc' := 10) (st' := [.int (nI 36), .int x1]) rfl rfl ?_
  rcases zif_inv h with ⟨hc1, h⟩ | ⟨hc1, h⟩
  · refine y_cmp (pc' := 13) rfl rfl (zc_geF hc1) rfl ?_
    refine y_pure (pc' := 14) (st' := [.ref 866]) rfl rfl ?_
    refine y_getf (pc' := 17) (v := .ref 881) rfl rfl rfl zc_866 rfl rfl ?_
    refine y_pure (pc' := 18) (st' := [.int x1, .ref 881]) rfl rfl ?_
    refine y_pure (pc' := 19) (st' := [.int (nI 0), .int x1, .ref 881]) rfl rfl ?_
    obtain ⟨hi2, h⟩ := zg_inv h
    refine y_iast (pc' := 20) rfl zc_881 hi2 rfl ?_
    refine y_pure (pc' := 21) (st' := [.ref 866]) rfl rfl ?_
    refine y_pure (pc' := 22) (st' := [.int x1, .ref 866]) rfl rfl ?_
    obtain ⟨v5, M4, he3, h⟩ := zC1_inv h
    refine y_callV (pc' := 25) (y := zmM_isOpen) (a' := [.int x1]) (st' := []) rfl rfl rfl rfl rfl (zrecv_o (o := 10) zc_866 rfl) rfl he3 rfl rfl ?_
    rcases zif_inv h with ⟨hc6, h⟩ | ⟨hc6, h⟩
    · refine y_cnd (pc' := 28) rfl rfl (zc_neF hc6) rfl ?_
      refine y_pure (pc' := 51) rfl rfl ?_
      refine y_pure (pc' := 54) (ls' := [(0, .ref 866), (1, .int (x1 + (nI 1)))]) (st' := []) rfl rfl ?_
      refine y_pure (pc' := 7) rfl rfl ?_
      refine zEx_sub ?_ h
      exact ⟨rfl, rfl, trivial⟩
    · refine y_cnd (pc' := 31) rfl rfl (zc_neT hc6) rfl ?_
      refine y_pure (pc' := 32) (st' := [.ref 866]) rfl rfl ?_
      refine y_getf (pc' := 35) (v := .ref 878) rfl rfl rfl zc_866 rfl rfl ?_
      refine y_pure (pc' := 36) (st' := [.ref 866, .ref 878]) rfl rfl ?_
      refine y_getf (pc' := 39) (v := .int (M4.1 866 27)) rfl rfl rfl zc_866 rfl rfl ?_
      refine y_pure (pc' := 40) (st' := [.int x1, .int (M4.1 866 27), .ref 878]) rfl rfl ?_
      obtain ⟨hi7, h⟩ := zg_inv h
      refine y_iast (pc' := 41) rfl zc_878 hi7 rfl ?_
      refine y_pure (pc' := 42) (st' := [.ref 866]) rfl rfl ?_
      refine y_pure (pc' := 43) (st' := [.ref 866, .ref 866]) rfl rfl ?_
      refine y_getf (pc' := 46) (v := .int ((zpi M4 878 (Int32.toNatClampNeg (M4.1 866 27)) x1).1 866 27)) rfl rfl rfl zc_866 rfl rfl ?_
      refine y_pure (pc' := 47) (st' := [.int (nI 1), .int ((zpi M4 878 (Int32.toNatClampNeg (M4.1 866 27)) x1).1 866 27), .ref 866]) rfl rfl ?_
      refine y_pure (pc' := 48) (st' := [.int (((zpi M4 878 (Int32.toNatClampNeg (M4.1 866 27)) x1).1 866 27) + (nI 1)), .ref 866]) rfl rfl ?_
      refine y_putI (pc' := 51) rfl rfl zc_866 rfl ?_
      refine y_pure (pc' := 54) (ls' := [(0, .ref 866), (1, .int (x1 + (nI 1)))]) (st' := []) rfl rfl ?_
      refine y_pure (pc' := 7) rfl rfl ?_
      refine zEx_sub ?_ h
      exact ⟨rfl, rfl, trivial⟩
  · refine y_cmp (pc' := 57) rfl rfl (zc_geT hc1) rfl ?_
    exact y_ret rfl rfl rfl rfl h
theorem e_M_laysOpen {d : Nat}  {M : ZM} {r : ZR}  (h : h_M_laysOpen_7 d (nI 0) (zpi M 866 27 (nI 0)) = some r) : zEv (d + 1) zmM_laysOpen [.ref 866] M = some r := by
  rw [zEv_succ]
  show zEx0 (zEv d) zmM_laysOpen (0, [(0, .ref 866)], [], M) = some r
  refine y_pure (pc' := 1) (st' := [.ref 866]) rfl rfl ?_
  refine y_pure (pc' := 2) (st' := [.int (nI 0), .ref 866]) rfl rfl ?_
  refine y_putI (pc' := 5) rfl rfl zc_866 rfl ?_
  refine y_pure (pc' := 6) (st' := [.int (nI 0)]) rfl rfl ?_
  refine y_pure (pc' := 7) (ls' := [(0, .ref 866), (1, .int (nI 0))]) (st' := []) rfl rfl ?_
  refine zEx_sub ?_ h
  exact ⟨rfl, rfl, trivial⟩
noncomputable def h_M_findsDigits_18 (d : Nat) (x2 : Int32) (x3 : Int32) (M : ZM) : Option ZR := zEx0 (zEv d) zmM_findsDigits (18, [(0, .ref 866), (2, .int x2), (3, .int x3)], [], M)
noncomputable def h_M_findsDigits_73 (d : Nat) (x2 : Int32) (M : ZM) : Option ZR := zEx0 (zEv d) zmM_findsDigits (73, [(0, .ref 866), (2, .int x2)], [], M)
theorem e_M_findsDigits_18 {d : Nat} {x2 : Int32} {x3 : Int32} {M : ZM} {r : ZR}  (h : (if x2 < (M.1 866 27) then (if x3 = (nI 0) then h_M_findsDigits_73 d x2 M else (if (M.1 866 25) = (nI 2000) then some (some (.int (nI 0)), M) else zC1 (zEv d zmM_top [.ref 866] (zpi M 866 25 ((M.1 866 25) + (nI 1)))) (fun v6 M5 => zC1 (zEv d zmM_draw [.ref 866, .int v6] M5) (fun v9 M8 => (if zin x2 36 = true then h_M_findsDigits_73 d x2 (zpi (zpi M8 879 (Int32.toNatClampNeg x2) v9) 880 (Int32.toNatClampNeg x2) (nI 0)) else none))))) else some (some (.int (nI 1)), M)) = some r) : h_M_findsDigits_18 d x2 x3 M = some r := by
  show zEx0 (zEv d) zmM_findsDigits (18, [(0, .ref 866), (2, .int x2), (3, .int x3)], [], M) = some r
  refine y_pure (pc' := 19) (st' := [.int x2]) rfl rfl ?_
  refine y_pure (pc' := 20) (st' := [.ref 866, .int x2]) rfl rfl ?_
  refine y_getf (pc' := 23) (v := .int (M.1 866 27)) rfl rfl rfl zc_866 rfl rfl ?_
  rcases zif_inv h with ⟨hc1, h⟩ | ⟨hc1, h⟩
  · refine y_cmp (pc' := 26) rfl rfl (zc_geF hc1) rfl ?_
    refine y_pure (pc' := 27) (st' := [.int x3]) rfl rfl ?_
    rcases zif_inv h with ⟨hc2, h⟩ | ⟨hc2, h⟩
    · refine y_cnd (pc' := 73) rfl rfl (zc_eqT hc2) rfl ?_
      refine zEx_sub ?_ h
      exact ⟨rfl, rfl, trivial⟩
    · refine y_cnd (pc' := 30) rfl rfl (zc_eqF hc2) rfl ?_
      refine y_pure (pc' := 31) (st' := [.ref 866]) rfl rfl ?_
      refine y_getf (pc' := 34) (v := .int (M.1 866 25)) rfl rfl rfl zc_866 rfl rfl ?_
      refine y_pure (pc' := 37) (st' := [.int (nI 2000), .int (M.1 866 25)]) rfl rfl ?_
      rcases zif_inv h with ⟨hc3, h⟩ | ⟨hc3, h⟩
      · refine y_cmp (pc' := 40) rfl rfl (zc_neF hc3) rfl ?_
        refine y_pure (pc' := 41) (st' := [.int (nI 0)]) rfl rfl ?_
        exact y_retZ rfl rfl (by decide) h
      · refine y_cmp (pc' := 42) rfl rfl (zc_neT hc3) rfl ?_
        refine y_pure (pc' := 43) (st' := [.ref 866]) rfl rfl ?_
        refine y_pure (pc' := 44) (st' := [.ref 866, .ref 866]) rfl rfl ?_
        refine y_getf (pc' := 47) (v := .int (M.1 866 25)) rfl rfl rfl zc_866 rfl rfl ?_
        refine y_pure (pc' := 48) (st' := [.int (nI 1), .int (M.1 866 25), .ref 866]) rfl rfl ?_
        refine y_pure (pc' := 49) (st' := [.int ((M.1 866 25) + (nI 1)), .ref 866]) rfl rfl ?_
        refine y_putI (pc' := 52) rfl rfl zc_866 rfl ?_
        refine y_pure (pc' := 53) (st' := [.ref 866]) rfl rfl ?_
        refine y_getf (pc' := 56) (v := .ref 879) rfl rfl rfl zc_866 rfl rfl ?_
        refine y_pure (pc' := 57) (st' := [.int x2, .ref 879]) rfl rfl ?_
        refine y_pure (pc' := 58) (st' := [.ref 866, .int x2, .ref 879]) rfl rfl ?_
        refine y_pure (pc' := 59) (st' := [.ref 866, .ref 866, .int x2, .ref 879]) rfl rfl ?_
        obtain ⟨v6, M5, he4, h⟩ := zC1_inv h
        refine y_callV (pc' := 62) (y := zmM_top) (a' := []) (st' := [.ref 866, .int x2, .ref 879]) rfl rfl rfl rfl rfl (zrecv_o (o := 10) zc_866 rfl) rfl he4 rfl rfl ?_
        obtain ⟨v9, M8, he7, h⟩ := zC1_inv h
        refine y_callV (pc' := 65) (y := zmM_draw) (a' := [.int v6]) (st' := [.int x2, .ref 879]) rfl rfl rfl rfl rfl (zrecv_o (o := 10) zc_866 rfl) rfl he7 rfl rfl ?_
        obtain ⟨hi10, h⟩ := zg_inv h
        refine y_iast (pc' := 66) rfl zc_879 hi10 rfl ?_
        refine y_pure (pc' := 67) (st' := [.ref 866]) rfl rfl ?_
        refine y_getf (pc' := 70) (v := .ref 880) rfl rfl rfl zc_866 rfl rfl ?_
        refine y_pure (pc' := 71) (st' := [.int x2, .ref 880]) rfl rfl ?_
        refine y_pure (pc' := 72) (st' := [.int (nI 0), .int x2, .ref 880]) rfl rfl ?_
        refine y_iast (pc' := 73) rfl zc_880 hi10 rfl ?_
        refine zEx_sub ?_ h
        exact ⟨rfl, rfl, trivial⟩
  · refine y_cmp (pc' := 97) rfl rfl (zc_geT hc1) rfl ?_
    refine y_pure (pc' := 98) (st' := [.int (nI 1)]) rfl rfl ?_
    exact y_retZ rfl rfl (by decide) h
theorem e_M_findsDigits_73 {d : Nat} {x2 : Int32} {M : ZM} {r : ZR}  (h : zC1 (zEv d zmM_goesNext [.ref 866, .int x2] M) (fun v3 M2 => (if v3 = (nI 0) then (if (x2 + (-1 : Int32)) < (nI 0) then some (some (.int (nI 0)), M2) else h_M_findsDigits_18 d (x2 + (-1 : Int32)) v3 M2) else (if (x2 + (nI 1)) < (nI 0) then some (some (.int (nI 0)), M2) else h_M_findsDigits_18 d (x2 + (nI 1)) v3 M2))) = some r) : h_M_findsDigits_73 d x2 M = some r := by
  show zEx0 (zEv d) zmM_findsDigits (73, [(0, .ref 866), (2, .int x2)], [], M) = some r
  refine y_pure (pc' := 74) (st' := [.ref 866]) rfl rfl ?_
  refine y_pure (pc' := 75) (st' := [.int x2, .ref 866]) rfl rfl ?_
  obtain ⟨v3, M2, he1, h⟩ := zC1_inv h
  refine y_callV (pc' := 78) (y := zmM_goesNext) (a' := [.int x2]) (st' := []) rfl rfl rfl rfl rfl (zrecv_o (o := 10) zc_866 rfl) rfl he1 rfl rfl ?_
  refine y_pure (pc' := 79) (ls' := [(0, .ref 866), (2, .int x2), (3, .int v3)]) (st' := []) rfl rfl ?_
  refine y_pure (pc' := 80) (st' := [.int x2]) rfl rfl ?_
  refine y_pure (pc' := 81) (st' := [.int v3, .int x2]) rfl rfl ?_
  rcases zif_inv h with ⟨hc4, h⟩ | ⟨hc4, h⟩
  · refine y_cnd (pc' := 88) rfl rfl (zc_eqT hc4) rfl ?_
    refine y_pure (pc' := 89) (st' := [.int (-1 : Int32), .int x2]) rfl rfl ?_
    refine y_pure (pc' := 90) (st' := [.int (x2 + (-1 : Int32))]) rfl rfl ?_
    refine y_pure (pc' := 91) (ls' := [(0, .ref 866), (2, .int (x2 + (-1 : Int32))), (3, .int v3)]) (st' := []) rfl rfl ?_
    refine y_pure (pc' := 92) (st' := [.int (x2 + (-1 : Int32))]) rfl rfl ?_
    rcases zif_inv h with ⟨hc5, h⟩ | ⟨hc5, h⟩
    · refine y_cnd (pc' := 95) rfl rfl (zc_geF hc5) rfl ?_
      refine y_pure (pc' := 96) (st' := [.int (nI 0)]) rfl rfl ?_
      exact y_retZ rfl rfl (by decide) h
    · refine y_cnd (pc' := 18) rfl rfl (zc_geT hc5) rfl ?_
      refine zEx_sub ?_ h
      exact ⟨rfl, rfl, rfl, trivial⟩
  · refine y_cnd (pc' := 84) rfl rfl (zc_eqF hc4) rfl ?_
    refine y_pure (pc' := 85) (st' := [.int (nI 1), .int x2]) rfl rfl ?_
    refine y_pure (pc' := 89) rfl rfl ?_
    refine y_pure (pc' := 90) (st' := [.int (x2 + (nI 1))]) rfl rfl ?_
    refine y_pure (pc' := 91) (ls' := [(0, .ref 866), (2, .int (x2 + (nI 1))), (3, .int v3)]) (st' := []) rfl rfl ?_
    refine y_pure (pc' := 92) (st' := [.int (x2 + (nI 1))]) rfl rfl ?_
    rcases zif_inv h with ⟨hc6, h⟩ | ⟨hc6, h⟩
    · refine y_cnd (pc' := 95) rfl rfl (zc_geF hc6) rfl ?_
      refine y_pure (pc' := 96) (st' := [.int (nI 0)]) rfl rfl ?_
      exact y_retZ rfl rfl (by decide) h
    · refine y_cnd (pc' := 18) rfl rfl (zc_geT hc6) rfl ?_
      refine zEx_sub ?_ h
      exact ⟨rfl, rfl, rfl, trivial⟩
theorem e_M_findsDigits {d : Nat} {x1 : Int32} {M : ZM} {r : ZR}  (h : zC0 (zEv d zmM_laysOpen [.ref 866] M) (fun M2 => h_M_findsDigits_18 d (nI 0) (nI 1) (zpi (zpi M2 866 24 x1) 866 25 (nI 0))) = some r) : zEv (d + 1) zmM_findsDigits [.ref 866, .int x1] M = some r := by
  rw [zEv_succ]
  show zEx0 (zEv d) zmM_findsDigits (0, [(0, .ref 866), (1, .int x1)], [], M) = some r
  refine y_pure (pc' := 1) (st' := [.ref 866]) rfl rfl ?_
  obtain ⟨M2, he1, h⟩ := zC0_inv h
  refine y_callV (pc' := 4) (y := zmM_laysOpen) (a' := []) (st' := []) rfl rfl rfl rfl rfl (zrecv_o (o := 10) zc_866 rfl) rfl he1 rfl rfl ?_
  refine y_pure (pc' := 5) (st' := [.ref 866]) rfl rfl ?_
  refine y_pure (pc' := 6) (st' := [.int x1, .ref 866]) rfl rfl ?_
  refine y_putI (pc' := 9) rfl rfl zc_866 rfl ?_
  refine y_pure (pc' := 10) (st' := [.ref 866]) rfl rfl ?_
  refine y_pure (pc' := 11) (st' := [.int (nI 0), .ref 866]) rfl rfl ?_
  refine y_putI (pc' := 14) rfl rfl zc_866 rfl ?_
  refine y_pure (pc' := 15) (st' := [.int (nI 0)]) rfl rfl ?_
  refine y_pure (pc' := 16) (ls' := [(0, .ref 866), (1, .int x1), (2, .int (nI 0))]) (st' := []) rfl rfl ?_
  refine y_pure (pc' := 17) (st' := [.int (nI 1)]) rfl rfl ?_
  refine y_pure (pc' := 18) (ls' := [(0, .ref 866), (1, .int x1), (2, .int (nI 0)), (3, .int (nI 1))]) (st' := []) rfl rfl ?_
  refine zEx_sub ?_ h
  exact ⟨rfl, rfl, rfl, trivial⟩
noncomputable def h_M_totalsMade_2 (d : Nat) (x1 : Int32) (M : ZM) : Option ZR := zEx0 (zEv d) zmM_totalsMade (2, [(0, .ref 866), (1, .int x1)], [], M)
noncomputable def h_M_totalsMade_12 (d : Nat) (x1 : Int32) (x2 : Int32) (M : ZM) : Option ZR := zEx0 (zEv d) zmM_totalsMade (12, [(0, .ref 866), (1, .int x1), (2, .int x2)], [], M)
theorem e_M_totalsMade_2 {d : Nat} {x1 : Int32} {M : ZM} {r : ZR}  (h : zC1 (zEv d zmM_cages [.ref 866] M) (fun v3 M2 => (if x1 < v3 then h_M_totalsMade_12 d x1 (nI 0) M2 else some (none, M2))) = some r) : h_M_totalsMade_2 d x1 M = some r := by
  show zEx0 (zEv d) zmM_totalsMade (2, [(0, .ref 866), (1, .int x1)], [], M) = some r
  refine y_pure (pc' := 3) (st' := [.int x1]) rfl rfl ?_
  refine y_pure (pc' := 4) (st' := [.ref 866, .int x1]) rfl rfl ?_
  obtain ⟨v3, M2, he1, h⟩ := zC1_inv h
  refine y_callV (pc' := 7) (y := zmM_cages) (a' := []) (st' := [.int x1]) rfl rfl rfl rfl rfl (zrecv_o (o := 10) zc_866 rfl) rfl he1 rfl rfl ?_
  rcases zif_inv h with ⟨hc4, h⟩ | ⟨hc4, h⟩
  · refine y_cmp (pc' := 10) rfl rfl (zc_geF hc4) rfl ?_
    refine y_pure (pc' := 11) (st' := [.int (nI 0)]) rfl rfl ?_
    refine y_pure (pc' := 12) (ls' := [(0, .ref 866), (1, .int x1), (2, .int (nI 0))]) (st' := []) rfl rfl ?_
    refine zEx_sub ?_ h
    exact ⟨rfl, rfl, rfl, trivial⟩
  · refine y_cmp (pc' := 82) rfl rfl (zc_geT hc4) rfl ?_
    exact y_ret rfl rfl rfl rfl h
theorem e_M_totalsMade_12 {d : Nat} {x1 : Int32} {x2 : Int32} {M : ZM} {r : ZR}  (h : zC1 (zEv d zmM_of [.ref 866, .int x1, .int (nI 3)] M) (fun v3 M2 => (if x2 < v3 then zC1 (zEv d zmM_cellOf [.ref 866, .int x1, .int x2] M2) (fun v7 M6 => (if zin v7 36 = true then (if zin x2 6 = true then h_M_totalsMade_12 d x1 (x2 + (nI 1)) (zpi M6 872 (Int32.toNatClampNeg x2) (M6.1 881 (Int32.toNatClampNeg v7))) else none) else none)) else zC1 (zEv d zmM_of [.ref 866, .int x1, .int (nI 0)] M2) (fun v12 M11 => zC1 (zEv d zmM_of [.ref 866, .int x1, .int (nI 3)] M11) (fun v15 M14 => zC1 (zEv d zmM_totalBy [.ref 866, .int v12, .int v15] M14) (fun v18 M17 => (if zin (((nI 148) + ((nI 10) * x1)) + (nI 1)) 268 = true then h_M_totalsMade_2 d (x1 + (nI 1)) (zpi M17 867 (Int32.toNatClampNeg (((nI 148) + ((nI 10) * x1)) + (nI 1))) v18) else none)))))) = some r) : h_M_totalsMade_12 d x1 x2 M = some r := by
  show zEx0 (zEv d) zmM_totalsMade (12, [(0, .ref 866), (1, .int x1), (2, .int x2)], [], M) = some r
  refine y_pure (pc' := 13) (st' := [.int x2]) rfl rfl ?_
  refine y_pure (pc' := 14) (st' := [.ref 866, .int x2]) rfl rfl ?_
  refine y_pure (pc' := 15) (st' := [.int x1, .ref 866, .int x2]) rfl rfl ?_
  refine y_pure (pc' := 16) (st' := [.int (nI 3), .int x1, .ref 866, .int x2]) rfl rfl ?_
  obtain ⟨v3, M2, he1, h⟩ := zC1_inv h
  refine y_callV (pc' := 19) (y := zmM_of) (a' := [.int x1, .int (nI 3)]) (st' := [.int x2]) rfl rfl rfl rfl rfl (zrecv_o (o := 10) zc_866 rfl) rfl he1 rfl rfl ?_
  rcases zif_inv h with ⟨hc4, h⟩ | ⟨hc4, h⟩
  · refine y_cmp (pc' := 22) rfl rfl (zc_geF hc4) rfl ?_
    refine y_pure (pc' := 23) (st' := [.ref 866]) rfl rfl ?_
    refine y_getf (pc' := 26) (v := .ref 872) rfl rfl rfl zc_866 rfl rfl ?_
    refine y_pure (pc' := 27) (st' := [.int x2, .ref 872]) rfl rfl ?_
    refine y_pure (pc' := 28) (st' := [.ref 866, .int x2, .ref 872]) rfl rfl ?_
    refine y_getf (pc' := 31) (v := .ref 881) rfl rfl rfl zc_866 rfl rfl ?_
    refine y_pure (pc' := 32) (st' := [.ref 866, .ref 881, .int x2, .ref 872]) rfl rfl ?_
    refine y_pure (pc' := 33) (st' := [.int x1, .ref 866, .ref 881, .int x2, .ref 872]) rfl rfl ?_
    refine y_pure (pc' := 34) (st' := [.int x2, .int x1, .ref 866, .ref 881, .int x2, .ref 872]) rfl rfl ?_
    obtain ⟨v7, M6, he5, h⟩ := zC1_inv h
    refine y_callV (pc' := 37) (y := zmM_cellOf) (a' := [.int x1, .int x2]) (st' := [.ref 881, .int x2, .ref 872]) rfl rfl rfl rfl rfl (zrecv_o (o := 10) zc_866 rfl) rfl he5 rfl rfl ?_
    obtain ⟨hi8, h⟩ := zg_inv h
    refine y_iald (pc' := 38) rfl zc_881 hi8 rfl ?_
    obtain ⟨hi9, h⟩ := zg_inv h
    refine y_iast (pc' := 39) rfl zc_872 hi9 rfl ?_
    refine y_pure (pc' := 42) (ls' := [(0, .ref 866), (1, .int x1), (2, .int (x2 + (nI 1)))]) (st' := []) rfl rfl ?_
    refine y_pure (pc' := 12) rfl rfl ?_
    refine zEx_sub ?_ h
    exact ⟨rfl, rfl, rfl, trivial⟩
  · refine y_cmp (pc' := 45) rfl rfl (zc_geT hc4) rfl ?_
    refine y_pure (pc' := 46) (st' := [.ref 866]) rfl rfl ?_
    refine y_getf (pc' := 49) (v := .ref 867) rfl rfl rfl zc_866 rfl rfl ?_
    refine y_pure (pc' := 52) (st' := [.int (nI 148), .ref 867]) rfl rfl ?_
    refine y_pure (pc' := 54) (st' := [.int (nI 10), .int (nI 148), .ref 867]) rfl rfl ?_
    refine y_pure (pc' := 55) (st' := [.int x1, .int (nI 10), .int (nI 148), .ref 867]) rfl rfl ?_
    refine y_pure (pc' := 56) (st' := [.int ((nI 10) * x1), .int (nI 148), .ref 867]) rfl rfl ?_
    refine y_pure (pc' := 57) (st' := [.int ((nI 148) + ((nI 10) * x1)), .ref 867]) rfl rfl ?_
    refine y_pure (pc' := 58) (st' := [.int (nI 1), .int ((nI 148) + ((nI 10) * x1)), .ref 867]) rfl rfl ?_
    refine y_pure (pc' := 59) (st' := [.int (((nI 148) + ((nI 10) * x1)) + (nI 1)), .ref 867]) rfl rfl ?_
    refine y_pure (pc' := 60) (st' := [.ref 866, .int (((nI 148) + ((nI 10) * x1)) + (nI 1)), .ref 867]) rfl rfl ?_
    refine y_pure (pc' := 61) (st' := [.ref 866, .ref 866, .int (((nI 148) + ((nI 10) * x1)) + (nI 1)), .ref 867]) rfl rfl ?_
    refine y_pure (pc' := 62) (st' := [.int x1, .ref 866, .ref 866, .int (((nI 148) + ((nI 10) * x1)) + (nI 1)), .ref 867]) rfl rfl ?_
    refine y_pure (pc' := 63) (st' := [.int (nI 0), .int x1, .ref 866, .ref 866, .int (((nI 148) + ((nI 10) * x1)) + (nI 1)), .ref 867]) rfl rfl ?_
    obtain ⟨v12, M11, he10, h⟩ := zC1_inv h
    refine y_callV (pc' := 66) (y := zmM_of) (a' := [.int x1, .int (nI 0)]) (st' := [.ref 866, .int (((nI 148) + ((nI 10) * x1)) + (nI 1)), .ref 867]) rfl rfl rfl rfl rfl (zrecv_o (o := 10) zc_866 rfl) rfl he10 rfl rfl ?_
    refine y_pure (pc' := 67) (st' := [.ref 866, .int v12, .ref 866, .int (((nI 148) + ((nI 10) * x1)) + (nI 1)), .ref 867]) rfl rfl ?_
    refine y_pure (pc' := 68) (st' := [.int x1, .ref 866, .int v12, .ref 866, .int (((nI 148) + ((nI 10) * x1)) + (nI 1)), .ref 867]) rfl rfl ?_
    refine y_pure (pc' := 69) (st' := [.int (nI 3), .int x1, .ref 866, .int v12, .ref 866, .int (((nI 148) + ((nI 10) * x1)) + (nI 1)), .ref 867]) rfl rfl ?_
    obtain ⟨v15, M14, he13, h⟩ := zC1_inv h
    refine y_callV (pc' := 72) (y := zmM_of) (a' := [.int x1, .int (nI 3)]) (st' := [.int v12, .ref 866, .int (((nI 148) + ((nI 10) * x1)) + (nI 1)), .ref 867]) rfl rfl rfl rfl rfl (zrecv_o (o := 10) zc_866 rfl) rfl he13 rfl rfl ?_
    obtain ⟨v18, M17, he16, h⟩ := zC1_inv h
    refine y_callV (pc' := 75) (y := zmM_totalBy) (a' := [.int v12, .int v15]) (st' := [.int (((nI 148) + ((nI 10) * x1)) + (nI 1)), .ref 867]) rfl rfl rfl rfl rfl (zrecv_o (o := 10) zc_866 rfl) rfl he16 rfl rfl ?_
    obtain ⟨hi19, h⟩ := zg_inv h
    refine y_iast (pc' := 76) rfl zc_867 hi19 rfl ?_
    refine y_pure (pc' := 79) (ls' := [(0, .ref 866), (1, .int (x1 + (nI 1))), (2, .int x2)]) (st' := []) rfl rfl ?_
    refine y_pure (pc' := 2) rfl rfl ?_
    refine zEx_sub ?_ h
    exact ⟨rfl, rfl, trivial⟩
theorem e_M_totalsMade {d : Nat}  {M : ZM} {r : ZR}  (h : h_M_totalsMade_2 d (nI 0) M = some r) : zEv (d + 1) zmM_totalsMade [.ref 866] M = some r := by
  rw [zEv_succ]
  show zEx0 (zEv d) zmM_totalsMade (0, [(0, .ref 866)], [], M) = some r
  refine y_pure (pc' := 1) (st' := [.int (nI 0)]) rfl rfl ?_
  refine y_pure (pc' := 2) (ls' := [(0, .ref 866), (1, .int (nI 0))]) (st' := []) rfl rfl ?_
  refine zEx_sub ?_ h
  exact ⟨rfl, rfl, trivial⟩
noncomputable def h_M_firstUnlike_2 (d : Nat) (x1 : Int32) (M : ZM) : Option ZR := zEx0 (zEv d) zmM_firstUnlike (2, [(0, .ref 866), (1, .int x1)], [], M)
theorem e_M_firstUnlike_2 {d : Nat} {x1 : Int32} {M : ZM} {r : ZR}  (h : (if zin x1 1800 = true then (if zin ((nI 36) + x1) 1800 = true then (if (M.1 876 (Int32.toNatClampNeg x1)) = (M.1 876 (Int32.toNatClampNeg ((nI 36) + x1))) then h_M_firstUnlike_2 d (x1 + (nI 1)) M else some (some (.int x1), M)) else none) else none) = some r) : h_M_firstUnlike_2 d x1 M = some r := by
  show zEx0 (zEv d) zmM_firstUnlike (2, [(0, .ref 866), (1, .int x1)], [], M) = some r
  refine y_pure (pc' := 3) (st' := [.ref 866]) rfl rfl ?_
  refine y_getf (pc' := 6) (v := .ref 876) rfl rfl rfl zc_866 rfl rfl ?_
  refine y_pure (pc' := 7) (st' := [.int x1, .ref 876]) rfl rfl ?_
  obtain ⟨hi1, h⟩ := zg_inv h
  refine y_iald (pc' := 8) rfl zc_876 hi1 rfl ?_
  refine y_pure (pc' := 9) (st' := [.ref 866, .int (M.1 876 (Int32.toNatClampNeg x1))]) rfl rfl ?_
  refine y_getf (pc' := 12) (v := .ref 876) rfl rfl rfl zc_866 rfl rfl ?_
  refine y_pure (pc' := 14) (st' := [.int (nI 36), .ref 876, .int (M.1 876 (Int32.toNatClampNeg x1))]) rfl rfl ?_
  refine y_pure (pc' := 15) (st' := [.int x1, .int (nI 36), .ref 876, .int (M.1 876 (Int32.toNatClampNeg x1))]) rfl rfl ?_
  refine y_pure (pc' := 16) (st' := [.int ((nI 36) + x1), .ref 876, .int (M.1 876 (Int32.toNatClampNeg x1))]) rfl rfl ?_
  obtain ⟨hi2, h⟩ := zg_inv h
  refine y_iald (pc' := 17) rfl zc_876 hi2 rfl ?_
  rcases zif_inv h with ⟨hc3, h⟩ | ⟨hc3, h⟩
  · refine y_cmp (pc' := 20) rfl rfl (zc_neF hc3) rfl ?_
    refine y_pure (pc' := 23) (ls' := [(0, .ref 866), (1, .int (x1 + (nI 1)))]) (st' := []) rfl rfl ?_
    refine y_pure (pc' := 2) rfl rfl ?_
    refine zEx_sub ?_ h
    exact ⟨rfl, rfl, trivial⟩
  · refine y_cmp (pc' := 26) rfl rfl (zc_neT hc3) rfl ?_
    refine y_pure (pc' := 27) (st' := [.int x1]) rfl rfl ?_
    exact y_ret rfl rfl rfl rfl h
theorem e_M_firstUnlike {d : Nat}  {M : ZM} {r : ZR}  (h : h_M_firstUnlike_2 d (nI 0) M = some r) : zEv (d + 1) zmM_firstUnlike [.ref 866] M = some r := by
  rw [zEv_succ]
  show zEx0 (zEv d) zmM_firstUnlike (0, [(0, .ref 866)], [], M) = some r
  refine y_pure (pc' := 1) (st' := [.int (nI 0)]) rfl rfl ?_
  refine y_pure (pc' := 2) (ls' := [(0, .ref 866), (1, .int (nI 0))]) (st' := []) rfl rfl ?_
  refine zEx_sub ?_ h
  exact ⟨rfl, rfl, trivial⟩
noncomputable def h_M_make_30 (d : Nat) (x2 : Int32) (M : ZM) : Option ZR := zEx0 (zEv d) zmM_make (30, [(0, .ref 866), (2, .int x2)], [], M)
noncomputable def h_M_make_91 (d : Nat) (x2 : Int32) (M : ZM) : Option ZR := zEx0 (zEv d) zmM_make (91, [(0, .ref 866), (2, .int x2)], [], M)
theorem e_M_make_30 {d : Nat} {x2 : Int32} {M : ZM} {r : ZR}  (h : zC1 (zEv d zmM_cells [.ref 866] M) (fun v3 M2 => (if x2 < v3 then (if zin ((nI 76) + x2) 268 = true then (if zin ((nI 40) + x2) 268 = true then zC1 (zEv d zmM_isOpen [.ref 866, .int x2] (zpi (zpi M2 867 (Int32.toNatClampNeg ((nI 76) + x2)) (nI 0)) 867 (Int32.toNatClampNeg ((nI 40) + x2)) (nI 0))) (fun v9 M8 => (if v9 = (nI 0) then (if zin ((nI 112) + x2) 268 = true then h_M_make_30 d (x2 + (nI 1)) (zpi M8 867 (Int32.toNatClampNeg ((nI 112) + x2)) (nI 0)) else none) else zC1 (zEv d zmM_allMarks [.ref 866] M8) (fun v14 M13 => (if zin ((nI 112) + x2) 268 = true then h_M_make_30 d (x2 + (nI 1)) (zpi M13 867 (Int32.toNatClampNeg ((nI 112) + x2)) v14) else none)))) else none) else none) else h_M_make_91 d (nI 0) M2)) = some r) : h_M_make_30 d x2 M = some r := by
  show zEx0 (zEv d) zmM_make (30, [(0, .ref 866), (2, .int x2)], [], M) = some r
  refine y_pure (pc' := 31) (st' := [.int x2]) rfl rfl ?_
  refine y_pure (pc' := 32) (st' := [.ref 866, .int x2]) rfl rfl ?_
  obtain ⟨v3, M2, he1, h⟩ := zC1_inv h
  refine y_callV (pc' := 35) (y := zmM_cells) (a' := []) (st' := [.int x2]) rfl rfl rfl rfl rfl (zrecv_o (o := 10) zc_866 rfl) rfl he1 rfl rfl ?_
  rcases zif_inv h with ⟨hc4, h⟩ | ⟨hc4, h⟩
  · refine y_cmp (pc' := 38) rfl rfl (zc_geF hc4) rfl ?_
    refine y_pure (pc' := 39) (st' := [.ref 866]) rfl rfl ?_
    refine y_getf (pc' := 42) (v := .ref 867) rfl rfl rfl zc_866 rfl rfl ?_
    refine y_pure (pc' := 44) (st' := [.int (nI 76), .ref 867]) rfl rfl ?_
    refine y_pure (pc' := 45) (st' := [.int x2, .int (nI 76), .ref 867]) rfl rfl ?_
    refine y_pure (pc' := 46) (st' := [.int ((nI 76) + x2), .ref 867]) rfl rfl ?_
    refine y_pure (pc' := 47) (st' := [.int (nI 0), .int ((nI 76) + x2), .ref 867]) rfl rfl ?_
    obtain ⟨hi5, h⟩ := zg_inv h
    refine y_iast (pc' := 48) rfl zc_867 hi5 rfl ?_
    refine y_pure (pc' := 49) (st' := [.ref 866]) rfl rfl ?_
    refine y_getf (pc' := 52) (v := .ref 867) rfl rfl rfl zc_866 rfl rfl ?_
    refine y_pure (pc' := 54) (st' := [.int (nI 40), .ref 867]) rfl rfl ?_
    refine y_pure (pc' := 55) (st' := [.int x2, .int (nI 40), .ref 867]) rfl rfl ?_
    refine y_pure (pc' := 56) (st' := [.int ((nI 40) + x2), .ref 867]) rfl rfl ?_
    refine y_pure (pc' := 57) (st' := [.int (nI 0), .int ((nI 40) + x2), .ref 867]) rfl rfl ?_
    obtain ⟨hi6, h⟩ := zg_inv h
    refine y_iast (pc' := 58) rfl zc_867 hi6 rfl ?_
    refine y_pure (pc' := 59) (st' := [.ref 866]) rfl rfl ?_
    refine y_getf (pc' := 62) (v := .ref 867) rfl rfl rfl zc_866 rfl rfl ?_
    refine y_pure (pc' := 64) (st' := [.int (nI 112), .ref 867]) rfl rfl ?_
    refine y_pure (pc' := 65) (st' := [.int x2, .int (nI 112), .ref 867]) rfl rfl ?_
    refine y_pure (pc' := 66) (st' := [.int ((nI 112) + x2), .ref 867]) rfl rfl ?_
    refine y_pure (pc' := 67) (st' := [.ref 866, .int ((nI 112) + x2), .ref 867]) rfl rfl ?_
    refine y_pure (pc' := 68) (st' := [.int x2, .ref 866, .int ((nI 112) + x2), .ref 867]) rfl rfl ?_
    obtain ⟨v9, M8, he7, h⟩ := zC1_inv h
    refine y_callV (pc' := 71) (y := zmM_isOpen) (a' := [.int x2]) (st' := [.int ((nI 112) + x2), .ref 867]) rfl rfl rfl rfl rfl (zrecv_o (o := 10) zc_866 rfl) rfl he7 rfl rfl ?_
    rcases zif_inv h with ⟨hc10, h⟩ | ⟨hc10, h⟩
    · refine y_cnd (pc' := 81) rfl rfl (zc_eqT hc10) rfl ?_
      refine y_pure (pc' := 82) (st' := [.int (nI 0), .int ((nI 112) + x2), .ref 867]) rfl rfl ?_
      obtain ⟨hi11, h⟩ := zg_inv h
      refine y_iast (pc' := 83) rfl zc_867 hi11 rfl ?_
      refine y_pure (pc' := 86) (ls' := [(0, .ref 866), (2, .int (x2 + (nI 1)))]) (st' := []) rfl rfl ?_
      refine y_pure (pc' := 30) rfl rfl ?_
      refine zEx_sub ?_ h
      exact ⟨rfl, rfl, trivial⟩
    · refine y_cnd (pc' := 74) rfl rfl (zc_eqF hc10) rfl ?_
      refine y_pure (pc' := 75) (st' := [.ref 866, .int ((nI 112) + x2), .ref 867]) rfl rfl ?_
      obtain ⟨v14, M13, he12, h⟩ := zC1_inv h
      refine y_callV (pc' := 78) (y := zmM_allMarks) (a' := []) (st' := [.int ((nI 112) + x2), .ref 867]) rfl rfl rfl rfl rfl (zrecv_o (o := 10) zc_866 rfl) rfl he12 rfl rfl ?_
      refine y_pure (pc' := 82) rfl rfl ?_
      obtain ⟨hi15, h⟩ := zg_inv h
      refine y_iast (pc' := 83) rfl zc_867 hi15 rfl ?_
      refine y_pure (pc' := 86) (ls' := [(0, .ref 866), (2, .int (x2 + (nI 1)))]) (st' := []) rfl rfl ?_
      refine y_pure (pc' := 30) rfl rfl ?_
      refine zEx_sub ?_ h
      exact ⟨rfl, rfl, trivial⟩
  · refine y_cmp (pc' := 89) rfl rfl (zc_geT hc4) rfl ?_
    refine y_pure (pc' := 90) (st' := [.int (nI 0)]) rfl rfl ?_
    refine y_pure (pc' := 91) (ls' := [(0, .ref 866), (2, .int (nI 0))]) (st' := []) rfl rfl ?_
    refine zEx_sub ?_ h
    exact ⟨rfl, rfl, trivial⟩
theorem e_M_make_91 {d : Nat} {x2 : Int32} {M : ZM} {r : ZR}  (h : zC1 (zEv d zmM_solves [.ref 866, .int (nI 2)] M) (fun v3 M2 => (if v3 = (nI 2) then zC1 (zEv d zmM_firstUnlike [.ref 866] M2) (fun v7 M6 => (if zin v7 36 = true then zC0 (zEv d zmM_puts [.ref 866, .int v7, .int (M6.1 881 (Int32.toNatClampNeg v7))] M6) (fun M10 => (if zin ((nI 76) + v7) 268 = true then h_M_make_91 d (x2 + (nI 1)) (zpi M10 867 (Int32.toNatClampNeg ((nI 76) + v7)) (nI 1)) else none)) else none)) else some (some (.int x2), M2))) = some r) : h_M_make_91 d x2 M = some r := by
  show zEx0 (zEv d) zmM_make (91, [(0, .ref 866), (2, .int x2)], [], M) = some r
  refine y_pure (pc' := 92) (st' := [.ref 866]) rfl rfl ?_
  refine y_pure (pc' := 93) (st' := [.int (nI 2), .ref 866]) rfl rfl ?_
  obtain ⟨v3, M2, he1, h⟩ := zC1_inv h
  refine y_callV (pc' := 96) (y := zmM_solves) (a' := [.int (nI 2)]) (st' := []) rfl rfl rfl rfl rfl (zrecv_o (o := 10) zc_866 rfl) rfl he1 rfl rfl ?_
  refine y_pure (pc' := 97) (st' := [.int (nI 2), .int v3]) rfl rfl ?_
  rcases zif_inv h with ⟨hc4, h⟩ | ⟨hc4, h⟩
  · refine y_cmp (pc' := 100) rfl rfl (zc_neF hc4) rfl ?_
    refine y_pure (pc' := 101) (st' := [.ref 866]) rfl rfl ?_
    obtain ⟨v7, M6, he5, h⟩ := zC1_inv h
    refine y_callV (pc' := 104) (y := zmM_firstUnlike) (a' := []) (st' := []) rfl rfl rfl rfl rfl (zrecv_o (o := 10) zc_866 rfl) rfl he5 rfl rfl ?_
    refine y_pure (pc' := 105) (ls' := [(0, .ref 866), (2, .int x2), (3, .int v7)]) (st' := []) rfl rfl ?_
    refine y_pure (pc' := 106) (st' := [.ref 866]) rfl rfl ?_
    refine y_pure (pc' := 107) (st' := [.int v7, .ref 866]) rfl rfl ?_
    refine y_pure (pc' := 108) (st' := [.ref 866, .int v7, .ref 866]) rfl rfl ?_
    refine y_getf (pc' := 111) (v := .ref 881) rfl rfl rfl zc_866 rfl rfl ?_
    refine y_pure (pc' := 112) (st' := [.int v7, .ref 881, .int v7, .ref 866]) rfl rfl ?_
    obtain ⟨hi8, h⟩ := zg_inv h
    refine y_iald (pc' := 113) rfl zc_881 hi8 rfl ?_
    obtain ⟨M10, he9, h⟩ := zC0_inv h
    refine y_callV (pc' := 116) (y := zmM_puts) (a' := [.int v7, .int (M6.1 881 (Int32.toNatClampNeg v7))]) (st' := []) rfl rfl rfl rfl rfl (zrecv_o (o := 10) zc_866 rfl) rfl he9 rfl rfl ?_
    refine y_pure (pc' := 117) (st' := [.ref 866]) rfl rfl ?_
    refine y_getf (pc' := 120) (v := .ref 867) rfl rfl rfl zc_866 rfl rfl ?_
    refine y_pure (pc' := 122) (st' := [.int (nI 76), .ref 867]) rfl rfl ?_
    refine y_pure (pc' := 123) (st' := [.int v7, .int (nI 76), .ref 867]) rfl rfl ?_
    refine y_pure (pc' := 124) (st' := [.int ((nI 76) + v7), .ref 867]) rfl rfl ?_
    refine y_pure (pc' := 125) (st' := [.int (nI 1), .int ((nI 76) + v7), .ref 867]) rfl rfl ?_
    obtain ⟨hi11, h⟩ := zg_inv h
    refine y_iast (pc' := 126) rfl zc_867 hi11 rfl ?_
    refine y_pure (pc' := 129) (ls' := [(0, .ref 866), (2, .int (x2 + (nI 1))), (3, .int v7)]) (st' := []) rfl rfl ?_
    refine y_pure (pc' := 91) rfl rfl ?_
    refine zEx_sub ?_ h
    exact ⟨rfl, rfl, trivial⟩
  · refine y_cmp (pc' := 132) rfl rfl (zc_neT hc4) rfl ?_
    refine y_pure (pc' := 133) (st' := [.int x2]) rfl rfl ?_
    exact y_ret rfl rfl rfl rfl h
theorem e_M_make {d : Nat} {x1 : Int32} {M : ZM} {r : ZR}  (h : zC1 (zEv d zmM_isBoard [.ref 866] M) (fun v3 M2 => (if v3 = (nI 0) then some (some (.int (-1 : Int32)), M2) else zC1 (zEv d zmM_findsDigits [.ref 866, .int x1] M2) (fun v7 M6 => (if v7 = (nI 0) then some (some (.int (-2 : Int32)), M6) else zC0 (zEv d zmM_keepsAct [.ref 866] M6) (fun M10 => zC0 (zEv d zmM_totalsMade [.ref 866] M10) (fun M12 => h_M_make_30 d (nI 0) M12)))))) = some r) : zEv (d + 1) zmM_make [.ref 866, .int x1] M = some r := by
  rw [zEv_succ]
  show zEx0 (zEv d) zmM_make (0, [(0, .ref 866), (1, .int x1)], [], M) = some r
  refine y_pure (pc' := 1) (st' := [.ref 866]) rfl rfl ?_
  obtain ⟨v3, M2, he1, h⟩ := zC1_inv h
  refine y_callV (pc' := 4) (y := zmM_isBoard) (a' := []) (st' := []) rfl rfl rfl rfl rfl (zrecv_o (o := 10) zc_866 rfl) rfl he1 rfl rfl ?_
  rcases zif_inv h with ⟨hc4, h⟩ | ⟨hc4, h⟩
  · refine y_cnd (pc' := 7) rfl rfl (zc_neF hc4) rfl ?_
    refine y_pure (pc' := 8) (st' := [.int (-1 : Int32)]) rfl rfl ?_
    exact y_ret rfl rfl rfl rfl h
  · refine y_cnd (pc' := 9) rfl rfl (zc_neT hc4) rfl ?_
    refine y_pure (pc' := 10) (st' := [.ref 866]) rfl rfl ?_
    refine y_pure (pc' := 11) (st' := [.int x1, .ref 866]) rfl rfl ?_
    obtain ⟨v7, M6, he5, h⟩ := zC1_inv h
    refine y_callV (pc' := 14) (y := zmM_findsDigits) (a' := [.int x1]) (st' := []) rfl rfl rfl rfl rfl (zrecv_o (o := 10) zc_866 rfl) rfl he5 rfl rfl ?_
    rcases zif_inv h with ⟨hc8, h⟩ | ⟨hc8, h⟩
    · refine y_cnd (pc' := 17) rfl rfl (zc_neF hc8) rfl ?_
      refine y_pure (pc' := 19) (st' := [.int (-2 : Int32)]) rfl rfl ?_
      exact y_ret rfl rfl rfl rfl h
    · refine y_cnd (pc' := 20) rfl rfl (zc_neT hc8) rfl ?_
      refine y_pure (pc' := 21) (st' := [.ref 866]) rfl rfl ?_
      obtain ⟨M10, he9, h⟩ := zC0_inv h
      refine y_callV (pc' := 24) (y := zmM_keepsAct) (a' := []) (st' := []) rfl rfl rfl rfl rfl (zrecv_o (o := 10) zc_866 rfl) rfl he9 rfl rfl ?_
      refine y_pure (pc' := 25) (st' := [.ref 866]) rfl rfl ?_
      obtain ⟨M12, he11, h⟩ := zC0_inv h
      refine y_callV (pc' := 28) (y := zmM_totalsMade) (a' := []) (st' := []) rfl rfl rfl rfl rfl (zrecv_o (o := 10) zc_866 rfl) rfl he11 rfl rfl ?_
      refine y_pure (pc' := 29) (st' := [.int (nI 0)]) rfl rfl ?_
      refine y_pure (pc' := 30) (ls' := [(0, .ref 866), (1, .int x1), (2, .int (nI 0))]) (st' := []) rfl rfl ?_
      refine zEx_sub ?_ h
      exact ⟨rfl, rfl, trivial⟩
noncomputable def h_M_undo_21 (d : Nat) (x1 : Int32) (M : ZM) : Option ZR := zEx0 (zEv d) zmM_undo (21, [(0, .ref 866), (1, .int x1)], [], M)
theorem e_M_undo_21 {d : Nat} {x1 : Int32} {M : ZM} {r : ZR}  (h : (if x1 < (nI 268) then (if zin (((nI 268) * (M.1 866 2)) + x1) 2680 = true then (if zin x1 268 = true then h_M_undo_21 d (x1 + (nI 1)) (zpi M 867 (Int32.toNatClampNeg x1) (M.1 868 (Int32.toNatClampNeg (((nI 268) * (M.1 866 2)) + x1)))) else none) else none) else some (some (.int (M.1 866 2)), M)) = some r) : h_M_undo_21 d x1 M = some r := by
  show zEx0 (zEv d) zmM_undo (21, [(0, .ref 866), (1, .int x1)], [], M) = some r
  refine y_pure (pc' := 22) (st' := [.int x1]) rfl rfl ?_
  refine y_pure (pc' := 25) (st' := [.int (nI 268), .int x1]) rfl rfl ?_
  rcases zif_inv h with ⟨hc1, h⟩ | ⟨hc1, h⟩
  · refine y_cmp (pc' := 28) rfl rfl (zc_geF hc1) rfl ?_
    refine y_pure (pc' := 29) (st' := [.ref 866]) rfl rfl ?_
    refine y_getf (pc' := 32) (v := .ref 867) rfl rfl rfl zc_866 rfl rfl ?_
    refine y_pure (pc' := 33) (st' := [.int x1, .ref 867]) rfl rfl ?_
    refine y_pure (pc' := 34) (st' := [.ref 866, .int x1, .ref 867]) rfl rfl ?_
    refine y_getf (pc' := 37) (v := .ref 868) rfl rfl rfl zc_866 rfl rfl ?_
    refine y_pure (pc' := 40) (st' := [.int (nI 268), .ref 868, .int x1, .ref 867]) rfl rfl ?_
    refine y_pure (pc' := 41) (st' := [.ref 866, .int (nI 268), .ref 868, .int x1, .ref 867]) rfl rfl ?_
    refine y_getf (pc' := 44) (v := .int (M.1 866 2)) rfl rfl rfl zc_866 rfl rfl ?_
    refine y_pure (pc' := 45) (st' := [.int ((nI 268) * (M.1 866 2)), .ref 868, .int x1, .ref 867]) rfl rfl ?_
    refine y_pure (pc' := 46) (st' := [.int x1, .int ((nI 268) * (M.1 866 2)), .ref 868, .int x1, .ref 867]) rfl rfl ?_
    refine y_pure (pc' := 47) (st' := [.int (((nI 268) * (M.1 866 2)) + x1), .ref 868, .int x1, .ref 867]) rfl rfl ?_
    obtain ⟨hi2, h⟩ := zg_inv h
    refine y_iald (pc' := 48) rfl zc_868 hi2 rfl ?_
    obtain ⟨hi3, h⟩ := zg_inv h
    refine y_iast (pc' := 49) rfl zc_867 hi3 rfl ?_
    refine y_pure (pc' := 52) (ls' := [(0, .ref 866), (1, .int (x1 + (nI 1)))]) (st' := []) rfl rfl ?_
    refine y_pure (pc' := 21) rfl rfl ?_
    refine zEx_sub ?_ h
    exact ⟨rfl, rfl, trivial⟩
  · refine y_cmp (pc' := 55) rfl rfl (zc_geT hc1) rfl ?_
    refine y_pure (pc' := 56) (st' := [.ref 866]) rfl rfl ?_
    refine y_getf (pc' := 59) (v := .int (M.1 866 2)) rfl rfl rfl zc_866 rfl rfl ?_
    exact y_ret rfl rfl rfl rfl h
theorem e_M_undo {d : Nat}  {M : ZM} {r : ZR}  (h : (if (M.1 866 2) = (nI 0) then some (some (.int (-1 : Int32)), M) else h_M_undo_21 d (nI 0) (zpi M 866 2 ((M.1 866 2) - (nI 1)))) = some r) : zEv (d + 1) zmM_undo [.ref 866] M = some r := by
  rw [zEv_succ]
  show zEx0 (zEv d) zmM_undo (0, [(0, .ref 866)], [], M) = some r
  refine y_pure (pc' := 1) (st' := [.ref 866]) rfl rfl ?_
  refine y_getf (pc' := 4) (v := .int (M.1 866 2)) rfl rfl rfl zc_866 rfl rfl ?_
  rcases zif_inv h with ⟨hc1, h⟩ | ⟨hc1, h⟩
  · refine y_cnd (pc' := 7) rfl rfl (zc_neF hc1) rfl ?_
    refine y_pure (pc' := 8) (st' := [.int (-1 : Int32)]) rfl rfl ?_
    exact y_ret rfl rfl rfl rfl h
  · refine y_cnd (pc' := 9) rfl rfl (zc_neT hc1) rfl ?_
    refine y_pure (pc' := 10) (st' := [.ref 866]) rfl rfl ?_
    refine y_pure (pc' := 11) (st' := [.ref 866, .ref 866]) rfl rfl ?_
    refine y_getf (pc' := 14) (v := .int (M.1 866 2)) rfl rfl rfl zc_866 rfl rfl ?_
    refine y_pure (pc' := 15) (st' := [.int (nI 1), .int (M.1 866 2), .ref 866]) rfl rfl ?_
    refine y_pure (pc' := 16) (st' := [.int ((M.1 866 2) - (nI 1)), .ref 866]) rfl rfl ?_
    refine y_putI (pc' := 19) rfl rfl zc_866 rfl ?_
    refine y_pure (pc' := 20) (st' := [.int (nI 0)]) rfl rfl ?_
    refine y_pure (pc' := 21) (ls' := [(0, .ref 866), (1, .int (nI 0))]) (st' := []) rfl rfl ?_
    refine zEx_sub ?_ h
    exact ⟨rfl, rfl, trivial⟩
noncomputable def h_M_keep_14 (d : Nat) (x1 : Int32) (x2 : Int32) (M : ZM) : Option ZR := zEx0 (zEv d) zmM_keep (14, [(0, .ref 866), (1, .int x1), (2, .int x2)], [], M)
theorem e_M_keep_14 {d : Nat} {x1 : Int32} {x2 : Int32} {M : ZM} {r : ZR}  (h : (if x2 < (nI 268) then (if zin x2 268 = true then (if zin (((nI 268) * x1) + x2) 536 = true then h_M_keep_14 d x1 (x2 + (nI 1)) (zpi M 869 (Int32.toNatClampNeg (((nI 268) * x1) + x2)) (M.1 867 (Int32.toNatClampNeg x2))) else none) else none) else (if zin x1 2 = true then zC1 (zEv d zmM_cages [.ref 866] (zpi M 870 (Int32.toNatClampNeg x1) (vp_nar .boolean (nI 1)))) (fun v7 M6 => some (some (.int v7), M6)) else none)) = some r) : h_M_keep_14 d x1 x2 M = some r := by
  show zEx0 (zEv d) zmM_keep (14, [(0, .ref 866), (1, .int x1), (2, .int x2)], [], M) = some r
  refine y_pure (pc' := 15) (st' := [.int x2]) rfl rfl ?_
  refine y_pure (pc' := 18) (st' := [.int (nI 268), .int x2]) rfl rfl ?_
  rcases zif_inv h with ⟨hc1, h⟩ | ⟨hc1, h⟩
  · refine y_cmp (pc' := 21) rfl rfl (zc_geF hc1) rfl ?_
    refine y_pure (pc' := 22) (st' := [.ref 866]) rfl rfl ?_
    refine y_getf (pc' := 25) (v := .ref 869) rfl rfl rfl zc_866 rfl rfl ?_
    refine y_pure (pc' := 28) (st' := [.int (nI 268), .ref 869]) rfl rfl ?_
    refine y_pure (pc' := 29) (st' := [.int x1, .int (nI 268), .ref 869]) rfl rfl ?_
    refine y_pure (pc' := 30) (st' := [.int ((nI 268) * x1), .ref 869]) rfl rfl ?_
    refine y_pure (pc' := 31) (st' := [.int x2, .int ((nI 268) * x1), .ref 869]) rfl rfl ?_
    refine y_pure (pc' := 32) (st' := [.int (((nI 268) * x1) + x2), .ref 869]) rfl rfl ?_
    refine y_pure (pc' := 33) (st' := [.ref 866, .int (((nI 268) * x1) + x2), .ref 869]) rfl rfl ?_
    refine y_getf (pc' := 36) (v := .ref 867) rfl rfl rfl zc_866 rfl rfl ?_
    refine y_pure (pc' := 37) (st' := [.int x2, .ref 867, .int (((nI 268) * x1) + x2), .ref 869]) rfl rfl ?_
    obtain ⟨hi2, h⟩ := zg_inv h
    refine y_iald (pc' := 38) rfl zc_867 hi2 rfl ?_
    obtain ⟨hi3, h⟩ := zg_inv h
    refine y_iast (pc' := 39) rfl zc_869 hi3 rfl ?_
    refine y_pure (pc' := 42) (ls' := [(0, .ref 866), (1, .int x1), (2, .int (x2 + (nI 1)))]) (st' := []) rfl rfl ?_
    refine y_pure (pc' := 14) rfl rfl ?_
    refine zEx_sub ?_ h
    exact ⟨rfl, rfl, rfl, trivial⟩
  · refine y_cmp (pc' := 45) rfl rfl (zc_geT hc1) rfl ?_
    refine y_pure (pc' := 46) (st' := [.ref 866]) rfl rfl ?_
    refine y_getf (pc' := 49) (v := .ref 870) rfl rfl rfl zc_866 rfl rfl ?_
    refine y_pure (pc' := 50) (st' := [.int x1, .ref 870]) rfl rfl ?_
    refine y_pure (pc' := 51) (st' := [.int (nI 1), .int x1, .ref 870]) rfl rfl ?_
    obtain ⟨hi4, h⟩ := zg_inv h
    refine y_zast (pc' := 52) rfl zc_870 hi4 rfl ?_
    refine y_pure (pc' := 53) (st' := [.ref 866]) rfl rfl ?_
    obtain ⟨v7, M6, he5, h⟩ := zC1_inv h
    refine y_callV (pc' := 56) (y := zmM_cages) (a' := []) (st' := []) rfl rfl rfl rfl rfl (zrecv_o (o := 10) zc_866 rfl) rfl he5 rfl rfl ?_
    exact y_ret rfl rfl rfl rfl h
theorem e_M_keep {d : Nat} {x1 : Int32} {M : ZM} {r : ZR}  (h : zC1 (zEv d zmM_in [.long (Int32.toInt64 x1), .long (nJ 0), .long (nJ 1)] M) (fun v3 M2 => (if v3 = (nI 0) then some (some (.int (-1 : Int32)), M2) else h_M_keep_14 d x1 (nI 0) M2)) = some r) : zEv (d + 1) zmM_keep [.ref 866, .int x1] M = some r := by
  rw [zEv_succ]
  show zEx0 (zEv d) zmM_keep (0, [(0, .ref 866), (1, .int x1)], [], M) = some r
  refine y_pure (pc' := 1) (st' := [.int x1]) rfl rfl ?_
  refine y_pure (pc' := 2) (st' := [.long (Int32.toInt64 x1)]) rfl rfl ?_
  refine y_pure (pc' := 3) (st' := [.long (nJ 0), .long (Int32.toInt64 x1)]) rfl rfl ?_
  refine y_pure (pc' := 4) (st' := [.long (nJ 1), .long (nJ 0), .long (Int32.toInt64 x1)]) rfl rfl ?_
  obtain ⟨v3, M2, he1, h⟩ := zC1_inv h
  refine y_callS (pc' := 7) (y := zmM_in) (a := [.long (Int32.toInt64 x1), .long (nJ 0), .long (nJ 1)]) (st' := []) rfl rfl rfl rfl rfl rfl he1 rfl rfl ?_
  rcases zif_inv h with ⟨hc4, h⟩ | ⟨hc4, h⟩
  · refine y_cnd (pc' := 10) rfl rfl (zc_neF hc4) rfl ?_
    refine y_pure (pc' := 11) (st' := [.int (-1 : Int32)]) rfl rfl ?_
    exact y_ret rfl rfl rfl rfl h
  · refine y_cnd (pc' := 12) rfl rfl (zc_neT hc4) rfl ?_
    refine y_pure (pc' := 13) (st' := [.int (nI 0)]) rfl rfl ?_
    refine y_pure (pc' := 14) (ls' := [(0, .ref 866), (1, .int x1), (2, .int (nI 0))]) (st' := []) rfl rfl ?_
    refine zEx_sub ?_ h
    exact ⟨rfl, rfl, rfl, trivial⟩
noncomputable def h_M_back_26 (d : Nat) (x1 : Int32) (x2 : Int32) (M : ZM) : Option ZR := zEx0 (zEv d) zmM_back (26, [(0, .ref 866), (1, .int x1), (2, .int x2)], [], M)
theorem e_M_back_26 {d : Nat} {x1 : Int32} {x2 : Int32} {M : ZM} {r : ZR}  (h : (if x2 < (nI 268) then (if zin (((nI 268) * x1) + x2) 536 = true then (if zin x2 268 = true then h_M_back_26 d x1 (x2 + (nI 1)) (zpi M 867 (Int32.toNatClampNeg x2) (M.1 869 (Int32.toNatClampNeg (((nI 268) * x1) + x2)))) else none) else none) else zC1 (zEv d zmM_cages [.ref 866] (zpi M 866 2 (nI 0))) (fun v6 M5 => some (some (.int v6), M5))) = some r) : h_M_back_26 d x1 x2 M = some r := by
  show zEx0 (zEv d) zmM_back (26, [(0, .ref 866), (1, .int x1), (2, .int x2)], [], M) = some r
  refine y_pure (pc' := 27) (st' := [.int x2]) rfl rfl ?_
  refine y_pure (pc' := 30) (st' := [.int (nI 268), .int x2]) rfl rfl ?_
  rcases zif_inv h with ⟨hc1, h⟩ | ⟨hc1, h⟩
  · refine y_cmp (pc' := 33) rfl rfl (zc_geF hc1) rfl ?_
    refine y_pure (pc' := 34) (st' := [.ref 866]) rfl rfl ?_
    refine y_getf (pc' := 37) (v := .ref 867) rfl rfl rfl zc_866 rfl rfl ?_
    refine y_pure (pc' := 38) (st' := [.int x2, .ref 867]) rfl rfl ?_
    refine y_pure (pc' := 39) (st' := [.ref 866, .int x2, .ref 867]) rfl rfl ?_
    refine y_getf (pc' := 42) (v := .ref 869) rfl rfl rfl zc_866 rfl rfl ?_
    refine y_pure (pc' := 45) (st' := [.int (nI 268), .ref 869, .int x2, .ref 867]) rfl rfl ?_
    refine y_pure (pc' := 46) (st' := [.int x1, .int (nI 268), .ref 869, .int x2, .ref 867]) rfl rfl ?_
    refine y_pure (pc' := 47) (st' := [.int ((nI 268) * x1), .ref 869, .int x2, .ref 867]) rfl rfl ?_
    refine y_pure (pc' := 48) (st' := [.int x2, .int ((nI 268) * x1), .ref 869, .int x2, .ref 867]) rfl rfl ?_
    refine y_pure (pc' := 49) (st' := [.int (((nI 268) * x1) + x2), .ref 869, .int x2, .ref 867]) rfl rfl ?_
    obtain ⟨hi2, h⟩ := zg_inv h
    refine y_iald (pc' := 50) rfl zc_869 hi2 rfl ?_
    obtain ⟨hi3, h⟩ := zg_inv h
    refine y_iast (pc' := 51) rfl zc_867 hi3 rfl ?_
    refine y_pure (pc' := 54) (ls' := [(0, .ref 866), (1, .int x1), (2, .int (x2 + (nI 1)))]) (st' := []) rfl rfl ?_
    refine y_pure (pc' := 26) rfl rfl ?_
    refine zEx_sub ?_ h
    exact ⟨rfl, rfl, rfl, trivial⟩
  · refine y_cmp (pc' := 57) rfl rfl (zc_geT hc1) rfl ?_
    refine y_pure (pc' := 58) (st' := [.ref 866]) rfl rfl ?_
    refine y_pure (pc' := 59) (st' := [.int (nI 0), .ref 866]) rfl rfl ?_
    refine y_putI (pc' := 62) rfl rfl zc_866 rfl ?_
    refine y_pure (pc' := 63) (st' := [.ref 866]) rfl rfl ?_
    obtain ⟨v6, M5, he4, h⟩ := zC1_inv h
    refine y_callV (pc' := 66) (y := zmM_cages) (a' := []) (st' := []) rfl rfl rfl rfl rfl (zrecv_o (o := 10) zc_866 rfl) rfl he4 rfl rfl ?_
    exact y_ret rfl rfl rfl rfl h
theorem e_M_back {d : Nat} {x1 : Int32} {M : ZM} {r : ZR}  (h : zC1 (zEv d zmM_in [.long (Int32.toInt64 x1), .long (nJ 0), .long (nJ 1)] M) (fun v3 M2 => (if v3 = (nI 0) then some (some (.int (-1 : Int32)), M2) else (if zin x1 2 = true then (if (M2.1 870 (Int32.toNatClampNeg x1)) = (nI 0) then some (some (.int (-2 : Int32)), M2) else h_M_back_26 d x1 (nI 0) M2) else none))) = some r) : zEv (d + 1) zmM_back [.ref 866, .int x1] M = some r := by
  rw [zEv_succ]
  show zEx0 (zEv d) zmM_back (0, [(0, .ref 866), (1, .int x1)], [], M) = some r
  refine y_pure (pc' := 1) (st' := [.int x1]) rfl rfl ?_
  refine y_pure (pc' := 2) (st' := [.long (Int32.toInt64 x1)]) rfl rfl ?_
  refine y_pure (pc' := 3) (st' := [.long (nJ 0), .long (Int32.toInt64 x1)]) rfl rfl ?_
  refine y_pure (pc' := 4) (st' := [.long (nJ 1), .long (nJ 0), .long (Int32.toInt64 x1)]) rfl rfl ?_
  obtain ⟨v3, M2, he1, h⟩ := zC1_inv h
  refine y_callS (pc' := 7) (y := zmM_in) (a := [.long (Int32.toInt64 x1), .long (nJ 0), .long (nJ 1)]) (st' := []) rfl rfl rfl rfl rfl rfl he1 rfl rfl ?_
  rcases zif_inv h with ⟨hc4, h⟩ | ⟨hc4, h⟩
  · refine y_cnd (pc' := 10) rfl rfl (zc_neF hc4) rfl ?_
    refine y_pure (pc' := 11) (st' := [.int (-1 : Int32)]) rfl rfl ?_
    exact y_ret rfl rfl rfl rfl h
  · refine y_cnd (pc' := 12) rfl rfl (zc_neT hc4) rfl ?_
    refine y_pure (pc' := 13) (st' := [.ref 866]) rfl rfl ?_
    refine y_getf (pc' := 16) (v := .ref 870) rfl rfl rfl zc_866 rfl rfl ?_
    refine y_pure (pc' := 17) (st' := [.int x1, .ref 870]) rfl rfl ?_
    obtain ⟨hi5, h⟩ := zg_inv h
    refine y_zald (pc' := 18) rfl zc_870 hi5 rfl ?_
    rcases zif_inv h with ⟨hc6, h⟩ | ⟨hc6, h⟩
    · refine y_cnd (pc' := 21) rfl rfl (zc_neF hc6) rfl ?_
      refine y_pure (pc' := 23) (st' := [.int (-2 : Int32)]) rfl rfl ?_
      exact y_ret rfl rfl rfl rfl h
    · refine y_cnd (pc' := 24) rfl rfl (zc_neT hc6) rfl ?_
      refine y_pure (pc' := 25) (st' := [.int (nI 0)]) rfl rfl ?_
      refine y_pure (pc' := 26) (ls' := [(0, .ref 866), (1, .int x1), (2, .int (nI 0))]) (st' := []) rfl rfl ?_
      refine zEx_sub ?_ h
      exact ⟨rfl, rfl, rfl, trivial⟩
theorem e_M_spell {d : Nat} {x1 : Int32} {M : ZM} {r : ZR}  (h : (if (M.1 866 31) = (M.1 866 32) then some (none, (zpi (zpi M 866 33 x1) 866 31 (((zpi M 866 33 x1).1 866 31) + (nI 1)))) else some (none, (zpi M 866 31 ((M.1 866 31) + (nI 1))))) = some r) : zEv (d + 1) zmM_spell [.ref 866, .int x1] M = some r := by
  rw [zEv_succ]
  show zEx0 (zEv d) zmM_spell (0, [(0, .ref 866), (1, .int x1)], [], M) = some r
  refine y_pure (pc' := 1) (st' := [.ref 866]) rfl rfl ?_
  refine y_getf (pc' := 4) (v := .int (M.1 866 31)) rfl rfl rfl zc_866 rfl rfl ?_
  refine y_pure (pc' := 5) (st' := [.ref 866, .int (M.1 866 31)]) rfl rfl ?_
  refine y_getf (pc' := 8) (v := .int (M.1 866 32)) rfl rfl rfl zc_866 rfl rfl ?_
  rcases zif_inv h with ⟨hc1, h⟩ | ⟨hc1, h⟩
  · refine y_cmp (pc' := 11) rfl rfl (zc_neF hc1) rfl ?_
    refine y_pure (pc' := 12) (st' := [.ref 866]) rfl rfl ?_
    refine y_pure (pc' := 13) (st' := [.int x1, .ref 866]) rfl rfl ?_
    refine y_putI (pc' := 16) rfl rfl zc_866 rfl ?_
    refine y_pure (pc' := 17) (st' := [.ref 866]) rfl rfl ?_
    refine y_pure (pc' := 18) (st' := [.ref 866, .ref 866]) rfl rfl ?_
    refine y_getf (pc' := 21) (v := .int ((zpi M 866 33 x1).1 866 31)) rfl rfl rfl zc_866 rfl rfl ?_
    refine y_pure (pc' := 22) (st' := [.int (nI 1), .int ((zpi M 866 33 x1).1 866 31), .ref 866]) rfl rfl ?_
    refine y_pure (pc' := 23) (st' := [.int (((zpi M 866 33 x1).1 866 31) + (nI 1)), .ref 866]) rfl rfl ?_
    refine y_putI (pc' := 26) rfl rfl zc_866 rfl ?_
    exact y_ret rfl rfl rfl rfl h
  · refine y_cmp (pc' := 16) rfl rfl (zc_neT hc1) rfl ?_
    refine y_pure (pc' := 17) (st' := [.ref 866]) rfl rfl ?_
    refine y_pure (pc' := 18) (st' := [.ref 866, .ref 866]) rfl rfl ?_
    refine y_getf (pc' := 21) (v := .int (M.1 866 31)) rfl rfl rfl zc_866 rfl rfl ?_
    refine y_pure (pc' := 22) (st' := [.int (nI 1), .int (M.1 866 31), .ref 866]) rfl rfl ?_
    refine y_pure (pc' := 23) (st' := [.int ((M.1 866 31) + (nI 1)), .ref 866]) rfl rfl ?_
    refine y_putI (pc' := 26) rfl rfl zc_866 rfl ?_
    exact y_ret rfl rfl rfl rfl h
noncomputable def h_M_spellWord_2 (d : Nat) (x1 : Nat) (x2 : Int32) (M : ZM) : Option ZR := zEx0 (zEv d) zmM_spellWord (2, [(0, .ref 866), (1, .ref x1), (2, .int x2)], [], M)
theorem e_M_spellWord_2 {d : Nat} {x1 : Nat} {w1 : Nat} {x2 : Int32} {M : ZM} {r : ZR} (hk1 : zkd x1 = (7, w1)) (h : zC1 (zEv d zmJS_length [.ref x1] M) (fun v3 M2 => (if x2 < v3 then zC1 (zEv d zmJS_charAt [.ref x1, .int x2] M2) (fun v7 M6 => zC0 (zEv d zmM_spell [.ref 866, .int v7] M6) (fun M9 => h_M_spellWord_2 d x1 (x2 + (nI 1)) M9)) else some (none, M2))) = some r) : h_M_spellWord_2 d x1 x2 M = some r := by
  show zEx0 (zEv d) zmM_spellWord (2, [(0, .ref 866), (1, .ref x1), (2, .int x2)], [], M) = some r
  refine y_pure (pc' := 3) (st' := [.int x2]) rfl rfl ?_
  refine y_pure (pc' := 4) (st' := [.ref x1, .int x2]) rfl rfl ?_
  obtain ⟨v3, M2, he1, h⟩ := zC1_inv h
  refine y_callV (pc' := 7) (y := zmJS_length) (a' := []) (st' := [.int x2]) rfl rfl rfl rfl rfl (zrecv_s (zkt7 hk1)) rfl he1 rfl rfl ?_
  rcases zif_inv h with ⟨hc4, h⟩ | ⟨hc4, h⟩
  · refine y_cmp (pc' := 10) rfl rfl (zc_geF hc4) rfl ?_
    refine y_pure (pc' := 11) (st' := [.ref 866]) rfl rfl ?_
    refine y_pure (pc' := 12) (st' := [.ref x1, .ref 866]) rfl rfl ?_
    refine y_pure (pc' := 13) (st' := [.int x2, .ref x1, .ref 866]) rfl rfl ?_
    obtain ⟨v7, M6, he5, h⟩ := zC1_inv h
    refine y_callV (pc' := 16) (y := zmJS_charAt) (a' := [.int x2]) (st' := [.ref 866]) rfl rfl rfl rfl rfl (zrecv_s (zkt7 hk1)) rfl he5 rfl rfl ?_
    obtain ⟨M9, he8, h⟩ := zC0_inv h
    refine y_callV (pc' := 19) (y := zmM_spell) (a' := [.int v7]) (st' := []) rfl rfl rfl rfl rfl (zrecv_o (o := 10) zc_866 rfl) rfl he8 rfl rfl ?_
    refine y_pure (pc' := 22) (ls' := [(0, .ref 866), (1, .ref x1), (2, .int (x2 + (nI 1)))]) (st' := []) rfl rfl ?_
    refine y_pure (pc' := 2) rfl rfl ?_
    refine zEx_sub ?_ h
    exact ⟨rfl, rfl, rfl, trivial⟩
  · refine y_cmp (pc' := 25) rfl rfl (zc_geT hc4) rfl ?_
    exact y_ret rfl rfl rfl rfl h
theorem e_M_spellWord {d : Nat} {x1 w1 : Nat} {M : ZM} {r : ZR} (hk1 : zkd x1 = (7, w1)) (h : h_M_spellWord_2 d x1 (nI 0) M = some r) : zEv (d + 1) zmM_spellWord [.ref 866, .ref x1] M = some r := by
  rw [zEv_succ]
  show zEx0 (zEv d) zmM_spellWord (0, [(0, .ref 866), (1, .ref x1)], [], M) = some r
  refine y_pure (pc' := 1) (st' := [.int (nI 0)]) rfl rfl ?_
  refine y_pure (pc' := 2) (ls' := [(0, .ref 866), (1, .ref x1), (2, .int (nI 0))]) (st' := []) rfl rfl ?_
  refine zEx_sub ?_ h
  exact ⟨rfl, rfl, rfl, trivial⟩
noncomputable def h_M_spellDigits_2 (d : Nat) (x1 : Int32) (x2 : Int32) (M : ZM) : Option ZR := zEx0 (zEv d) zmM_spellDigits (2, [(0, .ref 866), (1, .int x1), (2, .int x2)], [], M)
noncomputable def h_M_spellDigits_18 (d : Nat) (x1 : Int32) (x2 : Int32) (M : ZM) : Option ZR := zEx0 (zEv d) zmM_spellDigits (18, [(0, .ref 866), (1, .int x1), (2, .int x2)], [], M)
theorem e_M_spellDigits_2 {d : Nat} {x1 : Int32} {x2 : Int32} {M : ZM} {r : ZR}  (h : (if x2 = nI 0 then none else (if (x1 / x2) < (nI 10) then h_M_spellDigits_18 d x1 x2 M else h_M_spellDigits_2 d x1 (x2 * (nI 10)) M)) = some r) : h_M_spellDigits_2 d x1 x2 M = some r := by
  show zEx0 (zEv d) zmM_spellDigits (2, [(0, .ref 866), (1, .int x1), (2, .int x2)], [], M) = some r
  refine y_pure (pc' := 3) (st' := [.int x1]) rfl rfl ?_
  refine y_pure (pc' := 4) (st' := [.int x2, .int x1]) rfl rfl ?_
  obtain ⟨hb1, h⟩ := zd_inv h
  refine y_idiv (pc' := 5) (st := []) rfl hb1 rfl ?_
  refine y_pure (pc' := 7) (st' := [.int (nI 10), .int (x1 / x2)]) rfl rfl ?_
  rcases zif_inv h with ⟨hc2, h⟩ | ⟨hc2, h⟩
  · refine y_cmp (pc' := 18) rfl rfl (zc_ltT hc2) rfl ?_
    refine zEx_sub ?_ h
    exact ⟨rfl, rfl, rfl, trivial⟩
  · refine y_cmp (pc' := 10) rfl rfl (zc_ltF hc2) rfl ?_
    refine y_pure (pc' := 11) (st' := [.int x2]) rfl rfl ?_
    refine y_pure (pc' := 13) (st' := [.int (nI 10), .int x2]) rfl rfl ?_
    refine y_pure (pc' := 14) (st' := [.int (x2 * (nI 10))]) rfl rfl ?_
    refine y_pure (pc' := 15) (ls' := [(0, .ref 866), (1, .int x1), (2, .int (x2 * (nI 10)))]) (st' := []) rfl rfl ?_
    refine y_pure (pc' := 2) rfl rfl ?_
    refine zEx_sub ?_ h
    exact ⟨rfl, rfl, rfl, trivial⟩
theorem e_M_spellDigits_18 {d : Nat} {x1 : Int32} {x2 : Int32} {M : ZM} {r : ZR}  (h : (if (nI 0) < x2 then (if x2 = nI 0 then none else zC0 (zEv d zmM_spell [.ref 866, .int ((nI 48) + ((x1 / x2) - (x1 / x2) / (nI 10) * (nI 10)))] M) (fun M4 => h_M_spellDigits_18 d x1 (x2 / (nI 10)) M4)) else some (none, M)) = some r) : h_M_spellDigits_18 d x1 x2 M = some r := by
  show zEx0 (zEv d) zmM_spellDigits (18, [(0, .ref 866), (1, .int x1), (2, .int x2)], [], M) = some r
  refine y_pure (pc' := 19) (st' := [.int x2]) rfl rfl ?_
  rcases zif_inv h with ⟨hc1, h⟩ | ⟨hc1, h⟩
  · refine y_cnd (pc' := 22) rfl rfl (zc_leF hc1) rfl ?_
    refine y_pure (pc' := 23) (st' := [.ref 866]) rfl rfl ?_
    refine y_pure (pc' := 25) (st' := [.int (nI 48), .ref 866]) rfl rfl ?_
    refine y_pure (pc' := 26) (st' := [.int x1, .int (nI 48), .ref 866]) rfl rfl ?_
    refine y_pure (pc' := 27) (st' := [.int x2, .int x1, .int (nI 48), .ref 866]) rfl rfl ?_
    obtain ⟨hb2, h⟩ := zd_inv h
    refine y_idiv (pc' := 28) (st := [.int (nI 48), .ref 866]) rfl hb2 rfl ?_
    refine y_pure (pc' := 30) (st' := [.int (nI 10), .int (x1 / x2), .int (nI 48), .ref 866]) rfl rfl ?_
    refine y_irem (pc' := 31) (st := [.int (nI 48), .ref 866]) rfl (by decide) rfl ?_
    refine y_pure (pc' := 32) (st' := [.int ((nI 48) + ((x1 / x2) - (x1 / x2) / (nI 10) * (nI 10))), .ref 866]) rfl rfl ?_
    obtain ⟨M4, he3, h⟩ := zC0_inv h
    refine y_callV (pc' := 35) (y := zmM_spell) (a' := [.int ((nI 48) + ((x1 / x2) - (x1 / x2) / (nI 10) * (nI 10)))]) (st' := []) rfl rfl rfl rfl rfl (zrecv_o (o := 10) zc_866 rfl) rfl he3 rfl rfl ?_
    refine y_pure (pc' := 36) (st' := [.int x2]) rfl rfl ?_
    refine y_pure (pc' := 38) (st' := [.int (nI 10), .int x2]) rfl rfl ?_
    refine y_idiv (pc' := 39) (st := []) rfl (by decide) rfl ?_
    refine y_pure (pc' := 40) (ls' := [(0, .ref 866), (1, .int x1), (2, .int (x2 / (nI 10)))]) (st' := []) rfl rfl ?_
    refine y_pure (pc' := 18) rfl rfl ?_
    refine zEx_sub ?_ h
    exact ⟨rfl, rfl, rfl, trivial⟩
  · refine y_cnd (pc' := 43) rfl rfl (zc_leT hc1) rfl ?_
    exact y_ret rfl rfl rfl rfl h
theorem e_M_spellDigits {d : Nat} {x1 : Int32} {M : ZM} {r : ZR}  (h : h_M_spellDigits_2 d x1 (nI 1) M = some r) : zEv (d + 1) zmM_spellDigits [.ref 866, .int x1] M = some r := by
  rw [zEv_succ]
  show zEx0 (zEv d) zmM_spellDigits (0, [(0, .ref 866), (1, .int x1)], [], M) = some r
  refine y_pure (pc' := 1) (st' := [.int (nI 1)]) rfl rfl ?_
  refine y_pure (pc' := 2) (ls' := [(0, .ref 866), (1, .int x1), (2, .int (nI 1))]) (st' := []) rfl rfl ?_
  refine zEx_sub ?_ h
  exact ⟨rfl, rfl, rfl, trivial⟩
theorem e_M_spellNumber {d : Nat} {x1 : Int32} {M : ZM} {r : ZR}  (h : zC0 (zEv d zmM_spell [.ref 866, .int (nI 32)] M) (fun M2 => zC0 (zEv d zmM_spellDigits [.ref 866, .int x1] M2) (fun M4 => some (none, M4))) = some r) : zEv (d + 1) zmM_spellNumber [.ref 866, .int x1] M = some r := by
  rw [zEv_succ]
  show zEx0 (zEv d) zmM_spellNumber (0, [(0, .ref 866), (1, .int x1)], [], M) = some r
  refine y_pure (pc' := 1) (st' := [.ref 866]) rfl rfl ?_
  refine y_pure (pc' := 3) (st' := [.int (nI 32), .ref 866]) rfl rfl ?_
  obtain ⟨M2, he1, h⟩ := zC0_inv h
  refine y_callV (pc' := 6) (y := zmM_spell) (a' := [.int (nI 32)]) (st' := []) rfl rfl rfl rfl rfl (zrecv_o (o := 10) zc_866 rfl) rfl he1 rfl rfl ?_
  refine y_pure (pc' := 7) (st' := [.ref 866]) rfl rfl ?_
  refine y_pure (pc' := 8) (st' := [.int x1, .ref 866]) rfl rfl ?_
  obtain ⟨M4, he3, h⟩ := zC0_inv h
  refine y_callV (pc' := 11) (y := zmM_spellDigits) (a' := [.int x1]) (st' := []) rfl rfl rfl rfl rfl (zrecv_o (o := 10) zc_866 rfl) rfl he3 rfl rfl ?_
  exact y_ret rfl rfl rfl rfl h
theorem e_M_spellCell {d : Nat} {x1 : Int32} {M : ZM} {r : ZR}  (h : zC0 (zEv d zmM_spell [.ref 866, .int (nI 32)] M) (fun M2 => (if (M2.1 867 0) = nI 0 then none else zC0 (zEv d zmM_spell [.ref 866, .int ((nI 97) + (x1 - x1 / (M2.1 867 0) * (M2.1 867 0)))] M2) (fun M5 => (if (M5.1 867 0) = nI 0 then none else zC0 (zEv d zmM_spellDigits [.ref 866, .int ((x1 / (M5.1 867 0)) + (nI 1))] M5) (fun M8 => some (none, M8)))))) = some r) : zEv (d + 1) zmM_spellCell [.ref 866, .int x1] M = some r := by
  rw [zEv_succ]
  show zEx0 (zEv d) zmM_spellCell (0, [(0, .ref 866), (1, .int x1)], [], M) = some r
  refine y_pure (pc' := 1) (st' := [.ref 866]) rfl rfl ?_
  refine y_pure (pc' := 3) (st' := [.int (nI 32), .ref 866]) rfl rfl ?_
  obtain ⟨M2, he1, h⟩ := zC0_inv h
  refine y_callV (pc' := 6) (y := zmM_spell) (a' := [.int (nI 32)]) (st' := []) rfl rfl rfl rfl rfl (zrecv_o (o := 10) zc_866 rfl) rfl he1 rfl rfl ?_
  refine y_pure (pc' := 7) (st' := [.ref 866]) rfl rfl ?_
  refine y_pure (pc' := 9) (st' := [.int (nI 97), .ref 866]) rfl rfl ?_
  refine y_pure (pc' := 10) (st' := [.int x1, .int (nI 97), .ref 866]) rfl rfl ?_
  refine y_pure (pc' := 11) (st' := [.ref 866, .int x1, .int (nI 97), .ref 866]) rfl rfl ?_
  refine y_getf (pc' := 14) (v := .ref 867) rfl rfl rfl zc_866 rfl rfl ?_
  refine y_pure (pc' := 15) (st' := [.int (nI 0), .ref 867, .int x1, .int (nI 97), .ref 866]) rfl rfl ?_
  refine y_iald (pc' := 16) rfl zc_867 (by decide) rfl ?_
  obtain ⟨hb3, h⟩ := zd_inv h
  refine y_irem (pc' := 17) (st := [.int (nI 97), .ref 866]) rfl hb3 rfl ?_
  refine y_pure (pc' := 18) (st' := [.int ((nI 97) + (x1 - x1 / (M2.1 867 0) * (M2.1 867 0))), .ref 866]) rfl rfl ?_
  obtain ⟨M5, he4, h⟩ := zC0_inv h
  refine y_callV (pc' := 21) (y := zmM_spell) (a' := [.int ((nI 97) + (x1 - x1 / (M2.1 867 0) * (M2.1 867 0)))]) (st' := []) rfl rfl rfl rfl rfl (zrecv_o (o := 10) zc_866 rfl) rfl he4 rfl rfl ?_
  refine y_pure (pc' := 22) (st' := [.ref 866]) rfl rfl ?_
  refine y_pure (pc' := 23) (st' := [.int x1, .ref 866]) rfl rfl ?_
  refine y_pure (pc' := 24) (st' := [.ref 866, .int x1, .ref 866]) rfl rfl ?_
  refine y_getf (pc' := 27) (v := .ref 867) rfl rfl rfl zc_866 rfl rfl ?_
  refine y_pure (pc' := 28) (st' := [.int (nI 0), .ref 867, .int x1, .ref 866]) rfl rfl ?_
  refine y_iald (pc' := 29) rfl zc_867 (by decide) rfl ?_
  obtain ⟨hb6, h⟩ := zd_inv h
  refine y_idiv (pc' := 30) (st := [.ref 866]) rfl hb6 rfl ?_
  refine y_pure (pc' := 31) (st' := [.int (nI 1), .int (x1 / (M5.1 867 0)), .ref 866]) rfl rfl ?_
  refine y_pure (pc' := 32) (st' := [.int ((x1 / (M5.1 867 0)) + (nI 1)), .ref 866]) rfl rfl ?_
  obtain ⟨M8, he7, h⟩ := zC0_inv h
  refine y_callV (pc' := 35) (y := zmM_spellDigits) (a' := [.int ((x1 / (M5.1 867 0)) + (nI 1))]) (st' := []) rfl rfl rfl rfl rfl (zrecv_o (o := 10) zc_866 rfl) rfl he7 rfl rfl ?_
  exact y_ret rfl rfl rfl rfl h
noncomputable def h_M_spellBlocks_4 (d : Nat) (x1 : Int32) (x2 : Int32) (M : ZM) : Option ZR := zEx0 (zEv d) zmM_spellBlocks (4, [(0, .ref 866), (1, .int x1), (2, .int x2)], [], M)
theorem e_M_spellBlocks_4 {d : Nat} {x1 : Int32} {x2 : Int32} {M : ZM} {r : ZR}  (h : zC1 (zEv d zmM_cells [.ref 866] M) (fun v3 M2 => (if x2 < v3 then zC1 (zEv d zmM_isOpen [.ref 866, .int x2] M2) (fun v7 M6 => (if v7 = (nI 0) then (if x1 = (nI 0) then zC0 (zEv d zmM_spellWord [.ref 866, .ref 3] M6) (fun M11 => zC0 (zEv d zmM_spellCell [.ref 866, .int x2] M11) (fun M13 => h_M_spellBlocks_4 d (nI 1) (x2 + (nI 1)) M13)) else zC0 (zEv d zmM_spellCell [.ref 866, .int x2] M6) (fun M15 => h_M_spellBlocks_4 d (nI 1) (x2 + (nI 1)) M15)) else h_M_spellBlocks_4 d x1 (x2 + (nI 1)) M6)) else some (none, M2))) = some r) : h_M_spellBlocks_4 d x1 x2 M = some r := by
  show zEx0 (zEv d) zmM_spellBlocks (4, [(0, .ref 866), (1, .int x1), (2, .int x2)], [], M) = some r
  refine y_pure (pc' := 5) (st' := [.int x2]) rfl rfl ?_
  refine y_pure (pc' := 6) (st' := [.ref 866, .int x2]) rfl rfl ?_
  obtain ⟨v3, M2, he1, h⟩ := zC1_inv h
  refine y_callV (pc' := 9) (y := zmM_cells) (a' := []) (st' := [.int x2]) rfl rfl rfl rfl rfl (zrecv_o (o := 10) zc_866 rfl) rfl he1 rfl rfl ?_
  rcases zif_inv h with ⟨hc4, h⟩ | ⟨hc4, h⟩
  · refine y_cmp (pc' := 12) rfl rfl (zc_geF hc4) rfl ?_
    refine y_pure (pc' := 13) (st' := [.ref 866]) rfl rfl ?_
    refine y_pure (pc' := 14) (st' := [.int x2, .ref 866]) rfl rfl ?_
    obtain ⟨v7, M6, he5, h⟩ := zC1_inv h
    refine y_callV (pc' := 17) (y := zmM_isOpen) (a' := [.int x2]) (st' := []) rfl rfl rfl rfl rfl (zrecv_o (o := 10) zc_866 rfl) rfl he5 rfl rfl ?_
    rcases zif_inv h with ⟨hc8, h⟩ | ⟨hc8, h⟩
    · refine y_cnd (pc' := 23) rfl rfl (zc_eqT hc8) rfl ?_
      refine y_pure (pc' := 24) (st' := [.int x1]) rfl rfl ?_
      rcases zif_inv h with ⟨hc9, h⟩ | ⟨hc9, h⟩
      · refine y_cnd (pc' := 27) rfl rfl (zc_neF hc9) rfl ?_
        refine y_pure (pc' := 28) (st' := [.ref 866]) rfl rfl ?_
        refine y_ldwX (pc' := 31) (q := 3) rfl rfl rfl rfl ?_
        obtain ⟨M11, he10, h⟩ := zC0_inv h
        refine y_callV (pc' := 34) (y := zmM_spellWord) (a' := [.ref 3]) (st' := []) rfl rfl rfl rfl rfl (zrecv_o (o := 10) zc_866 rfl) rfl he10 rfl rfl ?_
        refine y_pure (pc' := 35) (st' := [.int (nI 1)]) rfl rfl ?_
        refine y_pure (pc' := 36) (ls' := [(0, .ref 866), (1, .int (nI 1)), (2, .int x2)]) (st' := []) rfl rfl ?_
        refine y_pure (pc' := 37) (st' := [.ref 866]) rfl rfl ?_
        refine y_pure (pc' := 38) (st' := [.int x2, .ref 866]) rfl rfl ?_
        obtain ⟨M13, he12, h⟩ := zC0_inv h
        refine y_callV (pc' := 41) (y := zmM_spellCell) (a' := [.int x2]) (st' := []) rfl rfl rfl rfl rfl (zrecv_o (o := 10) zc_866 rfl) rfl he12 rfl rfl ?_
        refine y_pure (pc' := 44) (ls' := [(0, .ref 866), (1, .int (nI 1)), (2, .int (x2 + (nI 1)))]) (st' := []) rfl rfl ?_
        refine y_pure (pc' := 4) rfl rfl ?_
        refine zEx_sub ?_ h
        exact ⟨rfl, rfl, rfl, trivial⟩
      · refine y_cnd (pc' := 34) rfl rfl (zc_neT hc9) rfl ?_
        refine y_pure (pc' := 35) (st' := [.int (nI 1)]) rfl rfl ?_
        refine y_pure (pc' := 36) (ls' := [(0, .ref 866), (1, .int (nI 1)), (2, .int x2)]) (st' := []) rfl rfl ?_
        refine y_pure (pc' := 37) (st' := [.ref 866]) rfl rfl ?_
        refine y_pure (pc' := 38) (st' := [.int x2, .ref 866]) rfl rfl ?_
        obtain ⟨M15, he14, h⟩ := zC0_inv h
        refine y_callV (pc' := 41) (y := zmM_spellCell) (a' := [.int x2]) (st' := []) rfl rfl rfl rfl rfl (zrecv_o (o := 10) zc_866 rfl) rfl he14 rfl rfl ?_
        refine y_pure (pc' := 44) (ls' := [(0, .ref 866), (1, .int (nI 1)), (2, .int (x2 + (nI 1)))]) (st' := []) rfl rfl ?_
        refine y_pure (pc' := 4) rfl rfl ?_
        refine zEx_sub ?_ h
        exact ⟨rfl, rfl, rfl, trivial⟩
    · refine y_cnd (pc' := 20) rfl rfl (zc_eqF hc8) rfl ?_
      refine y_pure (pc' := 41) rfl rfl ?_
      refine y_pure (pc' := 44) (ls' := [(0, .ref 866), (1, .int x1), (2, .int (x2 + (nI 1)))]) (st' := []) rfl rfl ?_
      refine y_pure (pc' := 4) rfl rfl ?_
      refine zEx_sub ?_ h
      exact ⟨rfl, rfl, rfl, trivial⟩
  · refine y_cmp (pc' := 47) rfl rfl (zc_geT hc4) rfl ?_
    exact y_ret rfl rfl rfl rfl h
theorem e_M_spellBlocks {d : Nat}  {M : ZM} {r : ZR}  (h : h_M_spellBlocks_4 d (nI 0) (nI 0) M = some r) : zEv (d + 1) zmM_spellBlocks [.ref 866] M = some r := by
  rw [zEv_succ]
  show zEx0 (zEv d) zmM_spellBlocks (0, [(0, .ref 866)], [], M) = some r
  refine y_pure (pc' := 1) (st' := [.int (nI 0)]) rfl rfl ?_
  refine y_pure (pc' := 2) (ls' := [(0, .ref 866), (1, .int (nI 0))]) (st' := []) rfl rfl ?_
  refine y_pure (pc' := 3) (st' := [.int (nI 0)]) rfl rfl ?_
  refine y_pure (pc' := 4) (ls' := [(0, .ref 866), (1, .int (nI 0)), (2, .int (nI 0))]) (st' := []) rfl rfl ?_
  refine zEx_sub ?_ h
  exact ⟨rfl, rfl, rfl, trivial⟩
noncomputable def h_M_spellCage_68 (d : Nat) (x1 : Int32) (M : ZM) : Option ZR := zEx0 (zEv d) zmM_spellCage (68, [(0, .ref 866), (1, .int x1)], [], M)
noncomputable def h_M_spellCage_86 (d : Nat) (x1 : Int32) (x3 : Int32) (M : ZM) : Option ZR := zEx0 (zEv d) zmM_spellCage (86, [(0, .ref 866), (1, .int x1), (3, .int x3)], [], M)
theorem e_M_spellCage_68 {d : Nat} {x1 : Int32} {M : ZM} {r : ZR}  (h : zC1 (zEv d zmM_of [.ref 866, .int x1, .int (nI 2)] M) (fun v3 M2 => (if v3 = (nI 0) then zC0 (zEv d zmM_spellWord [.ref 866, .ref 1] M2) (fun M6 => h_M_spellCage_86 d x1 (nI 0) M6) else h_M_spellCage_86 d x1 (nI 0) M2)) = some r) : h_M_spellCage_68 d x1 M = some r := by
  show zEx0 (zEv d) zmM_spellCage (68, [(0, .ref 866), (1, .int x1)], [], M) = some r
  refine y_pure (pc' := 69) (st' := [.ref 866]) rfl rfl ?_
  refine y_pure (pc' := 70) (st' := [.int x1, .ref 866]) rfl rfl ?_
  refine y_pure (pc' := 71) (st' := [.int (nI 2), .int x1, .ref 866]) rfl rfl ?_
  obtain ⟨v3, M2, he1, h⟩ := zC1_inv h
  refine y_callV (pc' := 74) (y := zmM_of) (a' := [.int x1, .int (nI 2)]) (st' := []) rfl rfl rfl rfl rfl (zrecv_o (o := 10) zc_866 rfl) rfl he1 rfl rfl ?_
  rcases zif_inv h with ⟨hc4, h⟩ | ⟨hc4, h⟩
  · refine y_cnd (pc' := 77) rfl rfl (zc_neF hc4) rfl ?_
    refine y_pure (pc' := 78) (st' := [.ref 866]) rfl rfl ?_
    refine y_ldwX (pc' := 81) (q := 1) rfl rfl rfl rfl ?_
    obtain ⟨M6, he5, h⟩ := zC0_inv h
    refine y_callV (pc' := 84) (y := zmM_spellWord) (a' := [.ref 1]) (st' := []) rfl rfl rfl rfl rfl (zrecv_o (o := 10) zc_866 rfl) rfl he5 rfl rfl ?_
    refine y_pure (pc' := 85) (st' := [.int (nI 0)]) rfl rfl ?_
    refine y_pure (pc' := 86) (ls' := [(0, .ref 866), (1, .int x1), (3, .int (nI 0))]) (st' := []) rfl rfl ?_
    refine zEx_sub ?_ h
    exact ⟨rfl, rfl, rfl, trivial⟩
  · refine y_cnd (pc' := 84) rfl rfl (zc_neT hc4) rfl ?_
    refine y_pure (pc' := 85) (st' := [.int (nI 0)]) rfl rfl ?_
    refine y_pure (pc' := 86) (ls' := [(0, .ref 866), (1, .int x1), (3, .int (nI 0))]) (st' := []) rfl rfl ?_
    refine zEx_sub ?_ h
    exact ⟨rfl, rfl, rfl, trivial⟩
theorem e_M_spellCage_86 {d : Nat} {x1 : Int32} {x3 : Int32} {M : ZM} {r : ZR}  (h : zC1 (zEv d zmM_of [.ref 866, .int x1, .int (nI 3)] M) (fun v3 M2 => (if x3 < v3 then zC1 (zEv d zmM_cellOf [.ref 866, .int x1, .int x3] M2) (fun v7 M6 => zC0 (zEv d zmM_spellCell [.ref 866, .int v7] M6) (fun M9 => h_M_spellCage_86 d x1 (x3 + (nI 1)) M9)) else some (none, M2))) = some r) : h_M_spellCage_86 d x1 x3 M = some r := by
  show zEx0 (zEv d) zmM_spellCage (86, [(0, .ref 866), (1, .int x1), (3, .int x3)], [], M) = some r
  refine y_pure (pc' := 87) (st' := [.int x3]) rfl rfl ?_
  refine y_pure (pc' := 88) (st' := [.ref 866, .int x3]) rfl rfl ?_
  refine y_pure (pc' := 89) (st' := [.int x1, .ref 866, .int x3]) rfl rfl ?_
  refine y_pure (pc' := 90) (st' := [.int (nI 3), .int x1, .ref 866, .int x3]) rfl rfl ?_
  obtain ⟨v3, M2, he1, h⟩ := zC1_inv h
  refine y_callV (pc' := 93) (y := zmM_of) (a' := [.int x1, .int (nI 3)]) (st' := [.int x3]) rfl rfl rfl rfl rfl (zrecv_o (o := 10) zc_866 rfl) rfl he1 rfl rfl ?_
  rcases zif_inv h with ⟨hc4, h⟩ | ⟨hc4, h⟩
  · refine y_cmp (pc' := 96) rfl rfl (zc_geF hc4) rfl ?_
    refine y_pure (pc' := 97) (st' := [.ref 866]) rfl rfl ?_
    refine y_pure (pc' := 98) (st' := [.ref 866, .ref 866]) rfl rfl ?_
    refine y_pure (pc' := 99) (st' := [.int x1, .ref 866, .ref 866]) rfl rfl ?_
    refine y_pure (pc' := 100) (st' := [.int x3, .int x1, .ref 866, .ref 866]) rfl rfl ?_
    obtain ⟨v7, M6, he5, h⟩ := zC1_inv h
    refine y_callV (pc' := 103) (y := zmM_cellOf) (a' := [.int x1, .int x3]) (st' := [.ref 866]) rfl rfl rfl rfl rfl (zrecv_o (o := 10) zc_866 rfl) rfl he5 rfl rfl ?_
    obtain ⟨M9, he8, h⟩ := zC0_inv h
    refine y_callV (pc' := 106) (y := zmM_spellCell) (a' := [.int v7]) (st' := []) rfl rfl rfl rfl rfl (zrecv_o (o := 10) zc_866 rfl) rfl he8 rfl rfl ?_
    refine y_pure (pc' := 109) (ls' := [(0, .ref 866), (1, .int x1), (3, .int (x3 + (nI 1)))]) (st' := []) rfl rfl ?_
    refine y_pure (pc' := 86) rfl rfl ?_
    refine zEx_sub ?_ h
    exact ⟨rfl, rfl, rfl, trivial⟩
  · refine y_cmp (pc' := 112) rfl rfl (zc_geT hc4) rfl ?_
    exact y_ret rfl rfl rfl rfl h
theorem e_M_spellCage {d : Nat} {x1 : Int32} {M : ZM} {r : ZR}  (h : zC1 (zEv d zmM_of [.ref 866, .int x1, .int (nI 0)] M) (fun v3 M2 => zC0 (zEv d zmM_spellWord [.ref 866, .ref 4] M2) (fun M5 => (if v3 = (nI 0) then zC0 (zEv d zmM_spellWord [.ref 866, .ref 16] M5) (fun M8 => (if v3 = (nI 3) then h_M_spellCage_68 d x1 M8 else zC1 (zEv d zmM_of [.ref 866, .int x1, .int (nI 1)] M8) (fun v12 M11 => zC0 (zEv d zmM_spellNumber [.ref 866, .int v12] M11) (fun M14 => h_M_spellCage_68 d x1 M14)))) else (if v3 = (nI 1) then zC0 (zEv d zmM_spellWord [.ref 866, .ref 14] M5) (fun M17 => (if v3 = (nI 3) then h_M_spellCage_68 d x1 M17 else zC1 (zEv d zmM_of [.ref 866, .int x1, .int (nI 1)] M17) (fun v21 M20 => zC0 (zEv d zmM_spellNumber [.ref 866, .int v21] M20) (fun M23 => h_M_spellCage_68 d x1 M23)))) else (if v3 = (nI 2) then zC0 (zEv d zmM_spellWord [.ref 866, .ref 15] M5) (fun M26 => (if v3 = (nI 3) then h_M_spellCage_68 d x1 M26 else zC1 (zEv d zmM_of [.ref 866, .int x1, .int (nI 1)] M26) (fun v30 M29 => zC0 (zEv d zmM_spellNumber [.ref 866, .int v30] M29) (fun M32 => h_M_spellCage_68 d x1 M32)))) else zC0 (zEv d zmM_spellWord [.ref 866, .ref 8] M5) (fun M34 => (if v3 = (nI 3) then h_M_spellCage_68 d x1 M34 else zC1 (zEv d zmM_of [.ref 866, .int x1, .int (nI 1)] M34) (fun v38 M37 => zC0 (zEv d zmM_spellNumber [.ref 866, .int v38] M37) (fun M40 => h_M_spellCage_68 d x1 M40))))))))) = some r) : zEv (d + 1) zmM_spellCage [.ref 866, .int x1] M = some r := by
  rw [zEv_succ]
  show zEx0 (zEv d) zmM_spellCage (0, [(0, .ref 866), (1, .int x1)], [], M) = some r
  refine y_pure (pc' := 1) (st' := [.ref 866]) rfl rfl ?_
  refine y_pure (pc' := 2) (st' := [.int x1, .ref 866]) rfl rfl ?_
  refine y_pure (pc' := 3) (st' := [.int (nI 0), .int x1, .ref 866]) rfl rfl ?_
  obtain ⟨v3, M2, he1, h⟩ := zC1_inv h
  refine y_callV (pc' := 6) (y := zmM_of) (a' := [.int x1, .int (nI 0)]) (st' := []) rfl rfl rfl rfl rfl (zrecv_o (o := 10) zc_866 rfl) rfl he1 rfl rfl ?_
  refine y_pure (pc' := 7) (ls' := [(0, .ref 866), (1, .int x1), (2, .int v3)]) (st' := []) rfl rfl ?_
  refine y_pure (pc' := 8) (st' := [.ref 866]) rfl rfl ?_
  refine y_ldwX (pc' := 11) (q := 4) rfl rfl rfl rfl ?_
  obtain ⟨M5, he4, h⟩ := zC0_inv h
  refine y_callV (pc' := 14) (y := zmM_spellWord) (a' := [.ref 4]) (st' := []) rfl rfl rfl rfl rfl (zrecv_o (o := 10) zc_866 rfl) rfl he4 rfl rfl ?_
  refine y_pure (pc' := 15) (st' := [.ref 866]) rfl rfl ?_
  refine y_pure (pc' := 16) (st' := [.int v3, .ref 866]) rfl rfl ?_
  rcases zif_inv h with ⟨hc6, h⟩ | ⟨hc6, h⟩
  · refine y_cnd (pc' := 19) rfl rfl (zc_neF hc6) rfl ?_
    refine y_ldwX (pc' := 22) (q := 16) rfl rfl rfl rfl ?_
    refine y_pure (pc' := 50) rfl rfl ?_
    obtain ⟨M8, he7, h⟩ := zC0_inv h
    refine y_callV (pc' := 53) (y := zmM_spellWord) (a' := [.ref 16]) (st' := []) rfl rfl rfl rfl rfl (zrecv_o (o := 10) zc_866 rfl) rfl he7 rfl rfl ?_
    refine y_pure (pc' := 54) (st' := [.int v3]) rfl rfl ?_
    refine y_pure (pc' := 55) (st' := [.int (nI 3), .int v3]) rfl rfl ?_
    rcases zif_inv h with ⟨hc9, h⟩ | ⟨hc9, h⟩
    · refine y_cmp (pc' := 68) rfl rfl (zc_eqT hc9) rfl ?_
      refine zEx_sub ?_ h
      exact ⟨rfl, rfl, trivial⟩
    · refine y_cmp (pc' := 58) rfl rfl (zc_eqF hc9) rfl ?_
      refine y_pure (pc' := 59) (st' := [.ref 866]) rfl rfl ?_
      refine y_pure (pc' := 60) (st' := [.ref 866, .ref 866]) rfl rfl ?_
      refine y_pure (pc' := 61) (st' := [.int x1, .ref 866, .ref 866]) rfl rfl ?_
      refine y_pure (pc' := 62) (st' := [.int (nI 1), .int x1, .ref 866, .ref 866]) rfl rfl ?_
      obtain ⟨v12, M11, he10, h⟩ := zC1_inv h
      refine y_callV (pc' := 65) (y := zmM_of) (a' := [.int x1, .int (nI 1)]) (st' := [.ref 866]) rfl rfl rfl rfl rfl (zrecv_o (o := 10) zc_866 rfl) rfl he10 rfl rfl ?_
      obtain ⟨M14, he13, h⟩ := zC0_inv h
      refine y_callV (pc' := 68) (y := zmM_spellNumber) (a' := [.int v12]) (st' := []) rfl rfl rfl rfl rfl (zrecv_o (o := 10) zc_866 rfl) rfl he13 rfl rfl ?_
      refine zEx_sub ?_ h
      exact ⟨rfl, rfl, trivial⟩
  · refine y_cnd (pc' := 25) rfl rfl (zc_neT hc6) rfl ?_
    refine y_pure (pc' := 26) (st' := [.int v3, .ref 866]) rfl rfl ?_
    refine y_pure (pc' := 27) (st' := [.int (nI 1), .int v3, .ref 866]) rfl rfl ?_
    rcases zif_inv h with ⟨hc15, h⟩ | ⟨hc15, h⟩
    · refine y_cmp (pc' := 30) rfl rfl (zc_neF hc15) rfl ?_
      refine y_ldwX (pc' := 33) (q := 14) rfl rfl rfl rfl ?_
      refine y_pure (pc' := 50) rfl rfl ?_
      obtain ⟨M17, he16, h⟩ := zC0_inv h
      refine y_callV (pc' := 53) (y := zmM_spellWord) (a' := [.ref 14]) (st' := []) rfl rfl rfl rfl rfl (zrecv_o (o := 10) zc_866 rfl) rfl he16 rfl rfl ?_
      refine y_pure (pc' := 54) (st' := [.int v3]) rfl rfl ?_
      refine y_pure (pc' := 55) (st' := [.int (nI 3), .int v3]) rfl rfl ?_
      rcases zif_inv h with ⟨hc18, h⟩ | ⟨hc18, h⟩
      · refine y_cmp (pc' := 68) rfl rfl (zc_eqT hc18) rfl ?_
        refine zEx_sub ?_ h
        exact ⟨rfl, rfl, trivial⟩
      · refine y_cmp (pc' := 58) rfl rfl (zc_eqF hc18) rfl ?_
        refine y_pure (pc' := 59) (st' := [.ref 866]) rfl rfl ?_
        refine y_pure (pc' := 60) (st' := [.ref 866, .ref 866]) rfl rfl ?_
        refine y_pure (pc' := 61) (st' := [.int x1, .ref 866, .ref 866]) rfl rfl ?_
        refine y_pure (pc' := 62) (st' := [.int (nI 1), .int x1, .ref 866, .ref 866]) rfl rfl ?_
        obtain ⟨v21, M20, he19, h⟩ := zC1_inv h
        refine y_callV (pc' := 65) (y := zmM_of) (a' := [.int x1, .int (nI 1)]) (st' := [.ref 866]) rfl rfl rfl rfl rfl (zrecv_o (o := 10) zc_866 rfl) rfl he19 rfl rfl ?_
        obtain ⟨M23, he22, h⟩ := zC0_inv h
        refine y_callV (pc' := 68) (y := zmM_spellNumber) (a' := [.int v21]) (st' := []) rfl rfl rfl rfl rfl (zrecv_o (o := 10) zc_866 rfl) rfl he22 rfl rfl ?_
        refine zEx_sub ?_ h
        exact ⟨rfl, rfl, trivial⟩
    · refine y_cmp (pc' := 36) rfl rfl (zc_neT hc15) rfl ?_
      refine y_pure (pc' := 37) (st' := [.int v3, .ref 866]) rfl rfl ?_
      refine y_pure (pc' := 38) (st' := [.int (nI 2), .int v3, .ref 866]) rfl rfl ?_
      rcases zif_inv h with ⟨hc24, h⟩ | ⟨hc24, h⟩
      · refine y_cmp (pc' := 41) rfl rfl (zc_neF hc24) rfl ?_
        refine y_ldwX (pc' := 44) (q := 15) rfl rfl rfl rfl ?_
        refine y_pure (pc' := 50) rfl rfl ?_
        obtain ⟨M26, he25, h⟩ := zC0_inv h
        refine y_callV (pc' := 53) (y := zmM_spellWord) (a' := [.ref 15]) (st' := []) rfl rfl rfl rfl rfl (zrecv_o (o := 10) zc_866 rfl) rfl he25 rfl rfl ?_
        refine y_pure (pc' := 54) (st' := [.int v3]) rfl rfl ?_
        refine y_pure (pc' := 55) (st' := [.int (nI 3), .int v3]) rfl rfl ?_
        rcases zif_inv h with ⟨hc27, h⟩ | ⟨hc27, h⟩
        · refine y_cmp (pc' := 68) rfl rfl (zc_eqT hc27) rfl ?_
          refine zEx_sub ?_ h
          exact ⟨rfl, rfl, trivial⟩
        · refine y_cmp (pc' := 58) rfl rfl (zc_eqF hc27) rfl ?_
          refine y_pure (pc' := 59) (st' := [.ref 866]) rfl rfl ?_
          refine y_pure (pc' := 60) (st' := [.ref 866, .ref 866]) rfl rfl ?_
          refine y_pure (pc' := 61) (st' := [.int x1, .ref 866, .ref 866]) rfl rfl ?_
          refine y_pure (pc' := 62) (st' := [.int (nI 1), .int x1, .ref 866, .ref 866]) rfl rfl ?_
          obtain ⟨v30, M29, he28, h⟩ := zC1_inv h
          refine y_callV (pc' := 65) (y := zmM_of) (a' := [.int x1, .int (nI 1)]) (st' := [.ref 866]) rfl rfl rfl rfl rfl (zrecv_o (o := 10) zc_866 rfl) rfl he28 rfl rfl ?_
          obtain ⟨M32, he31, h⟩ := zC0_inv h
          refine y_callV (pc' := 68) (y := zmM_spellNumber) (a' := [.int v30]) (st' := []) rfl rfl rfl rfl rfl (zrecv_o (o := 10) zc_866 rfl) rfl he31 rfl rfl ?_
          refine zEx_sub ?_ h
          exact ⟨rfl, rfl, trivial⟩
      · refine y_cmp (pc' := 47) rfl rfl (zc_neT hc24) rfl ?_
        refine y_ldwX (pc' := 50) (q := 8) rfl rfl rfl rfl ?_
        obtain ⟨M34, he33, h⟩ := zC0_inv h
        refine y_callV (pc' := 53) (y := zmM_spellWord) (a' := [.ref 8]) (st' := []) rfl rfl rfl rfl rfl (zrecv_o (o := 10) zc_866 rfl) rfl he33 rfl rfl ?_
        refine y_pure (pc' := 54) (st' := [.int v3]) rfl rfl ?_
        refine y_pure (pc' := 55) (st' := [.int (nI 3), .int v3]) rfl rfl ?_
        rcases zif_inv h with ⟨hc35, h⟩ | ⟨hc35, h⟩
        · refine y_cmp (pc' := 68) rfl rfl (zc_eqT hc35) rfl ?_
          refine zEx_sub ?_ h
          exact ⟨rfl, rfl, trivial⟩
        · refine y_cmp (pc' := 58) rfl rfl (zc_eqF hc35) rfl ?_
          refine y_pure (pc' := 59) (st' := [.ref 866]) rfl rfl ?_
          refine y_pure (pc' := 60) (st' := [.ref 866, .ref 866]) rfl rfl ?_
          refine y_pure (pc' := 61) (st' := [.int x1, .ref 866, .ref 866]) rfl rfl ?_
          refine y_pure (pc' := 62) (st' := [.int (nI 1), .int x1, .ref 866, .ref 866]) rfl rfl ?_
          obtain ⟨v38, M37, he36, h⟩ := zC1_inv h
          refine y_callV (pc' := 65) (y := zmM_of) (a' := [.int x1, .int (nI 1)]) (st' := [.ref 866]) rfl rfl rfl rfl rfl (zrecv_o (o := 10) zc_866 rfl) rfl he36 rfl rfl ?_
          obtain ⟨M40, he39, h⟩ := zC0_inv h
          refine y_callV (pc' := 68) (y := zmM_spellNumber) (a' := [.int v38]) (st' := []) rfl rfl rfl rfl rfl (zrecv_o (o := 10) zc_866 rfl) rfl he39 rfl rfl ?_
          refine zEx_sub ?_ h
          exact ⟨rfl, rfl, trivial⟩
noncomputable def h_M_letter_78 (d : Nat) (x1 : Int32) (x2 : Int32) (M : ZM) : Option ZR := zEx0 (zEv d) zmM_letter (78, [(0, .ref 866), (1, .int x1), (2, .int x2)], [], M)
noncomputable def h_M_letter_99 (d : Nat) (x1 : Int32) (x2 : Int32) (M : ZM) : Option ZR := zEx0 (zEv d) zmM_letter (99, [(0, .ref 866), (1, .int x1), (2, .int x2)], [], M)
theorem e_M_letter_78 {d : Nat} {x1 : Int32} {x2 : Int32} {M : ZM} {r : ZR}  (h : zC1 (zEv d zmM_cages [.ref 866] M) (fun v3 M2 => (if x2 < v3 then zC0 (zEv d zmM_spellCage [.ref 866, .int x2] M2) (fun M6 => h_M_letter_78 d x1 (x2 + (nI 1)) M6) else h_M_letter_99 d x1 (nI 0) M2)) = some r) : h_M_letter_78 d x1 x2 M = some r := by
  show zEx0 (zEv d) zmM_letter (78, [(0, .ref 866), (1, .int x1), (2, .int x2)], [], M) = some r
  refine y_pure (pc' := 79) (st' := [.int x2]) rfl rfl ?_
  refine y_pure (pc' := 80) (st' := [.ref 866, .int x2]) rfl rfl ?_
  obtain ⟨v3, M2, he1, h⟩ := zC1_inv h
  refine y_callV (pc' := 83) (y := zmM_cages) (a' := []) (st' := [.int x2]) rfl rfl rfl rfl rfl (zrecv_o (o := 10) zc_866 rfl) rfl he1 rfl rfl ?_
  rcases zif_inv h with ⟨hc4, h⟩ | ⟨hc4, h⟩
  · refine y_cmp (pc' := 86) rfl rfl (zc_geF hc4) rfl ?_
    refine y_pure (pc' := 87) (st' := [.ref 866]) rfl rfl ?_
    refine y_pure (pc' := 88) (st' := [.int x2, .ref 866]) rfl rfl ?_
    obtain ⟨M6, he5, h⟩ := zC0_inv h
    refine y_callV (pc' := 91) (y := zmM_spellCage) (a' := [.int x2]) (st' := []) rfl rfl rfl rfl rfl (zrecv_o (o := 10) zc_866 rfl) rfl he5 rfl rfl ?_
    refine y_pure (pc' := 94) (ls' := [(0, .ref 866), (1, .int x1), (2, .int (x2 + (nI 1)))]) (st' := []) rfl rfl ?_
    refine y_pure (pc' := 78) rfl rfl ?_
    refine zEx_sub ?_ h
    exact ⟨rfl, rfl, rfl, trivial⟩
  · refine y_cmp (pc' := 97) rfl rfl (zc_geT hc4) rfl ?_
    refine y_pure (pc' := 98) (st' := [.int (nI 0)]) rfl rfl ?_
    refine y_pure (pc' := 99) (ls' := [(0, .ref 866), (1, .int x1), (2, .int (nI 0))]) (st' := []) rfl rfl ?_
    refine zEx_sub ?_ h
    exact ⟨rfl, rfl, rfl, trivial⟩
theorem e_M_letter_99 {d : Nat} {x1 : Int32} {x2 : Int32} {M : ZM} {r : ZR}  (h : zC1 (zEv d zmM_cells [.ref 866] M) (fun v3 M2 => (if x2 < v3 then (if zin ((nI 76) + x2) 268 = true then (if (M2.1 867 (Int32.toNatClampNeg ((nI 76) + x2))) = (nI 0) then h_M_letter_99 d x1 (x2 + (nI 1)) M2 else zC0 (zEv d zmM_spellWord [.ref 866, .ref 5] M2) (fun M8 => zC0 (zEv d zmM_spellCell [.ref 866, .int x2] M8) (fun M10 => (if zin ((nI 40) + x2) 268 = true then zC0 (zEv d zmM_spellNumber [.ref 866, .int (M10.1 867 (Int32.toNatClampNeg ((nI 40) + x2)))] M10) (fun M13 => h_M_letter_99 d x1 (x2 + (nI 1)) M13) else none)))) else none) else (if x1 = (-1 : Int32) then some (some (.int (M2.1 866 31)), M2) else some (some (.int (M2.1 866 33)), M2)))) = some r) : h_M_letter_99 d x1 x2 M = some r := by
  show zEx0 (zEv d) zmM_letter (99, [(0, .ref 866), (1, .int x1), (2, .int x2)], [], M) = some r
  refine y_pure (pc' := 100) (st' := [.int x2]) rfl rfl ?_
  refine y_pure (pc' := 101) (st' := [.ref 866, .int x2]) rfl rfl ?_
  obtain ⟨v3, M2, he1, h⟩ := zC1_inv h
  refine y_callV (pc' := 104) (y := zmM_cells) (a' := []) (st' := [.int x2]) rfl rfl rfl rfl rfl (zrecv_o (o := 10) zc_866 rfl) rfl he1 rfl rfl ?_
  rcases zif_inv h with ⟨hc4, h⟩ | ⟨hc4, h⟩
  · refine y_cmp (pc' := 107) rfl rfl (zc_geF hc4) rfl ?_
    refine y_pure (pc' := 108) (st' := [.ref 866]) rfl rfl ?_
    refine y_getf (pc' := 111) (v := .ref 867) rfl rfl rfl zc_866 rfl rfl ?_
    refine y_pure (pc' := 113) (st' := [.int (nI 76), .ref 867]) rfl rfl ?_
    refine y_pure (pc' := 114) (st' := [.int x2, .int (nI 76), .ref 867]) rfl rfl ?_
    refine y_pure (pc' := 115) (st' := [.int ((nI 76) + x2), .ref 867]) rfl rfl ?_
    obtain ⟨hi5, h⟩ := zg_inv h
    refine y_iald (pc' := 116) rfl zc_867 hi5 rfl ?_
    rcases zif_inv h with ⟨hc6, h⟩ | ⟨hc6, h⟩
    · refine y_cnd (pc' := 119) rfl rfl (zc_neF hc6) rfl ?_
      refine y_pure (pc' := 147) rfl rfl ?_
      refine y_pure (pc' := 150) (ls' := [(0, .ref 866), (1, .int x1), (2, .int (x2 + (nI 1)))]) (st' := []) rfl rfl ?_
      refine y_pure (pc' := 99) rfl rfl ?_
      refine zEx_sub ?_ h
      exact ⟨rfl, rfl, rfl, trivial⟩
    · refine y_cnd (pc' := 122) rfl rfl (zc_neT hc6) rfl ?_
      refine y_pure (pc' := 123) (st' := [.ref 866]) rfl rfl ?_
      refine y_ldwX (pc' := 126) (q := 5) rfl rfl rfl rfl ?_
      obtain ⟨M8, he7, h⟩ := zC0_inv h
      refine y_callV (pc' := 129) (y := zmM_spellWord) (a' := [.ref 5]) (st' := []) rfl rfl rfl rfl rfl (zrecv_o (o := 10) zc_866 rfl) rfl he7 rfl rfl ?_
      refine y_pure (pc' := 130) (st' := [.ref 866]) rfl rfl ?_
      refine y_pure (pc' := 131) (st' := [.int x2, .ref 866]) rfl rfl ?_
      obtain ⟨M10, he9, h⟩ := zC0_inv h
      refine y_callV (pc' := 134) (y := zmM_spellCell) (a' := [.int x2]) (st' := []) rfl rfl rfl rfl rfl (zrecv_o (o := 10) zc_866 rfl) rfl he9 rfl rfl ?_
      refine y_pure (pc' := 135) (st' := [.ref 866]) rfl rfl ?_
      refine y_pure (pc' := 136) (st' := [.ref 866, .ref 866]) rfl rfl ?_
      refine y_getf (pc' := 139) (v := .ref 867) rfl rfl rfl zc_866 rfl rfl ?_
      refine y_pure (pc' := 141) (st' := [.int (nI 40), .ref 867, .ref 866]) rfl rfl ?_
      refine y_pure (pc' := 142) (st' := [.int x2, .int (nI 40), .ref 867, .ref 866]) rfl rfl ?_
      refine y_pure (pc' := 143) (st' := [.int ((nI 40) + x2), .ref 867, .ref 866]) rfl rfl ?_
      obtain ⟨hi11, h⟩ := zg_inv h
      refine y_iald (pc' := 144) rfl zc_867 hi11 rfl ?_
      obtain ⟨M13, he12, h⟩ := zC0_inv h
      refine y_callV (pc' := 147) (y := zmM_spellNumber) (a' := [.int (M10.1 867 (Int32.toNatClampNeg ((nI 40) + x2)))]) (st' := []) rfl rfl rfl rfl rfl (zrecv_o (o := 10) zc_866 rfl) rfl he12 rfl rfl ?_
      refine y_pure (pc' := 150) (ls' := [(0, .ref 866), (1, .int x1), (2, .int (x2 + (nI 1)))]) (st' := []) rfl rfl ?_
      refine y_pure (pc' := 99) rfl rfl ?_
      refine zEx_sub ?_ h
      exact ⟨rfl, rfl, rfl, trivial⟩
  · refine y_cmp (pc' := 153) rfl rfl (zc_geT hc4) rfl ?_
    refine y_pure (pc' := 154) (st' := [.int x1]) rfl rfl ?_
    refine y_pure (pc' := 155) (st' := [.int (-1 : Int32), .int x1]) rfl rfl ?_
    rcases zif_inv h with ⟨hc14, h⟩ | ⟨hc14, h⟩
    · refine y_cmp (pc' := 158) rfl rfl (zc_neF hc14) rfl ?_
      refine y_pure (pc' := 159) (st' := [.ref 866]) rfl rfl ?_
      refine y_getf (pc' := 162) (v := .int (M2.1 866 31)) rfl rfl rfl zc_866 rfl rfl ?_
      refine y_pure (pc' := 169) rfl rfl ?_
      exact y_ret rfl rfl rfl rfl h
    · refine y_cmp (pc' := 165) rfl rfl (zc_neT hc14) rfl ?_
      refine y_pure (pc' := 166) (st' := [.ref 866]) rfl rfl ?_
      refine y_getf (pc' := 169) (v := .int (M2.1 866 33)) rfl rfl rfl zc_866 rfl rfl ?_
      exact y_ret rfl rfl rfl rfl h
theorem e_M_letter {d : Nat} {x1 : Int32} {M : ZM} {r : ZR}  (h : (if x1 < (-1 : Int32) then some (some (.int (-1 : Int32)), M) else zC1 (zEv d zmM_isBoard [.ref 866] (zpi (zpi (zpi M 866 31 (nI 0)) 866 32 x1) 866 33 (-2 : Int32))) (fun v4 M3 => (if v4 = (nI 0) then h_M_letter_78 d x1 (nI 0) M3 else zC0 (zEv d zmM_spellWord [.ref 866, .ref 10] M3) (fun M7 => zC0 (zEv d zmM_spellNumber [.ref 866, .int (M7.1 867 0)] M7) (fun M9 => zC0 (zEv d zmM_spellNumber [.ref 866, .int (M9.1 867 1)] M9) (fun M11 => zC0 (zEv d zmM_spellWord [.ref 866, .ref 2] M11) (fun M13 => zC1 (zEv d zmM_top [.ref 866] M13) (fun v16 M15 => zC0 (zEv d zmM_spellNumber [.ref 866, .int v16] M15) (fun M18 => zC0 (zEv d zmM_spellBlocks [.ref 866] M18) (fun M20 => h_M_letter_78 d x1 (nI 0) M20)))))))))) = some r) : zEv (d + 1) zmM_letter [.ref 866, .int x1] M = some r := by
  rw [zEv_succ]
  show zEx0 (zEv d) zmM_letter (0, [(0, .ref 866), (1, .int x1)], [], M) = some r
  refine y_pure (pc' := 1) (st' := [.int x1]) rfl rfl ?_
  refine y_pure (pc' := 2) (st' := [.int (-1 : Int32), .int x1]) rfl rfl ?_
  rcases zif_inv h with ⟨hc1, h⟩ | ⟨hc1, h⟩
  · refine y_cmp (pc' := 5) rfl rfl (zc_geF hc1) rfl ?_
    refine y_pure (pc' := 6) (st' := [.int (-1 : Int32)]) rfl rfl ?_
    exact y_ret rfl rfl rfl rfl h
  · refine y_cmp (pc' := 7) rfl rfl (zc_geT hc1) rfl ?_
    refine y_pure (pc' := 8) (st' := [.ref 866]) rfl rfl ?_
    refine y_pure (pc' := 9) (st' := [.int (nI 0), .ref 866]) rfl rfl ?_
    refine y_putI (pc' := 12) rfl rfl zc_866 rfl ?_
    refine y_pure (pc' := 13) (st' := [.ref 866]) rfl rfl ?_
    refine y_pure (pc' := 14) (st' := [.int x1, .ref 866]) rfl rfl ?_
    refine y_putI (pc' := 17) rfl rfl zc_866 rfl ?_
    refine y_pure (pc' := 18) (st' := [.ref 866]) rfl rfl ?_
    refine y_pure (pc' := 20) (st' := [.int (-2 : Int32), .ref 866]) rfl rfl ?_
    refine y_putI (pc' := 23) rfl rfl zc_866 rfl ?_
    refine y_pure (pc' := 24) (st' := [.ref 866]) rfl rfl ?_
    obtain ⟨v4, M3, he2, h⟩ := zC1_inv h
    refine y_callV (pc' := 27) (y := zmM_isBoard) (a' := []) (st' := []) rfl rfl rfl rfl rfl (zrecv_o (o := 10) zc_866 rfl) rfl he2 rfl rfl ?_
    rcases zif_inv h with ⟨hc5, h⟩ | ⟨hc5, h⟩
    · refine y_cnd (pc' := 76) rfl rfl (zc_eqT hc5) rfl ?_
      refine y_pure (pc' := 77) (st' := [.int (nI 0)]) rfl rfl ?_
      refine y_pure (pc' := 78) (ls' := [(0, .ref 866), (1, .int x1), (2, .int (nI 0))]) (st' := []) rfl rfl ?_
      refine zEx_sub ?_ h
      exact ⟨rfl, rfl, rfl, trivial⟩
    · refine y_cnd (pc' := 30) rfl rfl (zc_eqF hc5) rfl ?_
      refine y_pure (pc' := 31) (st' := [.ref 866]) rfl rfl ?_
      refine y_ldwX (pc' := 34) (q := 10) rfl rfl rfl rfl ?_
      obtain ⟨M7, he6, h⟩ := zC0_inv h
      refine y_callV (pc' := 37) (y := zmM_spellWord) (a' := [.ref 10]) (st' := []) rfl rfl rfl rfl rfl (zrecv_o (o := 10) zc_866 rfl) rfl he6 rfl rfl ?_
      refine y_pure (pc' := 38) (st' := [.ref 866]) rfl rfl ?_
      refine y_pure (pc' := 39) (st' := [.ref 866, .ref 866]) rfl rfl ?_
      refine y_getf (pc' := 42) (v := .ref 867) rfl rfl rfl zc_866 rfl rfl ?_
      refine y_pure (pc' := 43) (st' := [.int (nI 0), .ref 867, .ref 866]) rfl rfl ?_
      refine y_iald (pc' := 44) rfl zc_867 (by decide) rfl ?_
      obtain ⟨M9, he8, h⟩ := zC0_inv h
      refine y_callV (pc' := 47) (y := zmM_spellNumber) (a' := [.int (M7.1 867 0)]) (st' := []) rfl rfl rfl rfl rfl (zrecv_o (o := 10) zc_866 rfl) rfl he8 rfl rfl ?_
      refine y_pure (pc' := 48) (st' := [.ref 866]) rfl rfl ?_
      refine y_pure (pc' := 49) (st' := [.ref 866, .ref 866]) rfl rfl ?_
      refine y_getf (pc' := 52) (v := .ref 867) rfl rfl rfl zc_866 rfl rfl ?_
      refine y_pure (pc' := 53) (st' := [.int (nI 1), .ref 867, .ref 866]) rfl rfl ?_
      refine y_iald (pc' := 54) rfl zc_867 (by decide) rfl ?_
      obtain ⟨M11, he10, h⟩ := zC0_inv h
      refine y_callV (pc' := 57) (y := zmM_spellNumber) (a' := [.int (M9.1 867 1)]) (st' := []) rfl rfl rfl rfl rfl (zrecv_o (o := 10) zc_866 rfl) rfl he10 rfl rfl ?_
      refine y_pure (pc' := 58) (st' := [.ref 866]) rfl rfl ?_
      refine y_ldwX (pc' := 61) (q := 2) rfl rfl rfl rfl ?_
      obtain ⟨M13, he12, h⟩ := zC0_inv h
      refine y_callV (pc' := 64) (y := zmM_spellWord) (a' := [.ref 2]) (st' := []) rfl rfl rfl rfl rfl (zrecv_o (o := 10) zc_866 rfl) rfl he12 rfl rfl ?_
      refine y_pure (pc' := 65) (st' := [.ref 866]) rfl rfl ?_
      refine y_pure (pc' := 66) (st' := [.ref 866, .ref 866]) rfl rfl ?_
      obtain ⟨v16, M15, he14, h⟩ := zC1_inv h
      refine y_callV (pc' := 69) (y := zmM_top) (a' := []) (st' := [.ref 866]) rfl rfl rfl rfl rfl (zrecv_o (o := 10) zc_866 rfl) rfl he14 rfl rfl ?_
      obtain ⟨M18, he17, h⟩ := zC0_inv h
      refine y_callV (pc' := 72) (y := zmM_spellNumber) (a' := [.int v16]) (st' := []) rfl rfl rfl rfl rfl (zrecv_o (o := 10) zc_866 rfl) rfl he17 rfl rfl ?_
      refine y_pure (pc' := 73) (st' := [.ref 866]) rfl rfl ?_
      obtain ⟨M20, he19, h⟩ := zC0_inv h
      refine y_callV (pc' := 76) (y := zmM_spellBlocks) (a' := []) (st' := []) rfl rfl rfl rfl rfl (zrecv_o (o := 10) zc_866 rfl) rfl he19 rfl rfl ?_
      refine y_pure (pc' := 77) (st' := [.int (nI 0)]) rfl rfl ?_
      refine y_pure (pc' := 78) (ls' := [(0, .ref 866), (1, .int x1), (2, .int (nI 0))]) (st' := []) rfl rfl ?_
      refine zEx_sub ?_ h
      exact ⟨rfl, rfl, rfl, trivial⟩
noncomputable def h_M_lays_3 (d : Nat) (x1 : Int32) (x2 : Int32) (M : ZM) : Option ZR := zEx0 (zEv d) zmM_lays (3, [(0, .ref 866), (1, .int x1), (2, .int x2)], [], M)
theorem e_M_lays_3 {d : Nat} {x1 : Int32} {x2 : Int32} {M : ZM} {r : ZR}  (h : (if x2 < (nI 0) then some (none, M) else (if zin (M.1 866 35) 400 = true then zL (zpi (zpi M 882 (Int32.toNatClampNeg (M.1 866 35)) (vp_nar .byte ((Int32.toInt8 (x1 >>> (x2 &&& 31))).toInt32))) 866 35 (((zpi M 882 (Int32.toNatClampNeg (M.1 866 35)) (vp_nar .byte ((Int32.toInt8 (x1 >>> (x2 &&& 31))).toInt32))).1 866 35) + (nI 1))) (fun M3 => h_M_lays_3 d x1 (x2 + (-8 : Int32)) M3) else none)) = some r) : h_M_lays_3 d x1 x2 M = some r := by
  show zEx0 (zEv d) zmM_lays (3, [(0, .ref 866), (1, .int x1), (2, .int x2)], [], M) = some r
  refine y_pure (pc' := 4) (st' := [.int x2]) rfl rfl ?_
  rcases zif_inv h with ⟨hc1, h⟩ | ⟨hc1, h⟩
  · refine y_cnd (pc' := 36) rfl rfl (zc_ltT hc1) rfl ?_
    exact y_ret rfl rfl rfl rfl h
  · refine y_cnd (pc' := 7) rfl rfl (zc_ltF hc1) rfl ?_
    refine y_pure (pc' := 8) (st' := [.ref 866]) rfl rfl ?_
    refine y_getf (pc' := 11) (v := .ref 882) rfl rfl rfl zc_866 rfl rfl ?_
    refine y_pure (pc' := 12) (st' := [.ref 866, .ref 882]) rfl rfl ?_
    refine y_getf (pc' := 15) (v := .int (M.1 866 35)) rfl rfl rfl zc_866 rfl rfl ?_
    refine y_pure (pc' := 16) (st' := [.int x1, .int (M.1 866 35), .ref 882]) rfl rfl ?_
    refine y_pure (pc' := 17) (st' := [.int x2, .int x1, .int (M.1 866 35), .ref 882]) rfl rfl ?_
    refine y_pure (pc' := 18) (st' := [.int (x1 >>> (x2 &&& 31)), .int (M.1 866 35), .ref 882]) rfl rfl ?_
    refine y_pure (pc' := 19) (st' := [.int ((Int32.toInt8 (x1 >>> (x2 &&& 31))).toInt32), .int (M.1 866 35), .ref 882]) rfl rfl ?_
    obtain ⟨hi2, h⟩ := zg_inv h
    refine y_bast (pc' := 20) rfl zc_882 hi2 rfl ?_
    refine y_pure (pc' := 21) (st' := [.ref 866]) rfl rfl ?_
    refine y_pure (pc' := 22) (st' := [.ref 866, .ref 866]) rfl rfl ?_
    refine y_getf (pc' := 25) (v := .int ((zpi M 882 (Int32.toNatClampNeg (M.1 866 35)) (vp_nar .byte ((Int32.toInt8 (x1 >>> (x2 &&& 31))).toInt32))).1 866 35)) rfl rfl rfl zc_866 rfl rfl ?_
    refine y_pure (pc' := 26) (st' := [.int (nI 1), .int ((zpi M 882 (Int32.toNatClampNeg (M.1 866 35)) (vp_nar .byte ((Int32.toInt8 (x1 >>> (x2 &&& 31))).toInt32))).1 866 35), .ref 866]) rfl rfl ?_
    refine y_pure (pc' := 27) (st' := [.int (((zpi M 882 (Int32.toNatClampNeg (M.1 866 35)) (vp_nar .byte ((Int32.toInt8 (x1 >>> (x2 &&& 31))).toInt32))).1 866 35) + (nI 1)), .ref 866]) rfl rfl ?_
    refine y_putI (pc' := 30) rfl rfl zc_866 rfl ?_
    obtain ⟨M3, e4, h⟩ := zL_inv h
    refine zM_gen e4 ?_
    refine y_pure (pc' := 33) (ls' := [(0, .ref 866), (1, .int x1), (2, .int (x2 + (-8 : Int32)))]) (st' := []) rfl rfl ?_
    refine y_pure (pc' := 3) rfl rfl ?_
    refine zEx_sub ?_ h
    exact ⟨rfl, rfl, rfl, trivial⟩
theorem e_M_lays {d : Nat} {x1 : Int32} {M : ZM} {r : ZR}  (h : h_M_lays_3 d x1 (nI 24) M = some r) : zEv (d + 1) zmM_lays [.ref 866, .int x1] M = some r := by
  rw [zEv_succ]
  show zEx0 (zEv d) zmM_lays (0, [(0, .ref 866), (1, .int x1)], [], M) = some r
  refine y_pure (pc' := 2) (st' := [.int (nI 24)]) rfl rfl ?_
  refine y_pure (pc' := 3) (ls' := [(0, .ref 866), (1, .int x1), (2, .int (nI 24))]) (st' := []) rfl rfl ?_
  refine zEx_sub ?_ h
  exact ⟨rfl, rfl, rfl, trivial⟩
theorem e_M_feed {d : Nat} {x1 : Int32} {x2 : Int32} {x3 : Int32} {x4 : Int32} {x5 : Int32} {M : ZM} {r : ZR}  (h : (if (nI 380) < (M.1 866 35) then some (some (.int (-1 : Int32)), M) else zC0 (zEv d zmM_lays [.ref 866, .int x1] M) (fun M3 => zC0 (zEv d zmM_lays [.ref 866, .int x2] M3) (fun M5 => zC0 (zEv d zmM_lays [.ref 866, .int x3] M5) (fun M7 => zC0 (zEv d zmM_lays [.ref 866, .int x4] M7) (fun M9 => zC0 (zEv d zmM_lays [.ref 866, .int x5] M9) (fun M11 => some (some (.int (M11.1 866 35)), M11))))))) = some r) : zEv (d + 1) zmM_feed [.ref 866, .int x1, .int x2, .int x3, .int x4, .int x5] M = some r := by
  rw [zEv_succ]
  show zEx0 (zEv d) zmM_feed (0, [(0, .ref 866), (1, .int x1), (2, .int x2), (3, .int x3), (4, .int x4), (5, .int x5)], [], M) = some r
  refine y_pure (pc' := 1) (st' := [.ref 866]) rfl rfl ?_
  refine y_getf (pc' := 4) (v := .int (M.1 866 35)) rfl rfl rfl zc_866 rfl rfl ?_
  refine y_pure (pc' := 7) (st' := [.int (nI 380), .int (M.1 866 35)]) rfl rfl ?_
  rcases zif_inv h with ⟨hc1, h⟩ | ⟨hc1, h⟩
  · refine y_cmp (pc' := 10) rfl rfl (zc_leF hc1) rfl ?_
    refine y_pure (pc' := 11) (st' := [.int (-1 : Int32)]) rfl rfl ?_
    exact y_ret rfl rfl rfl rfl h
  · refine y_cmp (pc' := 12) rfl rfl (zc_leT hc1) rfl ?_
    refine y_pure (pc' := 13) (st' := [.ref 866]) rfl rfl ?_
    refine y_pure (pc' := 14) (st' := [.int x1, .ref 866]) rfl rfl ?_
    obtain ⟨M3, he2, h⟩ := zC0_inv h
    refine y_callV (pc' := 17) (y := zmM_lays) (a' := [.int x1]) (st' := []) rfl rfl rfl rfl rfl (zrecv_o (o := 10) zc_866 rfl) rfl he2 rfl rfl ?_
    refine y_pure (pc' := 18) (st' := [.ref 866]) rfl rfl ?_
    refine y_pure (pc' := 19) (st' := [.int x2, .ref 866]) rfl rfl ?_
    obtain ⟨M5, he4, h⟩ := zC0_inv h
    refine y_callV (pc' := 22) (y := zmM_lays) (a' := [.int x2]) (st' := []) rfl rfl rfl rfl rfl (zrecv_o (o := 10) zc_866 rfl) rfl he4 rfl rfl ?_
    refine y_pure (pc' := 23) (st' := [.ref 866]) rfl rfl ?_
    refine y_pure (pc' := 24) (st' := [.int x3, .ref 866]) rfl rfl ?_
    obtain ⟨M7, he6, h⟩ := zC0_inv h
    refine y_callV (pc' := 27) (y := zmM_lays) (a' := [.int x3]) (st' := []) rfl rfl rfl rfl rfl (zrecv_o (o := 10) zc_866 rfl) rfl he6 rfl rfl ?_
    refine y_pure (pc' := 28) (st' := [.ref 866]) rfl rfl ?_
    refine y_pure (pc' := 30) (st' := [.int x4, .ref 866]) rfl rfl ?_
    obtain ⟨M9, he8, h⟩ := zC0_inv h
    refine y_callV (pc' := 33) (y := zmM_lays) (a' := [.int x4]) (st' := []) rfl rfl rfl rfl rfl (zrecv_o (o := 10) zc_866 rfl) rfl he8 rfl rfl ?_
    refine y_pure (pc' := 34) (st' := [.ref 866]) rfl rfl ?_
    refine y_pure (pc' := 36) (st' := [.int x5, .ref 866]) rfl rfl ?_
    obtain ⟨M11, he10, h⟩ := zC0_inv h
    refine y_callV (pc' := 39) (y := zmM_lays) (a' := [.int x5]) (st' := []) rfl rfl rfl rfl rfl (zrecv_o (o := 10) zc_866 rfl) rfl he10 rfl rfl ?_
    refine y_pure (pc' := 40) (st' := [.ref 866]) rfl rfl ?_
    refine y_getf (pc' := 43) (v := .int (M11.1 866 35)) rfl rfl rfl zc_866 rfl rfl ?_
    exact y_ret rfl rfl rfl rfl h
theorem e_M_end {d : Nat} {x1 : Int32} {M : ZM} {r : ZR}  (h : zC1 (zEv d zmM_in [.long (Int32.toInt64 x1), .long (nJ 0), .long (Int32.toInt64 (M.1 866 35))] M) (fun v3 M2 => (if v3 = (nI 0) then some (some (.int (-1 : Int32)), M2) else some (some (.int x1), (zpi M2 866 35 x1)))) = some r) : zEv (d + 1) zmM_end [.ref 866, .int x1] M = some r := by
  rw [zEv_succ]
  show zEx0 (zEv d) zmM_end (0, [(0, .ref 866), (1, .int x1)], [], M) = some r
  refine y_pure (pc' := 1) (st' := [.int x1]) rfl rfl ?_
  refine y_pure (pc' := 2) (st' := [.long (Int32.toInt64 x1)]) rfl rfl ?_
  refine y_pure (pc' := 3) (st' := [.long (nJ 0), .long (Int32.toInt64 x1)]) rfl rfl ?_
  refine y_pure (pc' := 4) (st' := [.ref 866, .long (nJ 0), .long (Int32.toInt64 x1)]) rfl rfl ?_
  refine y_getf (pc' := 7) (v := .int (M.1 866 35)) rfl rfl rfl zc_866 rfl rfl ?_
  refine y_pure (pc' := 8) (st' := [.long (Int32.toInt64 (M.1 866 35)), .long (nJ 0), .long (Int32.toInt64 x1)]) rfl rfl ?_
  obtain ⟨v3, M2, he1, h⟩ := zC1_inv h
  refine y_callS (pc' := 11) (y := zmM_in) (a := [.long (Int32.toInt64 x1), .long (nJ 0), .long (Int32.toInt64 (M.1 866 35))]) (st' := []) rfl rfl rfl rfl rfl rfl he1 rfl rfl ?_
  rcases zif_inv h with ⟨hc4, h⟩ | ⟨hc4, h⟩
  · refine y_cnd (pc' := 14) rfl rfl (zc_neF hc4) rfl ?_
    refine y_pure (pc' := 15) (st' := [.int (-1 : Int32)]) rfl rfl ?_
    exact y_ret rfl rfl rfl rfl h
  · refine y_cnd (pc' := 16) rfl rfl (zc_neT hc4) rfl ?_
    refine y_pure (pc' := 17) (st' := [.ref 866]) rfl rfl ?_
    refine y_pure (pc' := 18) (st' := [.int x1, .ref 866]) rfl rfl ?_
    refine y_putI (pc' := 21) rfl rfl zc_866 rfl ?_
    refine y_pure (pc' := 22) (st' := [.int x1]) rfl rfl ?_
    exact y_ret rfl rfl rfl rfl h
theorem e_M_byteAt {d : Nat} {x1 : Int32} {M : ZM} {r : ZR}  (h : (if x1 < (M.1 866 35) then (if zin x1 400 = true then some (some (.int ((M.1 882 (Int32.toNatClampNeg x1)) &&& (nI 255))), M) else none) else some (some (.int (-1 : Int32)), M)) = some r) : zEv (d + 1) zmM_byteAt [.ref 866, .int x1] M = some r := by
  rw [zEv_succ]
  show zEx0 (zEv d) zmM_byteAt (0, [(0, .ref 866), (1, .int x1)], [], M) = some r
  refine y_pure (pc' := 1) (st' := [.int x1]) rfl rfl ?_
  refine y_pure (pc' := 2) (st' := [.ref 866, .int x1]) rfl rfl ?_
  refine y_getf (pc' := 5) (v := .int (M.1 866 35)) rfl rfl rfl zc_866 rfl rfl ?_
  rcases zif_inv h with ⟨hc1, h⟩ | ⟨hc1, h⟩
  · refine y_cmp (pc' := 8) rfl rfl (zc_geF hc1) rfl ?_
    refine y_pure (pc' := 9) (st' := [.ref 866]) rfl rfl ?_
    refine y_getf (pc' := 12) (v := .ref 882) rfl rfl rfl zc_866 rfl rfl ?_
    refine y_pure (pc' := 13) (st' := [.int x1, .ref 882]) rfl rfl ?_
    obtain ⟨hi2, h⟩ := zg_inv h
    refine y_bald (pc' := 14) rfl zc_882 hi2 rfl ?_
    refine y_pure (pc' := 17) (st' := [.int (nI 255), .int (M.1 882 (Int32.toNatClampNeg x1))]) rfl rfl ?_
    refine y_pure (pc' := 18) (st' := [.int ((M.1 882 (Int32.toNatClampNeg x1)) &&& (nI 255))]) rfl rfl ?_
    refine y_pure (pc' := 22) rfl rfl ?_
    exact y_ret rfl rfl rfl rfl h
  · refine y_cmp (pc' := 21) rfl rfl (zc_geT hc1) rfl ?_
    refine y_pure (pc' := 22) (st' := [.int (-1 : Int32)]) rfl rfl ?_
    exact y_ret rfl rfl rfl rfl h
noncomputable def h_M_nextByte_0 (d : Nat) (M : ZM) : Option ZR := zEx0 (zEv d) zmM_nextByte (0, [(0, .ref 866)], [], M)
theorem e_M_nextByte_0 {d : Nat} {M : ZM} {r : ZR}  (h : zC1 (zEv d zmM_byteAt [.ref 866, .int (M.1 866 36)] M) (fun v3 M2 => (if v3 = (nI 32) then h_M_nextByte_0 d  (zpi M2 866 36 ((M2.1 866 36) + (nI 1))) else zC1 (zEv d zmM_byteAt [.ref 866, .int (M2.1 866 36)] M2) (fun v7 M6 => some (some (.int v7), M6)))) = some r) : h_M_nextByte_0 d M = some r := by
  show zEx0 (zEv d) zmM_nextByte (0, [(0, .ref 866)], [], M) = some r
  refine y_pure (pc' := 1) (st' := [.ref 866]) rfl rfl ?_
  refine y_pure (pc' := 2) (st' := [.ref 866, .ref 866]) rfl rfl ?_
  refine y_getf (pc' := 5) (v := .int (M.1 866 36)) rfl rfl rfl zc_866 rfl rfl ?_
  obtain ⟨v3, M2, he1, h⟩ := zC1_inv h
  refine y_callV (pc' := 8) (y := zmM_byteAt) (a' := [.int (M.1 866 36)]) (st' := []) rfl rfl rfl rfl rfl (zrecv_o (o := 10) zc_866 rfl) rfl he1 rfl rfl ?_
  refine y_pure (pc' := 10) (st' := [.int (nI 32), .int v3]) rfl rfl ?_
  rcases zif_inv h with ⟨hc4, h⟩ | ⟨hc4, h⟩
  · refine y_cmp (pc' := 13) rfl rfl (zc_neF hc4) rfl ?_
    refine y_pure (pc' := 14) (st' := [.ref 866]) rfl rfl ?_
    refine y_pure (pc' := 15) (st' := [.ref 866, .ref 866]) rfl rfl ?_
    refine y_getf (pc' := 18) (v := .int (M2.1 866 36)) rfl rfl rfl zc_866 rfl rfl ?_
    refine y_pure (pc' := 19) (st' := [.int (nI 1), .int (M2.1 866 36), .ref 866]) rfl rfl ?_
    refine y_pure (pc' := 20) (st' := [.int ((M2.1 866 36) + (nI 1)), .ref 866]) rfl rfl ?_
    refine y_putI (pc' := 23) rfl rfl zc_866 rfl ?_
    refine y_pure (pc' := 0) rfl rfl ?_
    refine zEx_sub ?_ h
    exact ⟨rfl, trivial⟩
  · refine y_cmp (pc' := 26) rfl rfl (zc_neT hc4) rfl ?_
    refine y_pure (pc' := 27) (st' := [.ref 866]) rfl rfl ?_
    refine y_pure (pc' := 28) (st' := [.ref 866, .ref 866]) rfl rfl ?_
    refine y_getf (pc' := 31) (v := .int (M2.1 866 36)) rfl rfl rfl zc_866 rfl rfl ?_
    obtain ⟨v7, M6, he5, h⟩ := zC1_inv h
    refine y_callV (pc' := 34) (y := zmM_byteAt) (a' := [.int (M2.1 866 36)]) (st' := []) rfl rfl rfl rfl rfl (zrecv_o (o := 10) zc_866 rfl) rfl he5 rfl rfl ?_
    exact y_ret rfl rfl rfl rfl h
theorem e_M_nextByte {d : Nat}  {M : ZM} {r : ZR}  (h : h_M_nextByte_0 d  M = some r) : zEv (d + 1) zmM_nextByte [.ref 866] M = some r := by
  rw [zEv_succ]
  show zEx0 (zEv d) zmM_nextByte (0, [(0, .ref 866)], [], M) = some r
  refine zEx_sub ?_ h
  exact ⟨rfl, trivial⟩
theorem e_M_fails {d : Nat} {x1 : Int32} {x2 : Int32} {M : ZM} {r : ZR}  (h : some (some (.int (nI 0)), (zpi M 866 37 (((nI 8) * x2) + x1))) = some r) : zEv (d + 1) zmM_fails [.ref 866, .int x1, .int x2] M = some r := by
  rw [zEv_succ]
  show zEx0 (zEv d) zmM_fails (0, [(0, .ref 866), (1, .int x1), (2, .int x2)], [], M) = some r
  refine y_pure (pc' := 1) (st' := [.ref 866]) rfl rfl ?_
  refine y_pure (pc' := 3) (st' := [.int (nI 8), .ref 866]) rfl rfl ?_
  refine y_pure (pc' := 4) (st' := [.int x2, .int (nI 8), .ref 866]) rfl rfl ?_
  refine y_pure (pc' := 5) (st' := [.int ((nI 8) * x2), .ref 866]) rfl rfl ?_
  refine y_pure (pc' := 6) (st' := [.int x1, .int ((nI 8) * x2), .ref 866]) rfl rfl ?_
  refine y_pure (pc' := 7) (st' := [.int (((nI 8) * x2) + x1), .ref 866]) rfl rfl ?_
  refine y_putI (pc' := 10) rfl rfl zc_866 rfl ?_
  refine y_pure (pc' := 11) (st' := [.int (nI 0)]) rfl rfl ?_
  exact y_retZ rfl rfl (by decide) h
noncomputable def h_M_isWord_22 (d : Nat) (x1 : Nat) (x2 : Int32) (x3 : Int32) (M : ZM) : Option ZR := zEx0 (zEv d) zmM_isWord (22, [(0, .ref 866), (1, .ref x1), (2, .int x2), (3, .int x3)], [], M)
noncomputable def h_M_isWord_51 (d : Nat) (x1 : Nat) (x2 : Int32) (x3 : Int32) (M : ZM) : Option ZR := zEx0 (zEv d) zmM_isWord (51, [(0, .ref 866), (1, .ref x1), (2, .int x2), (3, .int x3)], [], M)
theorem e_M_isWord_22 {d : Nat} {x1 : Nat} {w1 : Nat} {x2 : Int32} {x3 : Int32} {M : ZM} {r : ZR} (hk1 : zkd x1 = (7, w1)) (h : zC1 (zEv d zmJS_length [.ref x1] M) (fun v3 M2 => (if x3 < v3 then zC1 (zEv d zmM_byteAt [.ref 866, .int (x2 + x3)] M2) (fun v7 M6 => zC1 (zEv d zmJS_charAt [.ref x1, .int x3] M6) (fun v10 M9 => (if v7 = v10 then h_M_isWord_22 d x1 x2 (x3 + (nI 1)) M9 else h_M_isWord_51 d x1 x2 x3 M9))) else h_M_isWord_51 d x1 x2 x3 M2)) = some r) : h_M_isWord_22 d x1 x2 x3 M = some r := by
  show zEx0 (zEv d) zmM_isWord (22, [(0, .ref 866), (1, .ref x1), (2, .int x2), (3, .int x3)], [], M) = some r
  refine y_pure (pc' := 23) (st' := [.int x3]) rfl rfl ?_
  refine y_pure (pc' := 24) (st' := [.ref x1, .int x3]) rfl rfl ?_
  obtain ⟨v3, M2, he1, h⟩ := zC1_inv h
  refine y_callV (pc' := 27) (y := zmJS_length) (a' := []) (st' := [.int x3]) rfl rfl rfl rfl rfl (zrecv_s (zkt7 hk1)) rfl he1 rfl rfl ?_
  rcases zif_inv h with ⟨hc4, h⟩ | ⟨hc4, h⟩
  · refine y_cmp (pc' := 30) rfl rfl (zc_geF hc4) rfl ?_
    refine y_pure (pc' := 31) (st' := [.ref 866]) rfl rfl ?_
    refine y_pure (pc' := 32) (st' := [.int x2, .ref 866]) rfl rfl ?_
    refine y_pure (pc' := 33) (st' := [.int x3, .int x2, .ref 866]) rfl rfl ?_
    refine y_pure (pc' := 34) (st' := [.int (x2 + x3), .ref 866]) rfl rfl ?_
    obtain ⟨v7, M6, he5, h⟩ := zC1_inv h
    refine y_callV (pc' := 37) (y := zmM_byteAt) (a' := [.int (x2 + x3)]) (st' := []) rfl rfl rfl rfl rfl (zrecv_o (o := 10) zc_866 rfl) rfl he5 rfl rfl ?_
    refine y_pure (pc' := 38) (st' := [.ref x1, .int v7]) rfl rfl ?_
    refine y_pure (pc' := 39) (st' := [.int x3, .ref x1, .int v7]) rfl rfl ?_
    obtain ⟨v10, M9, he8, h⟩ := zC1_inv h
    refine y_callV (pc' := 42) (y := zmJS_charAt) (a' := [.int x3]) (st' := [.int v7]) rfl rfl rfl rfl rfl (zrecv_s (zkt7 hk1)) rfl he8 rfl rfl ?_
    rcases zif_inv h with ⟨hc11, h⟩ | ⟨hc11, h⟩
    · refine y_cmp (pc' := 45) rfl rfl (zc_neF hc11) rfl ?_
      refine y_pure (pc' := 48) (ls' := [(0, .ref 866), (1, .ref x1), (2, .int x2), (3, .int (x3 + (nI 1)))]) (st' := []) rfl rfl ?_
      refine y_pure (pc' := 22) rfl rfl ?_
      refine zEx_sub ?_ h
      exact ⟨rfl, rfl, rfl, rfl, trivial⟩
    · refine y_cmp (pc' := 51) rfl rfl (zc_neT hc11) rfl ?_
      refine zEx_sub ?_ h
      exact ⟨rfl, rfl, rfl, rfl, trivial⟩
  · refine y_cmp (pc' := 51) rfl rfl (zc_geT hc4) rfl ?_
    refine zEx_sub ?_ h
    exact ⟨rfl, rfl, rfl, rfl, trivial⟩
theorem e_M_isWord_51 {d : Nat} {x1 : Nat} {w1 : Nat} {x2 : Int32} {x3 : Int32} {M : ZM} {r : ZR} (hk1 : zkd x1 = (7, w1)) (h : zC1 (zEv d zmJS_length [.ref x1] M) (fun v3 M2 => (if x3 = v3 then zC1 (zEv d zmM_byteAt [.ref 866, .int (x2 + x3)] M2) (fun v7 M6 => zC1 (zEv d zmM_in [.long (Int32.toInt64 v7), .long (nJ 97), .long (nJ 122)] M6) (fun v10 M9 => (if v10 = (nI 0) then some (some (.int (nI 1)), M9) else some (some (.int (nI 0)), M9)))) else some (some (.int (nI 0)), M2))) = some r) : h_M_isWord_51 d x1 x2 x3 M = some r := by
  show zEx0 (zEv d) zmM_isWord (51, [(0, .ref 866), (1, .ref x1), (2, .int x2), (3, .int x3)], [], M) = some r
  refine y_pure (pc' := 52) (st' := [.int x3]) rfl rfl ?_
  refine y_pure (pc' := 53) (st' := [.ref x1, .int x3]) rfl rfl ?_
  obtain ⟨v3, M2, he1, h⟩ := zC1_inv h
  refine y_callV (pc' := 56) (y := zmJS_length) (a' := []) (st' := [.int x3]) rfl rfl rfl rfl rfl (zrecv_s (zkt7 hk1)) rfl he1 rfl rfl ?_
  rcases zif_inv h with ⟨hc4, h⟩ | ⟨hc4, h⟩
  · refine y_cmp (pc' := 59) rfl rfl (zc_neF hc4) rfl ?_
    refine y_pure (pc' := 60) (st' := [.ref 866]) rfl rfl ?_
    refine y_pure (pc' := 61) (st' := [.int x2, .ref 866]) rfl rfl ?_
    refine y_pure (pc' := 62) (st' := [.int x3, .int x2, .ref 866]) rfl rfl ?_
    refine y_pure (pc' := 63) (st' := [.int (x2 + x3), .ref 866]) rfl rfl ?_
    obtain ⟨v7, M6, he5, h⟩ := zC1_inv h
    refine y_callV (pc' := 66) (y := zmM_byteAt) (a' := [.int (x2 + x3)]) (st' := []) rfl rfl rfl rfl rfl (zrecv_o (o := 10) zc_866 rfl) rfl he5 rfl rfl ?_
    refine y_pure (pc' := 67) (st' := [.long (Int32.toInt64 v7)]) rfl rfl ?_
    refine y_pure (pc' := 70) (st' := [.long (nJ 97), .long (Int32.toInt64 v7)]) rfl rfl ?_
    refine y_pure (pc' := 73) (st' := [.long (nJ 122), .long (nJ 97), .long (Int32.toInt64 v7)]) rfl rfl ?_
    obtain ⟨v10, M9, he8, h⟩ := zC1_inv h
    refine y_callS (pc' := 76) (y := zmM_in) (a := [.long (Int32.toInt64 v7), .long (nJ 97), .long (nJ 122)]) (st' := []) rfl rfl rfl rfl rfl rfl he8 rfl rfl ?_
    rcases zif_inv h with ⟨hc11, h⟩ | ⟨hc11, h⟩
    · refine y_cnd (pc' := 79) rfl rfl (zc_neF hc11) rfl ?_
      refine y_pure (pc' := 80) (st' := [.int (nI 1)]) rfl rfl ?_
      refine y_pure (pc' := 84) rfl rfl ?_
      exact y_retZ rfl rfl (by decide) h
    · refine y_cnd (pc' := 83) rfl rfl (zc_neT hc11) rfl ?_
      refine y_pure (pc' := 84) (st' := [.int (nI 0)]) rfl rfl ?_
      exact y_retZ rfl rfl (by decide) h
  · refine y_cmp (pc' := 83) rfl rfl (zc_neT hc4) rfl ?_
    refine y_pure (pc' := 84) (st' := [.int (nI 0)]) rfl rfl ?_
    exact y_retZ rfl rfl (by decide) h
theorem e_M_isWord {d : Nat} {x1 w1 : Nat} {M : ZM} {r : ZR} (hk1 : zkd x1 = (7, w1)) (h : zC1 (zEv d zmM_nextByte [.ref 866] M) (fun v3 M2 => (if v3 = (-1 : Int32) then h_M_isWord_22 d x1 (M2.1 866 35) (nI 0) M2 else h_M_isWord_22 d x1 (M2.1 866 36) (nI 0) M2)) = some r) : zEv (d + 1) zmM_isWord [.ref 866, .ref x1] M = some r := by
  rw [zEv_succ]
  show zEx0 (zEv d) zmM_isWord (0, [(0, .ref 866), (1, .ref x1)], [], M) = some r
  refine y_pure (pc' := 1) (st' := [.ref 866]) rfl rfl ?_
  obtain ⟨v3, M2, he1, h⟩ := zC1_inv h
  refine y_callV (pc' := 4) (y := zmM_nextByte) (a' := []) (st' := []) rfl rfl rfl rfl rfl (zrecv_o (o := 10) zc_866 rfl) rfl he1 rfl rfl ?_
  refine y_pure (pc' := 5) (st' := [.int (-1 : Int32), .int v3]) rfl rfl ?_
  rcases zif_inv h with ⟨hc4, h⟩ | ⟨hc4, h⟩
  · refine y_cmp (pc' := 8) rfl rfl (zc_neF hc4) rfl ?_
    refine y_pure (pc' := 9) (st' := [.ref 866]) rfl rfl ?_
    refine y_getf (pc' := 12) (v := .int (M2.1 866 35)) rfl rfl rfl zc_866 rfl rfl ?_
    refine y_pure (pc' := 19) rfl rfl ?_
    refine y_pure (pc' := 20) (ls' := [(0, .ref 866), (1, .ref x1), (2, .int (M2.1 866 35))]) (st' := []) rfl rfl ?_
    refine y_pure (pc' := 21) (st' := [.int (nI 0)]) rfl rfl ?_
    refine y_pure (pc' := 22) (ls' := [(0, .ref 866), (1, .ref x1), (2, .int (M2.1 866 35)), (3, .int (nI 0))]) (st' := []) rfl rfl ?_
    refine zEx_sub ?_ h
    exact ⟨rfl, rfl, rfl, rfl, trivial⟩
  · refine y_cmp (pc' := 15) rfl rfl (zc_neT hc4) rfl ?_
    refine y_pure (pc' := 16) (st' := [.ref 866]) rfl rfl ?_
    refine y_getf (pc' := 19) (v := .int (M2.1 866 36)) rfl rfl rfl zc_866 rfl rfl ?_
    refine y_pure (pc' := 20) (ls' := [(0, .ref 866), (1, .ref x1), (2, .int (M2.1 866 36))]) (st' := []) rfl rfl ?_
    refine y_pure (pc' := 21) (st' := [.int (nI 0)]) rfl rfl ?_
    refine y_pure (pc' := 22) (ls' := [(0, .ref 866), (1, .ref x1), (2, .int (M2.1 866 36)), (3, .int (nI 0))]) (st' := []) rfl rfl ?_
    refine zEx_sub ?_ h
    exact ⟨rfl, rfl, rfl, rfl, trivial⟩
theorem e_M_takesWord {d : Nat} {x1 w1 : Nat} {M : ZM} {r : ZR} (hk1 : zkd x1 = (7, w1)) (h : zC1 (zEv d zmM_isWord [.ref 866, .ref x1] M) (fun v3 M2 => (if v3 = (nI 0) then (if v3 = nI 0 ∨ v3 = nI 1 then some (some (.int v3), M2) else none) else zC1 (zEv d zmJS_length [.ref x1] M2) (fun v8 M7 => (if v3 = nI 0 ∨ v3 = nI 1 then some (some (.int v3), (zpi M7 866 36 ((M2.1 866 36) + v8))) else none)))) = some r) : zEv (d + 1) zmM_takesWord [.ref 866, .ref x1] M = some r := by
  rw [zEv_succ]
  show zEx0 (zEv d) zmM_takesWord (0, [(0, .ref 866), (1, .ref x1)], [], M) = some r
  refine y_pure (pc' := 1) (st' := [.ref 866]) rfl rfl ?_
  refine y_pure (pc' := 2) (st' := [.ref x1, .ref 866]) rfl rfl ?_
  obtain ⟨v3, M2, he1, h⟩ := zC1_inv h
  refine y_callV (pc' := 5) (y := zmM_isWord) (a' := [.ref x1]) (st' := []) rfl rfl rfl rfl rfl (zrecv_o (o := 10) zc_866 rfl) rfl he1 rfl rfl ?_
  refine y_pure (pc' := 6) (ls' := [(0, .ref 866), (1, .ref x1), (2, .int v3)]) (st' := []) rfl rfl ?_
  refine y_pure (pc' := 7) (st' := [.int v3]) rfl rfl ?_
  rcases zif_inv h with ⟨hc4, h⟩ | ⟨hc4, h⟩
  · refine y_cnd (pc' := 23) rfl rfl (zc_eqT hc4) rfl ?_
    refine y_pure (pc' := 24) (st' := [.int v3]) rfl rfl ?_
    obtain ⟨hb5, h⟩ := zg_inv h
    exact y_retZ rfl rfl hb5 h
  · refine y_cnd (pc' := 10) rfl rfl (zc_eqF hc4) rfl ?_
    refine y_pure (pc' := 11) (st' := [.ref 866]) rfl rfl ?_
    refine y_pure (pc' := 12) (st' := [.ref 866, .ref 866]) rfl rfl ?_
    refine y_getf (pc' := 15) (v := .int (M2.1 866 36)) rfl rfl rfl zc_866 rfl rfl ?_
    refine y_pure (pc' := 16) (st' := [.ref x1, .int (M2.1 866 36), .ref 866]) rfl rfl ?_
    obtain ⟨v8, M7, he6, h⟩ := zC1_inv h
    refine y_callV (pc' := 19) (y := zmJS_length) (a' := []) (st' := [.int (M2.1 866 36), .ref 866]) rfl rfl rfl rfl rfl (zrecv_s (zkt7 hk1)) rfl he6 rfl rfl ?_
    refine y_pure (pc' := 20) (st' := [.int ((M2.1 866 36) + v8), .ref 866]) rfl rfl ?_
    refine y_putI (pc' := 23) rfl rfl zc_866 rfl ?_
    refine y_pure (pc' := 24) (st' := [.int v3]) rfl rfl ?_
    obtain ⟨hb9, h⟩ := zg_inv h
    exact y_retZ rfl rfl hb9 h
theorem e_M_mustWord {d : Nat} {x1 w1 : Nat} {M : ZM} {r : ZR} (hk1 : zkd x1 = (7, w1)) (h : zC1 (zEv d zmM_takesWord [.ref 866, .ref x1] M) (fun v3 M2 => (if v3 = (nI 0) then zC1 (zEv d zmM_fails [.ref 866, .int (nI 1), .int (M2.1 866 36)] M2) (fun v7 M6 => (if v7 = (nI 0) then some (some (.int (nI 0)), M6) else some (some (.int (nI 1)), M6))) else some (some (.int (nI 1)), M2))) = some r) : zEv (d + 1) zmM_mustWord [.ref 866, .ref x1] M = some r := by
  rw [zEv_succ]
  show zEx0 (zEv d) zmM_mustWord (0, [(0, .ref 866), (1, .ref x1)], [], M) = some r
  refine y_pure (pc' := 1) (st' := [.ref 866]) rfl rfl ?_
  refine y_pure (pc' := 2) (st' := [.ref x1, .ref 866]) rfl rfl ?_
  obtain ⟨v3, M2, he1, h⟩ := zC1_inv h
  refine y_callV (pc' := 5) (y := zmM_takesWord) (a' := [.ref x1]) (st' := []) rfl rfl rfl rfl rfl (zrecv_o (o := 10) zc_866 rfl) rfl he1 rfl rfl ?_
  rcases zif_inv h with ⟨hc4, h⟩ | ⟨hc4, h⟩
  · refine y_cnd (pc' := 8) rfl rfl (zc_neF hc4) rfl ?_
    refine y_pure (pc' := 9) (st' := [.ref 866]) rfl rfl ?_
    refine y_pure (pc' := 10) (st' := [.int (nI 1), .ref 866]) rfl rfl ?_
    refine y_pure (pc' := 11) (st' := [.ref 866, .int (nI 1), .ref 866]) rfl rfl ?_
    refine y_getf (pc' := 14) (v := .int (M2.1 866 36)) rfl rfl rfl zc_866 rfl rfl ?_
    obtain ⟨v7, M6, he5, h⟩ := zC1_inv h
    refine y_callV (pc' := 17) (y := zmM_fails) (a' := [.int (nI 1), .int (M2.1 866 36)]) (st' := []) rfl rfl rfl rfl rfl (zrecv_o (o := 10) zc_866 rfl) rfl he5 rfl rfl ?_
    rcases zif_inv h with ⟨hc8, h⟩ | ⟨hc8, h⟩
    · refine y_cnd (pc' := 24) rfl rfl (zc_eqT hc8) rfl ?_
      refine y_pure (pc' := 25) (st' := [.int (nI 0)]) rfl rfl ?_
      exact y_retZ rfl rfl (by decide) h
    · refine y_cnd (pc' := 20) rfl rfl (zc_eqF hc8) rfl ?_
      refine y_pure (pc' := 21) (st' := [.int (nI 1)]) rfl rfl ?_
      refine y_pure (pc' := 25) rfl rfl ?_
      exact y_retZ rfl rfl (by decide) h
  · refine y_cnd (pc' := 20) rfl rfl (zc_neT hc4) rfl ?_
    refine y_pure (pc' := 21) (st' := [.int (nI 1)]) rfl rfl ?_
    refine y_pure (pc' := 25) rfl rfl ?_
    exact y_retZ rfl rfl (by decide) h
noncomputable def h_M_readsDigits_13 (d : Nat) (x1 : Int32) (x2 : Int32) (M : ZM) : Option ZR := zEx0 (zEv d) zmM_readsDigits (13, [(0, .ref 866), (1, .int x1), (2, .int x2)], [], M)
theorem e_M_readsDigits_13 {d : Nat} {x1 : Int32} {x2 : Int32} {M : ZM} {r : ZR}  (h : zC1 (zEv d zmM_byteAt [.ref 866, .int (M.1 866 36)] M) (fun v3 M2 => zC1 (zEv d zmM_in [.long (Int32.toInt64 v3), .long (nJ 48), .long (nJ 57)] M2) (fun v6 M5 => (if v6 = (nI 0) then zC1 (zEv d zmM_in [.long (Int32.toInt64 (M5.1 866 38)), .long (Int32.toInt64 x1), .long (Int32.toInt64 x2)] M5) (fun v10 M9 => (if v10 = (nI 0) then zC1 (zEv d zmM_fails [.ref 866, .int (nI 2), .int (M9.1 866 39)] M9) (fun v14 M13 => (if v14 = (nI 0) then some (some (.int (nI 0)), M13) else some (some (.int (nI 1)), M13))) else some (some (.int (nI 1)), M9))) else (if (M5.1 866 38) < (nI 10000000) then zC1 (zEv d zmM_byteAt [.ref 866, .int (M5.1 866 36)] M5) (fun v19 M18 => zL (zpi (zpi M18 866 38 ((((nI 10) * (M5.1 866 38)) + v19) - (nI 48))) 866 36 (((zpi M18 866 38 ((((nI 10) * (M5.1 866 38)) + v19) - (nI 48))).1 866 36) + (nI 1))) (fun M20 => h_M_readsDigits_13 d x1 x2 M20)) else h_M_readsDigits_13 d x1 x2 (zpi M5 866 36 ((M5.1 866 36) + (nI 1))))))) = some r) : h_M_readsDigits_13 d x1 x2 M = some r := by
  show zEx0 (zEv d) zmM_readsDigits (13, [(0, .ref 866), (1, .int x1), (2, .int x2)], [], M) = some r
  refine y_pure (pc' := 14) (st' := [.ref 866]) rfl rfl ?_
  refine y_pure (pc' := 15) (st' := [.ref 866, .ref 866]) rfl rfl ?_
  refine y_getf (pc' := 18) (v := .int (M.1 866 36)) rfl rfl rfl zc_866 rfl rfl ?_
  obtain ⟨v3, M2, he1, h⟩ := zC1_inv h
  refine y_callV (pc' := 21) (y := zmM_byteAt) (a' := [.int (M.1 866 36)]) (st' := []) rfl rfl rfl rfl rfl (zrecv_o (o := 10) zc_866 rfl) rfl he1 rfl rfl ?_
  refine y_pure (pc' := 22) (st' := [.long (Int32.toInt64 v3)]) rfl rfl ?_
  refine y_pure (pc' := 25) (st' := [.long (nJ 48), .long (Int32.toInt64 v3)]) rfl rfl ?_
  refine y_pure (pc' := 28) (st' := [.long (nJ 57), .long (nJ 48), .long (Int32.toInt64 v3)]) rfl rfl ?_
  obtain ⟨v6, M5, he4, h⟩ := zC1_inv h
  refine y_callS (pc' := 31) (y := zmM_in) (a := [.long (Int32.toInt64 v3), .long (nJ 48), .long (nJ 57)]) (st' := []) rfl rfl rfl rfl rfl rfl he4 rfl rfl ?_
  rcases zif_inv h with ⟨hc7, h⟩ | ⟨hc7, h⟩
  · refine y_cnd (pc' := 80) rfl rfl (zc_eqT hc7) rfl ?_
    refine y_pure (pc' := 81) (st' := [.ref 866]) rfl rfl ?_
    refine y_getf (pc' := 84) (v := .int (M5.1 866 38)) rfl rfl rfl zc_866 rfl rfl ?_
    refine y_pure (pc' := 85) (st' := [.long (Int32.toInt64 (M5.1 866 38))]) rfl rfl ?_
    refine y_pure (pc' := 86) (st' := [.int x1, .long (Int32.toInt64 (M5.1 866 38))]) rfl rfl ?_
    refine y_pure (pc' := 87) (st' := [.long (Int32.toInt64 x1), .long (Int32.toInt64 (M5.1 866 38))]) rfl rfl ?_
    refine y_pure (pc' := 88) (st' := [.int x2, .long (Int32.toInt64 x1), .long (Int32.toInt64 (M5.1 866 38))]) rfl rfl ?_
    refine y_pure (pc' := 89) (st' := [.long (Int32.toInt64 x2), .long (Int32.toInt64 x1), .long (Int32.toInt64 (M5.1 866 38))]) rfl rfl ?_
    obtain ⟨v10, M9, he8, h⟩ := zC1_inv h
    refine y_callS (pc' := 92) (y := zmM_in) (a := [.long (Int32.toInt64 (M5.1 866 38)), .long (Int32.toInt64 x1), .long (Int32.toInt64 x2)]) (st' := []) rfl rfl rfl rfl rfl rfl he8 rfl rfl ?_
    rcases zif_inv h with ⟨hc11, h⟩ | ⟨hc11, h⟩
    · refine y_cnd (pc' := 95) rfl rfl (zc_neF hc11) rfl ?_
      refine y_pure (pc' := 96) (st' := [.ref 866]) rfl rfl ?_
      refine y_pure (pc' := 97) (st' := [.int (nI 2), .ref 866]) rfl rfl ?_
      refine y_pure (pc' := 98) (st' := [.ref 866, .int (nI 2), .ref 866]) rfl rfl ?_
      refine y_getf (pc' := 101) (v := .int (M9.1 866 39)) rfl rfl rfl zc_866 rfl rfl ?_
      obtain ⟨v14, M13, he12, h⟩ := zC1_inv h
      refine y_callV (pc' := 104) (y := zmM_fails) (a' := [.int (nI 2), .int (M9.1 866 39)]) (st' := []) rfl rfl rfl rfl rfl (zrecv_o (o := 10) zc_866 rfl) rfl he12 rfl rfl ?_
      rcases zif_inv h with ⟨hc15, h⟩ | ⟨hc15, h⟩
      · refine y_cnd (pc' := 111) rfl rfl (zc_eqT hc15) rfl ?_
        refine y_pure (pc' := 112) (st' := [.int (nI 0)]) rfl rfl ?_
        exact y_retZ rfl rfl (by decide) h
      · refine y_cnd (pc' := 107) rfl rfl (zc_eqF hc15) rfl ?_
        refine y_pure (pc' := 108) (st' := [.int (nI 1)]) rfl rfl ?_
        refine y_pure (pc' := 112) rfl rfl ?_
        exact y_retZ rfl rfl (by decide) h
    · refine y_cnd (pc' := 107) rfl rfl (zc_neT hc11) rfl ?_
      refine y_pure (pc' := 108) (st' := [.int (nI 1)]) rfl rfl ?_
      refine y_pure (pc' := 112) rfl rfl ?_
      exact y_retZ rfl rfl (by decide) h
  · refine y_cnd (pc' := 34) rfl rfl (zc_eqF hc7) rfl ?_
    refine y_pure (pc' := 35) (st' := [.ref 866]) rfl rfl ?_
    refine y_getf (pc' := 38) (v := .int (M5.1 866 38)) rfl rfl rfl zc_866 rfl rfl ?_
    refine y_pure (pc' := 41) (st' := [.int (nI 10000000), .int (M5.1 866 38)]) rfl rfl ?_
    rcases zif_inv h with ⟨hc16, h⟩ | ⟨hc16, h⟩
    · refine y_cmp (pc' := 44) rfl rfl (zc_geF hc16) rfl ?_
      refine y_pure (pc' := 45) (st' := [.ref 866]) rfl rfl ?_
      refine y_pure (pc' := 47) (st' := [.int (nI 10), .ref 866]) rfl rfl ?_
      refine y_pure (pc' := 48) (st' := [.ref 866, .int (nI 10), .ref 866]) rfl rfl ?_
      refine y_getf (pc' := 51) (v := .int (M5.1 866 38)) rfl rfl rfl zc_866 rfl rfl ?_
      refine y_pure (pc' := 52) (st' := [.int ((nI 10) * (M5.1 866 38)), .ref 866]) rfl rfl ?_
      refine y_pure (pc' := 53) (st' := [.ref 866, .int ((nI 10) * (M5.1 866 38)), .ref 866]) rfl rfl ?_
      refine y_pure (pc' := 54) (st' := [.ref 866, .ref 866, .int ((nI 10) * (M5.1 866 38)), .ref 866]) rfl rfl ?_
      refine y_getf (pc' := 57) (v := .int (M5.1 866 36)) rfl rfl rfl zc_866 rfl rfl ?_
      obtain ⟨v19, M18, he17, h⟩ := zC1_inv h
      refine y_callV (pc' := 60) (y := zmM_byteAt) (a' := [.int (M5.1 866 36)]) (st' := [.int ((nI 10) * (M5.1 866 38)), .ref 866]) rfl rfl rfl rfl rfl (zrecv_o (o := 10) zc_866 rfl) rfl he17 rfl rfl ?_
      refine y_pure (pc' := 61) (st' := [.int (((nI 10) * (M5.1 866 38)) + v19), .ref 866]) rfl rfl ?_
      refine y_pure (pc' := 63) (st' := [.int (nI 48), .int (((nI 10) * (M5.1 866 38)) + v19), .ref 866]) rfl rfl ?_
      refine y_pure (pc' := 64) (st' := [.int ((((nI 10) * (M5.1 866 38)) + v19) - (nI 48)), .ref 866]) rfl rfl ?_
      refine y_putI (pc' := 67) rfl rfl zc_866 rfl ?_
      refine y_pure (pc' := 68) (st' := [.ref 866]) rfl rfl ?_
      refine y_pure (pc' := 69) (st' := [.ref 866, .ref 866]) rfl rfl ?_
      refine y_getf (pc' := 72) (v := .int ((zpi M18 866 38 ((((nI 10) * (M5.1 866 38)) + v19) - (nI 48))).1 866 36)) rfl rfl rfl zc_866 rfl rfl ?_
      refine y_pure (pc' := 73) (st' := [.int (nI 1), .int ((zpi M18 866 38 ((((nI 10) * (M5.1 866 38)) + v19) - (nI 48))).1 866 36), .ref 866]) rfl rfl ?_
      refine y_pure (pc' := 74) (st' := [.int (((zpi M18 866 38 ((((nI 10) * (M5.1 866 38)) + v19) - (nI 48))).1 866 36) + (nI 1)), .ref 866]) rfl rfl ?_
      refine y_putI (pc' := 77) rfl rfl zc_866 rfl ?_
      obtain ⟨M20, e21, h⟩ := zL_inv h
      refine zM_gen e21 ?_
      refine y_pure (pc' := 13) rfl rfl ?_
      refine zEx_sub ?_ h
      exact ⟨rfl, rfl, rfl, trivial⟩
    · refine y_cmp (pc' := 67) rfl rfl (zc_geT hc16) rfl ?_
      refine y_pure (pc' := 68) (st' := [.ref 866]) rfl rfl ?_
      refine y_pure (pc' := 69) (st' := [.ref 866, .ref 866]) rfl rfl ?_
      refine y_getf (pc' := 72) (v := .int (M5.1 866 36)) rfl rfl rfl zc_866 rfl rfl ?_
      refine y_pure (pc' := 73) (st' := [.int (nI 1), .int (M5.1 866 36), .ref 866]) rfl rfl ?_
      refine y_pure (pc' := 74) (st' := [.int ((M5.1 866 36) + (nI 1)), .ref 866]) rfl rfl ?_
      refine y_putI (pc' := 77) rfl rfl zc_866 rfl ?_
      refine y_pure (pc' := 13) rfl rfl ?_
      refine zEx_sub ?_ h
      exact ⟨rfl, rfl, rfl, trivial⟩
theorem e_M_readsDigits {d : Nat} {x1 : Int32} {x2 : Int32} {M : ZM} {r : ZR}  (h : h_M_readsDigits_13 d x1 x2 (zpi (zpi M 866 39 (M.1 866 36)) 866 38 (nI 0)) = some r) : zEv (d + 1) zmM_readsDigits [.ref 866, .int x1, .int x2] M = some r := by
  rw [zEv_succ]
  show zEx0 (zEv d) zmM_readsDigits (0, [(0, .ref 866), (1, .int x1), (2, .int x2)], [], M) = some r
  refine y_pure (pc' := 1) (st' := [.ref 866]) rfl rfl ?_
  refine y_pure (pc' := 2) (st' := [.ref 866, .ref 866]) rfl rfl ?_
  refine y_getf (pc' := 5) (v := .int (M.1 866 36)) rfl rfl rfl zc_866 rfl rfl ?_
  refine y_putI (pc' := 8) rfl rfl zc_866 rfl ?_
  refine y_pure (pc' := 9) (st' := [.ref 866]) rfl rfl ?_
  refine y_pure (pc' := 10) (st' := [.int (nI 0), .ref 866]) rfl rfl ?_
  refine y_putI (pc' := 13) rfl rfl zc_866 rfl ?_
  refine zEx_sub ?_ h
  exact ⟨rfl, rfl, rfl, trivial⟩
theorem e_M_readsNumber {d : Nat} {x1 : Int32} {x2 : Int32} {M : ZM} {r : ZR}  (h : zC1 (zEv d zmM_nextByte [.ref 866] M) (fun v3 M2 => zC1 (zEv d zmM_in [.long (Int32.toInt64 v3), .long (nJ 48), .long (nJ 57)] M2) (fun v6 M5 => (if v6 = (nI 0) then zC1 (zEv d zmM_fails [.ref 866, .int (nI 1), .int (M5.1 866 36)] M5) (fun v10 M9 => (if v10 = nI 0 ∨ v10 = nI 1 then some (some (.int v10), M9) else none)) else zC1 (zEv d zmM_readsDigits [.ref 866, .int x1, .int x2] M5) (fun v14 M13 => (if v14 = nI 0 ∨ v14 = nI 1 then some (some (.int v14), M13) else none))))) = some r) : zEv (d + 1) zmM_readsNumber [.ref 866, .int x1, .int x2] M = some r := by
  rw [zEv_succ]
  show zEx0 (zEv d) zmM_readsNumber (0, [(0, .ref 866), (1, .int x1), (2, .int x2)], [], M) = some r
  refine y_pure (pc' := 1) (st' := [.ref 866]) rfl rfl ?_
  obtain ⟨v3, M2, he1, h⟩ := zC1_inv h
  refine y_callV (pc' := 4) (y := zmM_nextByte) (a' := []) (st' := []) rfl rfl rfl rfl rfl (zrecv_o (o := 10) zc_866 rfl) rfl he1 rfl rfl ?_
  refine y_pure (pc' := 5) (st' := [.long (Int32.toInt64 v3)]) rfl rfl ?_
  refine y_pure (pc' := 8) (st' := [.long (nJ 48), .long (Int32.toInt64 v3)]) rfl rfl ?_
  refine y_pure (pc' := 11) (st' := [.long (nJ 57), .long (nJ 48), .long (Int32.toInt64 v3)]) rfl rfl ?_
  obtain ⟨v6, M5, he4, h⟩ := zC1_inv h
  refine y_callS (pc' := 14) (y := zmM_in) (a := [.long (Int32.toInt64 v3), .long (nJ 48), .long (nJ 57)]) (st' := []) rfl rfl rfl rfl rfl rfl he4 rfl rfl ?_
  rcases zif_inv h with ⟨hc7, h⟩ | ⟨hc7, h⟩
  · refine y_cnd (pc' := 17) rfl rfl (zc_neF hc7) rfl ?_
    refine y_pure (pc' := 18) (st' := [.ref 866]) rfl rfl ?_
    refine y_pure (pc' := 19) (st' := [.int (nI 1), .ref 866]) rfl rfl ?_
    refine y_pure (pc' := 20) (st' := [.ref 866, .int (nI 1), .ref 866]) rfl rfl ?_
    refine y_getf (pc' := 23) (v := .int (M5.1 866 36)) rfl rfl rfl zc_866 rfl rfl ?_
    obtain ⟨v10, M9, he8, h⟩ := zC1_inv h
    refine y_callV (pc' := 26) (y := zmM_fails) (a' := [.int (nI 1), .int (M5.1 866 36)]) (st' := []) rfl rfl rfl rfl rfl (zrecv_o (o := 10) zc_866 rfl) rfl he8 rfl rfl ?_
    obtain ⟨hb11, h⟩ := zg_inv h
    exact y_retZ rfl rfl hb11 h
  · refine y_cnd (pc' := 27) rfl rfl (zc_neT hc7) rfl ?_
    refine y_pure (pc' := 28) (st' := [.ref 866]) rfl rfl ?_
    refine y_pure (pc' := 29) (st' := [.int x1, .ref 866]) rfl rfl ?_
    refine y_pure (pc' := 30) (st' := [.int x2, .int x1, .ref 866]) rfl rfl ?_
    obtain ⟨v14, M13, he12, h⟩ := zC1_inv h
    refine y_callV (pc' := 33) (y := zmM_readsDigits) (a' := [.int x1, .int x2]) (st' := []) rfl rfl rfl rfl rfl (zrecv_o (o := 10) zc_866 rfl) rfl he12 rfl rfl ?_
    obtain ⟨hb15, h⟩ := zg_inv h
    exact y_retZ rfl rfl hb15 h
theorem e_M_readsTo {d : Nat} {x1 : Int32} {x2 : Int32} {x3 : Int32} {M : ZM} {r : ZR}  (h : zC1 (zEv d zmM_readsNumber [.ref 866, .int x2, .int x3] M) (fun v3 M2 => (if v3 = (nI 0) then some (some (.int (nI 0)), M2) else (if zin x1 268 = true then some (some (.int (nI 1)), (zpi M2 883 (Int32.toNatClampNeg x1) (M2.1 866 38))) else none))) = some r) : zEv (d + 1) zmM_readsTo [.ref 866, .int x1, .int x2, .int x3] M = some r := by
  rw [zEv_succ]
  show zEx0 (zEv d) zmM_readsTo (0, [(0, .ref 866), (1, .int x1), (2, .int x2), (3, .int x3)], [], M) = some r
  refine y_pure (pc' := 1) (st' := [.ref 866]) rfl rfl ?_
  refine y_pure (pc' := 2) (st' := [.int x2, .ref 866]) rfl rfl ?_
  refine y_pure (pc' := 3) (st' := [.int x3, .int x2, .ref 866]) rfl rfl ?_
  obtain ⟨v3, M2, he1, h⟩ := zC1_inv h
  refine y_callV (pc' := 6) (y := zmM_readsNumber) (a' := [.int x2, .int x3]) (st' := []) rfl rfl rfl rfl rfl (zrecv_o (o := 10) zc_866 rfl) rfl he1 rfl rfl ?_
  rcases zif_inv h with ⟨hc4, h⟩ | ⟨hc4, h⟩
  · refine y_cnd (pc' := 9) rfl rfl (zc_neF hc4) rfl ?_
    refine y_pure (pc' := 10) (st' := [.int (nI 0)]) rfl rfl ?_
    exact y_retZ rfl rfl (by decide) h
  · refine y_cnd (pc' := 11) rfl rfl (zc_neT hc4) rfl ?_
    refine y_pure (pc' := 12) (st' := [.ref 866]) rfl rfl ?_
    refine y_getf (pc' := 15) (v := .ref 883) rfl rfl rfl zc_866 rfl rfl ?_
    refine y_pure (pc' := 16) (st' := [.int x1, .ref 883]) rfl rfl ?_
    refine y_pure (pc' := 17) (st' := [.ref 866, .int x1, .ref 883]) rfl rfl ?_
    refine y_getf (pc' := 20) (v := .int (M2.1 866 38)) rfl rfl rfl zc_866 rfl rfl ?_
    obtain ⟨hi5, h⟩ := zg_inv h
    refine y_iast (pc' := 21) rfl zc_883 hi5 rfl ?_
    refine y_pure (pc' := 22) (st' := [.int (nI 1)]) rfl rfl ?_
    exact y_retZ rfl rfl (by decide) h
theorem e_M_readsCell {d : Nat} {x1 : Int32} {M : ZM} {r : ZR}  (h : zC1 (zEv d zmM_nextByte [.ref 866] M) (fun v3 M2 => zC1 (zEv d zmM_in [.long (Int32.toInt64 v3), .long (nJ 97), .long (Int32.toInt64 (((nI 97) + (M2.1 883 0)) - (nI 1)))] M2) (fun v6 M5 => (if v6 = (nI 0) then zC1 (zEv d zmM_fails [.ref 866, .int (nI 1), .int (M5.1 866 36)] M5) (fun v10 M9 => (if v10 = nI 0 ∨ v10 = nI 1 then some (some (.int v10), M9) else none)) else zC1 (zEv d zmM_byteAt [.ref 866, .int ((zpi M5 866 36 ((M5.1 866 36) + (nI 1))).1 866 36)] (zpi M5 866 36 ((M5.1 866 36) + (nI 1)))) (fun v14 M13 => zC1 (zEv d zmM_in [.long (Int32.toInt64 v14), .long (nJ 48), .long (nJ 57)] M13) (fun v17 M16 => (if v17 = (nI 0) then zC1 (zEv d zmM_fails [.ref 866, .int (nI 1), .int (M16.1 866 36)] M16) (fun v21 M20 => (if v21 = nI 0 ∨ v21 = nI 1 then some (some (.int v21), M20) else none)) else zC1 (zEv d zmM_readsDigits [.ref 866, .int (nI 1), .int (M16.1 883 1)] M16) (fun v25 M24 => (if v25 = (nI 0) then some (some (.int (nI 0)), M24) else (if zin ((nI 4) + ((zpi M24 866 41 ((((M24.1 883 0) * ((M24.1 866 38) - (nI 1))) + v3) - (nI 97))).1 866 41)) 268 = true then (if ((zpi M24 866 41 ((((M24.1 883 0) * ((M24.1 866 38) - (nI 1))) + v3) - (nI 97))).1 883 (Int32.toNatClampNeg ((nI 4) + ((zpi M24 866 41 ((((M24.1 883 0) * ((M24.1 866 38) - (nI 1))) + v3) - (nI 97))).1 866 41)))) = (nI 1) then zC1 (zEv d zmM_fails [.ref 866, .int (nI 2), .int ((zpi M24 866 41 ((((M24.1 883 0) * ((M24.1 866 38) - (nI 1))) + v3) - (nI 97))).1 866 39)] (zpi M24 866 41 ((((M24.1 883 0) * ((M24.1 866 38) - (nI 1))) + v3) - (nI 97)))) (fun v31 M30 => (if v31 = nI 0 ∨ v31 = nI 1 then some (some (.int v31), M30) else none)) else (if x1 = (nI 0) then some (some (.int (nI 1)), (zpi M24 866 41 ((((M24.1 883 0) * ((M24.1 866 38) - (nI 1))) + v3) - (nI 97)))) else (if zin ((nI 76) + ((zpi M24 866 41 ((((M24.1 883 0) * ((M24.1 866 38) - (nI 1))) + v3) - (nI 97))).1 866 41)) 268 = true then (if ((zpi M24 866 41 ((((M24.1 883 0) * ((M24.1 866 38) - (nI 1))) + v3) - (nI 97))).1 883 (Int32.toNatClampNeg ((nI 76) + ((zpi M24 866 41 ((((M24.1 883 0) * ((M24.1 866 38) - (nI 1))) + v3) - (nI 97))).1 866 41)))) = (nI 0) then zC1 (zEv d zmM_isInCage [.ref 866] (zpi M24 866 41 ((((M24.1 883 0) * ((M24.1 866 38) - (nI 1))) + v3) - (nI 97)))) (fun v38 M37 => (if v38 = (nI 0) then some (some (.int (nI 1)), M37) else zC1 (zEv d zmM_fails [.ref 866, .int (nI 2), .int (M37.1 866 39)] M37) (fun v42 M41 => (if v42 = (nI 0) then some (some (.int (nI 0)), M41) else some (some (.int (nI 1)), M41))))) else zC1 (zEv d zmM_fails [.ref 866, .int (nI 2), .int ((zpi M24 866 41 ((((M24.1 883 0) * ((M24.1 866 38) - (nI 1))) + v3) - (nI 97))).1 866 39)] (zpi M24 866 41 ((((M24.1 883 0) * ((M24.1 866 38) - (nI 1))) + v3) - (nI 97)))) (fun v46 M45 => (if v46 = (nI 0) then some (some (.int (nI 0)), M45) else some (some (.int (nI 1)), M45)))) else none))) else none))))))))) = some r) : zEv (d + 1) zmM_readsCell [.ref 866, .int x1] M = some r := by
  rw [zEv_succ]
  show zEx0 (zEv d) zmM_readsCell (0, [(0, .ref 866), (1, .int x1)], [], M) = some r
  refine y_pure (pc' := 1) (st' := [.ref 866]) rfl rfl ?_
  obtain ⟨v3, M2, he1, h⟩ := zC1_inv h
  refine y_callV (pc' := 4) (y := zmM_nextByte) (a' := []) (st' := []) rfl rfl rfl rfl rfl (zrecv_o (o := 10) zc_866 rfl) rfl he1 rfl rfl ?_
  refine y_pure (pc' := 5) (ls' := [(0, .ref 866), (1, .int x1), (2, .int v3)]) (st' := []) rfl rfl ?_
  refine y_pure (pc' := 6) (st' := [.int v3]) rfl rfl ?_
  refine y_pure (pc' := 7) (st' := [.long (Int32.toInt64 v3)]) rfl rfl ?_
  refine y_pure (pc' := 10) (st' := [.long (nJ 97), .long (Int32.toInt64 v3)]) rfl rfl ?_
  refine y_pure (pc' := 12) (st' := [.int (nI 97), .long (nJ 97), .long (Int32.toInt64 v3)]) rfl rfl ?_
  refine y_pure (pc' := 13) (st' := [.ref 866, .int (nI 97), .long (nJ 97), .long (Int32.toInt64 v3)]) rfl rfl ?_
  refine y_getf (pc' := 16) (v := .ref 883) rfl rfl rfl zc_866 rfl rfl ?_
  refine y_pure (pc' := 17) (st' := [.int (nI 0), .ref 883, .int (nI 97), .long (nJ 97), .long (Int32.toInt64 v3)]) rfl rfl ?_
  refine y_iald (pc' := 18) rfl zc_883 (by decide) rfl ?_
  refine y_pure (pc' := 19) (st' := [.int ((nI 97) + (M2.1 883 0)), .long (nJ 97), .long (Int32.toInt64 v3)]) rfl rfl ?_
  refine y_pure (pc' := 20) (st' := [.int (nI 1), .int ((nI 97) + (M2.1 883 0)), .long (nJ 97), .long (Int32.toInt64 v3)]) rfl rfl ?_
  refine y_pure (pc' := 21) (st' := [.int (((nI 97) + (M2.1 883 0)) - (nI 1)), .long (nJ 97), .long (Int32.toInt64 v3)]) rfl rfl ?_
  refine y_pure (pc' := 22) (st' := [.long (Int32.toInt64 (((nI 97) + (M2.1 883 0)) - (nI 1))), .long (nJ 97), .long (Int32.toInt64 v3)]) rfl rfl ?_
  obtain ⟨v6, M5, he4, h⟩ := zC1_inv h
  refine y_callS (pc' := 25) (y := zmM_in) (a := [.long (Int32.toInt64 v3), .long (nJ 97), .long (Int32.toInt64 (((nI 97) + (M2.1 883 0)) - (nI 1)))]) (st' := []) rfl rfl rfl rfl rfl rfl he4 rfl rfl ?_
  rcases zif_inv h with ⟨hc7, h⟩ | ⟨hc7, h⟩
  · refine y_cnd (pc' := 28) rfl rfl (zc_neF hc7) rfl ?_
    refine y_pure (pc' := 29) (st' := [.ref 866]) rfl rfl ?_
    refine y_pure (pc' := 30) (st' := [.int (nI 1), .ref 866]) rfl rfl ?_
    refine y_pure (pc' := 31) (st' := [.ref 866, .int (nI 1), .ref 866]) rfl rfl ?_
    refine y_getf (pc' := 34) (v := .int (M5.1 866 36)) rfl rfl rfl zc_866 rfl rfl ?_
    obtain ⟨v10, M9, he8, h⟩ := zC1_inv h
    refine y_callV (pc' := 37) (y := zmM_fails) (a' := [.int (nI 1), .int (M5.1 866 36)]) (st' := []) rfl rfl rfl rfl rfl (zrecv_o (o := 10) zc_866 rfl) rfl he8 rfl rfl ?_
    obtain ⟨hb11, h⟩ := zg_inv h
    exact y_retZ rfl rfl hb11 h
  · refine y_cnd (pc' := 38) rfl rfl (zc_neT hc7) rfl ?_
    refine y_pure (pc' := 39) (st' := [.ref 866]) rfl rfl ?_
    refine y_pure (pc' := 40) (st' := [.ref 866, .ref 866]) rfl rfl ?_
    refine y_getf (pc' := 43) (v := .int (M5.1 866 36)) rfl rfl rfl zc_866 rfl rfl ?_
    refine y_pure (pc' := 44) (st' := [.int (nI 1), .int (M5.1 866 36), .ref 866]) rfl rfl ?_
    refine y_pure (pc' := 45) (st' := [.int ((M5.1 866 36) + (nI 1)), .ref 866]) rfl rfl ?_
    refine y_putI (pc' := 48) rfl rfl zc_866 rfl ?_
    refine y_pure (pc' := 49) (st' := [.ref 866]) rfl rfl ?_
    refine y_pure (pc' := 50) (st' := [.ref 866, .ref 866]) rfl rfl ?_
    refine y_getf (pc' := 53) (v := .int ((zpi M5 866 36 ((M5.1 866 36) + (nI 1))).1 866 36)) rfl rfl rfl zc_866 rfl rfl ?_
    obtain ⟨v14, M13, he12, h⟩ := zC1_inv h
    refine y_callV (pc' := 56) (y := zmM_byteAt) (a' := [.int ((zpi M5 866 36 ((M5.1 866 36) + (nI 1))).1 866 36)]) (st' := []) rfl rfl rfl rfl rfl (zrecv_o (o := 10) zc_866 rfl) rfl he12 rfl rfl ?_
    refine y_pure (pc' := 57) (st' := [.long (Int32.toInt64 v14)]) rfl rfl ?_
    refine y_pure (pc' := 60) (st' := [.long (nJ 48), .long (Int32.toInt64 v14)]) rfl rfl ?_
    refine y_pure (pc' := 63) (st' := [.long (nJ 57), .long (nJ 48), .long (Int32.toInt64 v14)]) rfl rfl ?_
    obtain ⟨v17, M16, he15, h⟩ := zC1_inv h
    refine y_callS (pc' := 66) (y := zmM_in) (a := [.long (Int32.toInt64 v14), .long (nJ 48), .long (nJ 57)]) (st' := []) rfl rfl rfl rfl rfl rfl he15 rfl rfl ?_
    rcases zif_inv h with ⟨hc18, h⟩ | ⟨hc18, h⟩
    · refine y_cnd (pc' := 69) rfl rfl (zc_neF hc18) rfl ?_
      refine y_pure (pc' := 70) (st' := [.ref 866]) rfl rfl ?_
      refine y_pure (pc' := 71) (st' := [.int (nI 1), .ref 866]) rfl rfl ?_
      refine y_pure (pc' := 72) (st' := [.ref 866, .int (nI 1), .ref 866]) rfl rfl ?_
      refine y_getf (pc' := 75) (v := .int (M16.1 866 36)) rfl rfl rfl zc_866 rfl rfl ?_
      obtain ⟨v21, M20, he19, h⟩ := zC1_inv h
      refine y_callV (pc' := 78) (y := zmM_fails) (a' := [.int (nI 1), .int (M16.1 866 36)]) (st' := []) rfl rfl rfl rfl rfl (zrecv_o (o := 10) zc_866 rfl) rfl he19 rfl rfl ?_
      obtain ⟨hb22, h⟩ := zg_inv h
      exact y_retZ rfl rfl hb22 h
    · refine y_cnd (pc' := 79) rfl rfl (zc_neT hc18) rfl ?_
      refine y_pure (pc' := 80) (st' := [.ref 866]) rfl rfl ?_
      refine y_pure (pc' := 81) (st' := [.int (nI 1), .ref 866]) rfl rfl ?_
      refine y_pure (pc' := 82) (st' := [.ref 866, .int (nI 1), .ref 866]) rfl rfl ?_
      refine y_getf (pc' := 85) (v := .ref 883) rfl rfl rfl zc_866 rfl rfl ?_
      refine y_pure (pc' := 86) (st' := [.int (nI 1), .ref 883, .int (nI 1), .ref 866]) rfl rfl ?_
      refine y_iald (pc' := 87) rfl zc_883 (by decide) rfl ?_
      obtain ⟨v25, M24, he23, h⟩ := zC1_inv h
      refine y_callV (pc' := 90) (y := zmM_readsDigits) (a' := [.int (nI 1), .int (M16.1 883 1)]) (st' := []) rfl rfl rfl rfl rfl (zrecv_o (o := 10) zc_866 rfl) rfl he23 rfl rfl ?_
      rcases zif_inv h with ⟨hc26, h⟩ | ⟨hc26, h⟩
      · refine y_cnd (pc' := 93) rfl rfl (zc_neF hc26) rfl ?_
        refine y_pure (pc' := 94) (st' := [.int (nI 0)]) rfl rfl ?_
        exact y_retZ rfl rfl (by decide) h
      · refine y_cnd (pc' := 95) rfl rfl (zc_neT hc26) rfl ?_
        refine y_pure (pc' := 96) (st' := [.ref 866]) rfl rfl ?_
        refine y_pure (pc' := 97) (st' := [.ref 866, .ref 866]) rfl rfl ?_
        refine y_getf (pc' := 100) (v := .ref 883) rfl rfl rfl zc_866 rfl rfl ?_
        refine y_pure (pc' := 101) (st' := [.int (nI 0), .ref 883, .ref 866]) rfl rfl ?_
        refine y_iald (pc' := 102) rfl zc_883 (by decide) rfl ?_
        refine y_pure (pc' := 103) (st' := [.ref 866, .int (M24.1 883 0), .ref 866]) rfl rfl ?_
        refine y_getf (pc' := 106) (v := .int (M24.1 866 38)) rfl rfl rfl zc_866 rfl rfl ?_
        refine y_pure (pc' := 107) (st' := [.int (nI 1), .int (M24.1 866 38), .int (M24.1 883 0), .ref 866]) rfl rfl ?_
        refine y_pure (pc' := 108) (st' := [.int ((M24.1 866 38) - (nI 1)), .int (M24.1 883 0), .ref 866]) rfl rfl ?_
        refine y_pure (pc' := 109) (st' := [.int ((M24.1 883 0) * ((M24.1 866 38) - (nI 1))), .ref 866]) rfl rfl ?_
        refine y_pure (pc' := 110) (st' := [.int v3, .int ((M24.1 883 0) * ((M24.1 866 38) - (nI 1))), .ref 866]) rfl rfl ?_
        refine y_pure (pc' := 111) (st' := [.int (((M24.1 883 0) * ((M24.1 866 38) - (nI 1))) + v3), .ref 866]) rfl rfl ?_
        refine y_pure (pc' := 113) (st' := [.int (nI 97), .int (((M24.1 883 0) * ((M24.1 866 38) - (nI 1))) + v3), .ref 866]) rfl rfl ?_
        refine y_pure (pc' := 114) (st' := [.int ((((M24.1 883 0) * ((M24.1 866 38) - (nI 1))) + v3) - (nI 97)), .ref 866]) rfl rfl ?_
        refine y_putI (pc' := 117) rfl rfl zc_866 rfl ?_
        refine y_pure (pc' := 118) (st' := [.ref 866]) rfl rfl ?_
        refine y_getf (pc' := 121) (v := .ref 883) rfl rfl rfl zc_866 rfl rfl ?_
        refine y_pure (pc' := 122) (st' := [.int (nI 4), .ref 883]) rfl rfl ?_
        refine y_pure (pc' := 123) (st' := [.ref 866, .int (nI 4), .ref 883]) rfl rfl ?_
        refine y_getf (pc' := 126) (v := .int ((zpi M24 866 41 ((((M24.1 883 0) * ((M24.1 866 38) - (nI 1))) + v3) - (nI 97))).1 866 41)) rfl rfl rfl zc_866 rfl rfl ?_
        refine y_pure (pc' := 127) (st' := [.int ((nI 4) + ((zpi M24 866 41 ((((M24.1 883 0) * ((M24.1 866 38) - (nI 1))) + v3) - (nI 97))).1 866 41)), .ref 883]) rfl rfl ?_
        obtain ⟨hi27, h⟩ := zg_inv h
        refine y_iald (pc' := 128) rfl zc_883 hi27 rfl ?_
        refine y_pure (pc' := 129) (st' := [.int (nI 1), .int ((zpi M24 866 41 ((((M24.1 883 0) * ((M24.1 866 38) - (nI 1))) + v3) - (nI 97))).1 883 (Int32.toNatClampNeg ((nI 4) + ((zpi M24 866 41 ((((M24.1 883 0) * ((M24.1 866 38) - (nI 1))) + v3) - (nI 97))).1 866 41))))]) rfl rfl ?_
        rcases zif_inv h with ⟨hc28, h⟩ | ⟨hc28, h⟩
        · refine y_cmp (pc' := 132) rfl rfl (zc_neF hc28) rfl ?_
          refine y_pure (pc' := 133) (st' := [.ref 866]) rfl rfl ?_
          refine y_pure (pc' := 134) (st' := [.int (nI 2), .ref 866]) rfl rfl ?_
          refine y_pure (pc' := 135) (st' := [.ref 866, .int (nI 2), .ref 866]) rfl rfl ?_
          refine y_getf (pc' := 138) (v := .int ((zpi M24 866 41 ((((M24.1 883 0) * ((M24.1 866 38) - (nI 1))) + v3) - (nI 97))).1 866 39)) rfl rfl rfl zc_866 rfl rfl ?_
          obtain ⟨v31, M30, he29, h⟩ := zC1_inv h
          refine y_callV (pc' := 141) (y := zmM_fails) (a' := [.int (nI 2), .int ((zpi M24 866 41 ((((M24.1 883 0) * ((M24.1 866 38) - (nI 1))) + v3) - (nI 97))).1 866 39)]) (st' := []) rfl rfl rfl rfl rfl (zrecv_o (o := 10) zc_866 rfl) rfl he29 rfl rfl ?_
          obtain ⟨hb32, h⟩ := zg_inv h
          exact y_retZ rfl rfl hb32 h
        · refine y_cmp (pc' := 142) rfl rfl (zc_neT hc28) rfl ?_
          refine y_pure (pc' := 143) (st' := [.int x1]) rfl rfl ?_
          rcases zif_inv h with ⟨hc33, h⟩ | ⟨hc33, h⟩
          · refine y_cnd (pc' := 180) rfl rfl (zc_eqT hc33) rfl ?_
            refine y_pure (pc' := 181) (st' := [.int (nI 1)]) rfl rfl ?_
            refine y_pure (pc' := 185) rfl rfl ?_
            exact y_retZ rfl rfl (by decide) h
          · refine y_cnd (pc' := 146) rfl rfl (zc_eqF hc33) rfl ?_
            refine y_pure (pc' := 147) (st' := [.ref 866]) rfl rfl ?_
            refine y_getf (pc' := 150) (v := .ref 883) rfl rfl rfl zc_866 rfl rfl ?_
            refine y_pure (pc' := 152) (st' := [.int (nI 76), .ref 883]) rfl rfl ?_
            refine y_pure (pc' := 153) (st' := [.ref 866, .int (nI 76), .ref 883]) rfl rfl ?_
            refine y_getf (pc' := 156) (v := .int ((zpi M24 866 41 ((((M24.1 883 0) * ((M24.1 866 38) - (nI 1))) + v3) - (nI 97))).1 866 41)) rfl rfl rfl zc_866 rfl rfl ?_
            refine y_pure (pc' := 157) (st' := [.int ((nI 76) + ((zpi M24 866 41 ((((M24.1 883 0) * ((M24.1 866 38) - (nI 1))) + v3) - (nI 97))).1 866 41)), .ref 883]) rfl rfl ?_
            obtain ⟨hi34, h⟩ := zg_inv h
            refine y_iald (pc' := 158) rfl zc_883 hi34 rfl ?_
            rcases zif_inv h with ⟨hc35, h⟩ | ⟨hc35, h⟩
            · refine y_cnd (pc' := 161) rfl rfl (zc_neF hc35) rfl ?_
              refine y_pure (pc' := 162) (st' := [.ref 866]) rfl rfl ?_
              obtain ⟨v38, M37, he36, h⟩ := zC1_inv h
              refine y_callV (pc' := 165) (y := zmM_isInCage) (a' := []) (st' := []) rfl rfl rfl rfl rfl (zrecv_o (o := 10) zc_866 rfl) rfl he36 rfl rfl ?_
              rcases zif_inv h with ⟨hc39, h⟩ | ⟨hc39, h⟩
              · refine y_cnd (pc' := 180) rfl rfl (zc_eqT hc39) rfl ?_
                refine y_pure (pc' := 181) (st' := [.int (nI 1)]) rfl rfl ?_
                refine y_pure (pc' := 185) rfl rfl ?_
                exact y_retZ rfl rfl (by decide) h
              · refine y_cnd (pc' := 168) rfl rfl (zc_eqF hc39) rfl ?_
                refine y_pure (pc' := 169) (st' := [.ref 866]) rfl rfl ?_
                refine y_pure (pc' := 170) (st' := [.int (nI 2), .ref 866]) rfl rfl ?_
                refine y_pure (pc' := 171) (st' := [.ref 866, .int (nI 2), .ref 866]) rfl rfl ?_
                refine y_getf (pc' := 174) (v := .int (M37.1 866 39)) rfl rfl rfl zc_866 rfl rfl ?_
                obtain ⟨v42, M41, he40, h⟩ := zC1_inv h
                refine y_callV (pc' := 177) (y := zmM_fails) (a' := [.int (nI 2), .int (M37.1 866 39)]) (st' := []) rfl rfl rfl rfl rfl (zrecv_o (o := 10) zc_866 rfl) rfl he40 rfl rfl ?_
                rcases zif_inv h with ⟨hc43, h⟩ | ⟨hc43, h⟩
                · refine y_cnd (pc' := 184) rfl rfl (zc_eqT hc43) rfl ?_
                  refine y_pure (pc' := 185) (st' := [.int (nI 0)]) rfl rfl ?_
                  exact y_retZ rfl rfl (by decide) h
                · refine y_cnd (pc' := 180) rfl rfl (zc_eqF hc43) rfl ?_
                  refine y_pure (pc' := 181) (st' := [.int (nI 1)]) rfl rfl ?_
                  refine y_pure (pc' := 185) rfl rfl ?_
                  exact y_retZ rfl rfl (by decide) h
            · refine y_cnd (pc' := 168) rfl rfl (zc_neT hc35) rfl ?_
              refine y_pure (pc' := 169) (st' := [.ref 866]) rfl rfl ?_
              refine y_pure (pc' := 170) (st' := [.int (nI 2), .ref 866]) rfl rfl ?_
              refine y_pure (pc' := 171) (st' := [.ref 866, .int (nI 2), .ref 866]) rfl rfl ?_
              refine y_getf (pc' := 174) (v := .int ((zpi M24 866 41 ((((M24.1 883 0) * ((M24.1 866 38) - (nI 1))) + v3) - (nI 97))).1 866 39)) rfl rfl rfl zc_866 rfl rfl ?_
              obtain ⟨v46, M45, he44, h⟩ := zC1_inv h
              refine y_callV (pc' := 177) (y := zmM_fails) (a' := [.int (nI 2), .int ((zpi M24 866 41 ((((M24.1 883 0) * ((M24.1 866 38) - (nI 1))) + v3) - (nI 97))).1 866 39)]) (st' := []) rfl rfl rfl rfl rfl (zrecv_o (o := 10) zc_866 rfl) rfl he44 rfl rfl ?_
              rcases zif_inv h with ⟨hc47, h⟩ | ⟨hc47, h⟩
              · refine y_cnd (pc' := 184) rfl rfl (zc_eqT hc47) rfl ?_
                refine y_pure (pc' := 185) (st' := [.int (nI 0)]) rfl rfl ?_
                exact y_retZ rfl rfl (by decide) h
              · refine y_cnd (pc' := 180) rfl rfl (zc_eqF hc47) rfl ?_
                refine y_pure (pc' := 181) (st' := [.int (nI 1)]) rfl rfl ?_
                refine y_pure (pc' := 185) rfl rfl ?_
                exact y_retZ rfl rfl (by decide) h
noncomputable def h_M_isInCage_2 (d : Nat) (x1 : Int32) (M : ZM) : Option ZR := zEx0 (zEv d) zmM_isInCage (2, [(0, .ref 866), (1, .int x1)], [], M)
noncomputable def h_M_isInCage_14 (d : Nat) (x1 : Int32) (x2 : Int32) (M : ZM) : Option ZR := zEx0 (zEv d) zmM_isInCage (14, [(0, .ref 866), (1, .int x1), (2, .int x2)], [], M)
theorem e_M_isInCage_2 {d : Nat} {x1 : Int32} {M : ZM} {r : ZR}  (h : (if x1 < (M.1 883 3) then h_M_isInCage_14 d x1 (nI 0) M else some (some (.int (nI 0)), M)) = some r) : h_M_isInCage_2 d x1 M = some r := by
  show zEx0 (zEv d) zmM_isInCage (2, [(0, .ref 866), (1, .int x1)], [], M) = some r
  refine y_pure (pc' := 3) (st' := [.int x1]) rfl rfl ?_
  refine y_pure (pc' := 4) (st' := [.ref 866, .int x1]) rfl rfl ?_
  refine y_getf (pc' := 7) (v := .ref 883) rfl rfl rfl zc_866 rfl rfl ?_
  refine y_pure (pc' := 8) (st' := [.int (nI 3), .ref 883, .int x1]) rfl rfl ?_
  refine y_iald (pc' := 9) rfl zc_883 (by decide) rfl ?_
  rcases zif_inv h with ⟨hc1, h⟩ | ⟨hc1, h⟩
  · refine y_cmp (pc' := 12) rfl rfl (zc_geF hc1) rfl ?_
    refine y_pure (pc' := 13) (st' := [.int (nI 0)]) rfl rfl ?_
    refine y_pure (pc' := 14) (ls' := [(0, .ref 866), (1, .int x1), (2, .int (nI 0))]) (st' := []) rfl rfl ?_
    refine zEx_sub ?_ h
    exact ⟨rfl, rfl, rfl, trivial⟩
  · refine y_cmp (pc' := 71) rfl rfl (zc_geT hc1) rfl ?_
    refine y_pure (pc' := 72) (st' := [.int (nI 0)]) rfl rfl ?_
    exact y_retZ rfl rfl (by decide) h
theorem e_M_isInCage_14 {d : Nat} {x1 : Int32} {x2 : Int32} {M : ZM} {r : ZR}  (h : (if zin (((nI 148) + ((nI 10) * x1)) + (nI 3)) 268 = true then (if x2 < (M.1 883 (Int32.toNatClampNeg (((nI 148) + ((nI 10) * x1)) + (nI 3)))) then (if zin ((((nI 148) + ((nI 10) * x1)) + (nI 4)) + x2) 268 = true then (if (M.1 883 (Int32.toNatClampNeg ((((nI 148) + ((nI 10) * x1)) + (nI 4)) + x2))) = (M.1 866 41) then some (some (.int (nI 1)), M) else h_M_isInCage_14 d x1 (x2 + (nI 1)) M) else none) else h_M_isInCage_2 d (x1 + (nI 1)) M) else none) = some r) : h_M_isInCage_14 d x1 x2 M = some r := by
  show zEx0 (zEv d) zmM_isInCage (14, [(0, .ref 866), (1, .int x1), (2, .int x2)], [], M) = some r
  refine y_pure (pc' := 15) (st' := [.int x2]) rfl rfl ?_
  refine y_pure (pc' := 16) (st' := [.ref 866, .int x2]) rfl rfl ?_
  refine y_getf (pc' := 19) (v := .ref 883) rfl rfl rfl zc_866 rfl rfl ?_
  refine y_pure (pc' := 22) (st' := [.int (nI 148), .ref 883, .int x2]) rfl rfl ?_
  refine y_pure (pc' := 24) (st' := [.int (nI 10), .int (nI 148), .ref 883, .int x2]) rfl rfl ?_
  refine y_pure (pc' := 25) (st' := [.int x1, .int (nI 10), .int (nI 148), .ref 883, .int x2]) rfl rfl ?_
  refine y_pure (pc' := 26) (st' := [.int ((nI 10) * x1), .int (nI 148), .ref 883, .int x2]) rfl rfl ?_
  refine y_pure (pc' := 27) (st' := [.int ((nI 148) + ((nI 10) * x1)), .ref 883, .int x2]) rfl rfl ?_
  refine y_pure (pc' := 28) (st' := [.int (nI 3), .int ((nI 148) + ((nI 10) * x1)), .ref 883, .int x2]) rfl rfl ?_
  refine y_pure (pc' := 29) (st' := [.int (((nI 148) + ((nI 10) * x1)) + (nI 3)), .ref 883, .int x2]) rfl rfl ?_
  obtain ⟨hi1, h⟩ := zg_inv h
  refine y_iald (pc' := 30) rfl zc_883 hi1 rfl ?_
  rcases zif_inv h with ⟨hc2, h⟩ | ⟨hc2, h⟩
  · refine y_cmp (pc' := 33) rfl rfl (zc_geF hc2) rfl ?_
    refine y_pure (pc' := 34) (st' := [.ref 866]) rfl rfl ?_
    refine y_getf (pc' := 37) (v := .ref 883) rfl rfl rfl zc_866 rfl rfl ?_
    refine y_pure (pc' := 40) (st' := [.int (nI 148), .ref 883]) rfl rfl ?_
    refine y_pure (pc' := 42) (st' := [.int (nI 10), .int (nI 148), .ref 883]) rfl rfl ?_
    refine y_pure (pc' := 43) (st' := [.int x1, .int (nI 10), .int (nI 148), .ref 883]) rfl rfl ?_
    refine y_pure (pc' := 44) (st' := [.int ((nI 10) * x1), .int (nI 148), .ref 883]) rfl rfl ?_
    refine y_pure (pc' := 45) (st' := [.int ((nI 148) + ((nI 10) * x1)), .ref 883]) rfl rfl ?_
    refine y_pure (pc' := 46) (st' := [.int (nI 4), .int ((nI 148) + ((nI 10) * x1)), .ref 883]) rfl rfl ?_
    refine y_pure (pc' := 47) (st' := [.int (((nI 148) + ((nI 10) * x1)) + (nI 4)), .ref 883]) rfl rfl ?_
    refine y_pure (pc' := 48) (st' := [.int x2, .int (((nI 148) + ((nI 10) * x1)) + (nI 4)), .ref 883]) rfl rfl ?_
    refine y_pure (pc' := 49) (st' := [.int ((((nI 148) + ((nI 10) * x1)) + (nI 4)) + x2), .ref 883]) rfl rfl ?_
    obtain ⟨hi3, h⟩ := zg_inv h
    refine y_iald (pc' := 50) rfl zc_883 hi3 rfl ?_
    refine y_pure (pc' := 51) (st' := [.ref 866, .int (M.1 883 (Int32.toNatClampNeg ((((nI 148) + ((nI 10) * x1)) + (nI 4)) + x2)))]) rfl rfl ?_
    refine y_getf (pc' := 54) (v := .int (M.1 866 41)) rfl rfl rfl zc_866 rfl rfl ?_
    rcases zif_inv h with ⟨hc4, h⟩ | ⟨hc4, h⟩
    · refine y_cmp (pc' := 57) rfl rfl (zc_neF hc4) rfl ?_
      refine y_pure (pc' := 58) (st' := [.int (nI 1)]) rfl rfl ?_
      exact y_retZ rfl rfl (by decide) h
    · refine y_cmp (pc' := 59) rfl rfl (zc_neT hc4) rfl ?_
      refine y_pure (pc' := 62) (ls' := [(0, .ref 866), (1, .int x1), (2, .int (x2 + (nI 1)))]) (st' := []) rfl rfl ?_
      refine y_pure (pc' := 14) rfl rfl ?_
      refine zEx_sub ?_ h
      exact ⟨rfl, rfl, rfl, trivial⟩
  · refine y_cmp (pc' := 65) rfl rfl (zc_geT hc2) rfl ?_
    refine y_pure (pc' := 68) (ls' := [(0, .ref 866), (1, .int (x1 + (nI 1))), (2, .int x2)]) (st' := []) rfl rfl ?_
    refine y_pure (pc' := 2) rfl rfl ?_
    refine zEx_sub ?_ h
    exact ⟨rfl, rfl, trivial⟩
theorem e_M_isInCage {d : Nat}  {M : ZM} {r : ZR}  (h : h_M_isInCage_2 d (nI 0) M = some r) : zEv (d + 1) zmM_isInCage [.ref 866] M = some r := by
  rw [zEv_succ]
  show zEx0 (zEv d) zmM_isInCage (0, [(0, .ref 866)], [], M) = some r
  refine y_pure (pc' := 1) (st' := [.int (nI 0)]) rfl rfl ?_
  refine y_pure (pc' := 2) (ls' := [(0, .ref 866), (1, .int (nI 0))]) (st' := []) rfl rfl ?_
  refine zEx_sub ?_ h
  exact ⟨rfl, rfl, trivial⟩
theorem e_M_isLetterNext {d : Nat}  {M : ZM} {r : ZR}  (h : zC1 (zEv d zmM_nextByte [.ref 866] M) (fun v3 M2 => zC1 (zEv d zmM_in [.long (Int32.toInt64 v3), .long (nJ 97), .long (nJ 122)] M2) (fun v6 M5 => (if v6 = nI 0 ∨ v6 = nI 1 then some (some (.int v6), M5) else none))) = some r) : zEv (d + 1) zmM_isLetterNext [.ref 866] M = some r := by
  rw [zEv_succ]
  show zEx0 (zEv d) zmM_isLetterNext (0, [(0, .ref 866)], [], M) = some r
  refine y_pure (pc' := 1) (st' := [.ref 866]) rfl rfl ?_
  obtain ⟨v3, M2, he1, h⟩ := zC1_inv h
  refine y_callV (pc' := 4) (y := zmM_nextByte) (a' := []) (st' := []) rfl rfl rfl rfl rfl (zrecv_o (o := 10) zc_866 rfl) rfl he1 rfl rfl ?_
  refine y_pure (pc' := 5) (st' := [.long (Int32.toInt64 v3)]) rfl rfl ?_
  refine y_pure (pc' := 8) (st' := [.long (nJ 97), .long (Int32.toInt64 v3)]) rfl rfl ?_
  refine y_pure (pc' := 11) (st' := [.long (nJ 122), .long (nJ 97), .long (Int32.toInt64 v3)]) rfl rfl ?_
  obtain ⟨v6, M5, he4, h⟩ := zC1_inv h
  refine y_callS (pc' := 14) (y := zmM_in) (a := [.long (Int32.toInt64 v3), .long (nJ 97), .long (nJ 122)]) (st' := []) rfl rfl rfl rfl rfl rfl he4 rfl rfl ?_
  obtain ⟨hb7, h⟩ := zg_inv h
  exact y_retZ rfl rfl hb7 h
noncomputable def h_M_readsBlock_0 (d : Nat) (M : ZM) : Option ZR := zEx0 (zEv d) zmM_readsBlock (0, [(0, .ref 866)], [], M)
theorem e_M_readsBlock_0 {d : Nat} {M : ZM} {r : ZR}  (h : zC1 (zEv d zmM_readsCell [.ref 866, .int (nI 1)] M) (fun v3 M2 => (if v3 = (nI 0) then some (some (.int (nI 0)), M2) else (if zin ((nI 4) + (M2.1 866 41)) 268 = true then zC1 (zEv d zmM_isLetterNext [.ref 866] (zpi M2 883 (Int32.toNatClampNeg ((nI 4) + (M2.1 866 41))) (nI 1))) (fun v8 M7 => (if v8 = (nI 0) then some (some (.int (nI 1)), M7) else h_M_readsBlock_0 d  M7)) else none))) = some r) : h_M_readsBlock_0 d M = some r := by
  show zEx0 (zEv d) zmM_readsBlock (0, [(0, .ref 866)], [], M) = some r
  refine y_pure (pc' := 1) (st' := [.ref 866]) rfl rfl ?_
  refine y_pure (pc' := 2) (st' := [.int (nI 1), .ref 866]) rfl rfl ?_
  obtain ⟨v3, M2, he1, h⟩ := zC1_inv h
  refine y_callV (pc' := 5) (y := zmM_readsCell) (a' := [.int (nI 1)]) (st' := []) rfl rfl rfl rfl rfl (zrecv_o (o := 10) zc_866 rfl) rfl he1 rfl rfl ?_
  rcases zif_inv h with ⟨hc4, h⟩ | ⟨hc4, h⟩
  · refine y_cnd (pc' := 8) rfl rfl (zc_neF hc4) rfl ?_
    refine y_pure (pc' := 9) (st' := [.int (nI 0)]) rfl rfl ?_
    exact y_retZ rfl rfl (by decide) h
  · refine y_cnd (pc' := 10) rfl rfl (zc_neT hc4) rfl ?_
    refine y_pure (pc' := 11) (st' := [.ref 866]) rfl rfl ?_
    refine y_getf (pc' := 14) (v := .ref 883) rfl rfl rfl zc_866 rfl rfl ?_
    refine y_pure (pc' := 15) (st' := [.int (nI 4), .ref 883]) rfl rfl ?_
    refine y_pure (pc' := 16) (st' := [.ref 866, .int (nI 4), .ref 883]) rfl rfl ?_
    refine y_getf (pc' := 19) (v := .int (M2.1 866 41)) rfl rfl rfl zc_866 rfl rfl ?_
    refine y_pure (pc' := 20) (st' := [.int ((nI 4) + (M2.1 866 41)), .ref 883]) rfl rfl ?_
    refine y_pure (pc' := 21) (st' := [.int (nI 1), .int ((nI 4) + (M2.1 866 41)), .ref 883]) rfl rfl ?_
    obtain ⟨hi5, h⟩ := zg_inv h
    refine y_iast (pc' := 22) rfl zc_883 hi5 rfl ?_
    refine y_pure (pc' := 23) (st' := [.ref 866]) rfl rfl ?_
    obtain ⟨v8, M7, he6, h⟩ := zC1_inv h
    refine y_callV (pc' := 26) (y := zmM_isLetterNext) (a' := []) (st' := []) rfl rfl rfl rfl rfl (zrecv_o (o := 10) zc_866 rfl) rfl he6 rfl rfl ?_
    rcases zif_inv h with ⟨hc9, h⟩ | ⟨hc9, h⟩
    · refine y_cnd (pc' := 29) rfl rfl (zc_neF hc9) rfl ?_
      refine y_pure (pc' := 30) (st' := [.int (nI 1)]) rfl rfl ?_
      exact y_retZ rfl rfl (by decide) h
    · refine y_cnd (pc' := 0) rfl rfl (zc_neT hc9) rfl ?_
      refine zEx_sub ?_ h
      exact ⟨rfl, trivial⟩
theorem e_M_readsBlock {d : Nat}  {M : ZM} {r : ZR}  (h : h_M_readsBlock_0 d  M = some r) : zEv (d + 1) zmM_readsBlock [.ref 866] M = some r := by
  rw [zEv_succ]
  show zEx0 (zEv d) zmM_readsBlock (0, [(0, .ref 866)], [], M) = some r
  refine zEx_sub ?_ h
  exact ⟨rfl, trivial⟩
noncomputable def h_M_readsTotal_23 (d : Nat) (x1 : Int32) (x2 : Int32) (M : ZM) : Option ZR := zEx0 (zEv d) zmM_readsTotal (23, [(0, .ref 866), (1, .int x1), (2, .int x2)], [], M)
theorem e_M_readsTotal_23 {d : Nat} {x1 : Int32} {x2 : Int32} {M : ZM} {r : ZR}  (h : (if x2 < (nI 3) then (if x2 = (nI 0) then zC1 (zEv d zmM_takesWord [.ref 866, .ref 16] M) (fun v5 M4 => (if v5 = (nI 0) then h_M_readsTotal_23 d x1 (x2 + (nI 1)) M4 else (if zin (x1 + (nI 0)) 268 = true then zC1 (zEv d zmM_mostOf [.int x2] (zpi M4 883 (Int32.toNatClampNeg (x1 + (nI 0))) x2)) (fun v10 M9 => zC1 (zEv d zmM_readsTo [.ref 866, .int (x1 + (nI 1)), .int (nI 0), .int v10] M9) (fun v13 M12 => (if v13 = nI 0 ∨ v13 = nI 1 then some (some (.int v13), M12) else none))) else none))) else (if x2 = (nI 1) then zC1 (zEv d zmM_takesWord [.ref 866, .ref 14] M) (fun v18 M17 => (if v18 = (nI 0) then h_M_readsTotal_23 d x1 (x2 + (nI 1)) M17 else (if zin (x1 + (nI 0)) 268 = true then zC1 (zEv d zmM_mostOf [.int x2] (zpi M17 883 (Int32.toNatClampNeg (x1 + (nI 0))) x2)) (fun v23 M22 => zC1 (zEv d zmM_readsTo [.ref 866, .int (x1 + (nI 1)), .int (nI 0), .int v23] M22) (fun v26 M25 => (if v26 = nI 0 ∨ v26 = nI 1 then some (some (.int v26), M25) else none))) else none))) else zC1 (zEv d zmM_takesWord [.ref 866, .ref 15] M) (fun v30 M29 => (if v30 = (nI 0) then h_M_readsTotal_23 d x1 (x2 + (nI 1)) M29 else (if zin (x1 + (nI 0)) 268 = true then zC1 (zEv d zmM_mostOf [.int x2] (zpi M29 883 (Int32.toNatClampNeg (x1 + (nI 0))) x2)) (fun v35 M34 => zC1 (zEv d zmM_readsTo [.ref 866, .int (x1 + (nI 1)), .int (nI 0), .int v35] M34) (fun v38 M37 => (if v38 = nI 0 ∨ v38 = nI 1 then some (some (.int v38), M37) else none))) else none))))) else zC1 (zEv d zmM_fails [.ref 866, .int (nI 1), .int (M.1 866 36)] M) (fun v42 M41 => (if v42 = nI 0 ∨ v42 = nI 1 then some (some (.int v42), M41) else none))) = some r) : h_M_readsTotal_23 d x1 x2 M = some r := by
  show zEx0 (zEv d) zmM_readsTotal (23, [(0, .ref 866), (1, .int x1), (2, .int x2)], [], M) = some r
  refine y_pure (pc' := 24) (st' := [.int x2]) rfl rfl ?_
  refine y_pure (pc' := 25) (st' := [.int (nI 3), .int x2]) rfl rfl ?_
  rcases zif_inv h with ⟨hc1, h⟩ | ⟨hc1, h⟩
  · refine y_cmp (pc' := 28) rfl rfl (zc_geF hc1) rfl ?_
    refine y_pure (pc' := 29) (st' := [.ref 866]) rfl rfl ?_
    refine y_pure (pc' := 30) (st' := [.int x2, .ref 866]) rfl rfl ?_
    rcases zif_inv h with ⟨hc2, h⟩ | ⟨hc2, h⟩
    · refine y_cnd (pc' := 33) rfl rfl (zc_neF hc2) rfl ?_
      refine y_ldwX (pc' := 36) (q := 16) rfl rfl rfl rfl ?_
      refine y_pure (pc' := 53) rfl rfl ?_
      obtain ⟨v5, M4, he3, h⟩ := zC1_inv h
      refine y_callV (pc' := 56) (y := zmM_takesWord) (a' := [.ref 16]) (st' := []) rfl rfl rfl rfl rfl (zrecv_o (o := 10) zc_866 rfl) rfl he3 rfl rfl ?_
      rcases zif_inv h with ⟨hc6, h⟩ | ⟨hc6, h⟩
      · refine y_cnd (pc' := 59) rfl rfl (zc_neF hc6) rfl ?_
        refine y_pure (pc' := 84) rfl rfl ?_
        refine y_pure (pc' := 87) (ls' := [(0, .ref 866), (1, .int x1), (2, .int (x2 + (nI 1)))]) (st' := []) rfl rfl ?_
        refine y_pure (pc' := 23) rfl rfl ?_
        refine zEx_sub ?_ h
        exact ⟨rfl, rfl, rfl, trivial⟩
      · refine y_cnd (pc' := 62) rfl rfl (zc_neT hc6) rfl ?_
        refine y_pure (pc' := 63) (st' := [.ref 866]) rfl rfl ?_
        refine y_getf (pc' := 66) (v := .ref 883) rfl rfl rfl zc_866 rfl rfl ?_
        refine y_pure (pc' := 67) (st' := [.int x1, .ref 883]) rfl rfl ?_
        refine y_pure (pc' := 68) (st' := [.int (nI 0), .int x1, .ref 883]) rfl rfl ?_
        refine y_pure (pc' := 69) (st' := [.int (x1 + (nI 0)), .ref 883]) rfl rfl ?_
        refine y_pure (pc' := 70) (st' := [.int x2, .int (x1 + (nI 0)), .ref 883]) rfl rfl ?_
        obtain ⟨hi7, h⟩ := zg_inv h
        refine y_iast (pc' := 71) rfl zc_883 hi7 rfl ?_
        refine y_pure (pc' := 72) (st' := [.ref 866]) rfl rfl ?_
        refine y_pure (pc' := 73) (st' := [.int x1, .ref 866]) rfl rfl ?_
        refine y_pure (pc' := 74) (st' := [.int (nI 1), .int x1, .ref 866]) rfl rfl ?_
        refine y_pure (pc' := 75) (st' := [.int (x1 + (nI 1)), .ref 866]) rfl rfl ?_
        refine y_pure (pc' := 76) (st' := [.int (nI 0), .int (x1 + (nI 1)), .ref 866]) rfl rfl ?_
        refine y_pure (pc' := 77) (st' := [.int x2, .int (nI 0), .int (x1 + (nI 1)), .ref 866]) rfl rfl ?_
        obtain ⟨v10, M9, he8, h⟩ := zC1_inv h
        refine y_callS (pc' := 80) (y := zmM_mostOf) (a := [.int x2]) (st' := [.int (nI 0), .int (x1 + (nI 1)), .ref 866]) rfl rfl rfl rfl rfl rfl he8 rfl rfl ?_
        obtain ⟨v13, M12, he11, h⟩ := zC1_inv h
        refine y_callV (pc' := 83) (y := zmM_readsTo) (a' := [.int (x1 + (nI 1)), .int (nI 0), .int v10]) (st' := []) rfl rfl rfl rfl rfl (zrecv_o (o := 10) zc_866 rfl) rfl he11 rfl rfl ?_
        obtain ⟨hb14, h⟩ := zg_inv h
        exact y_retZ rfl rfl hb14 h
    · refine y_cnd (pc' := 39) rfl rfl (zc_neT hc2) rfl ?_
      refine y_pure (pc' := 40) (st' := [.int x2, .ref 866]) rfl rfl ?_
      refine y_pure (pc' := 41) (st' := [.int (nI 1), .int x2, .ref 866]) rfl rfl ?_
      rcases zif_inv h with ⟨hc15, h⟩ | ⟨hc15, h⟩
      · refine y_cmp (pc' := 44) rfl rfl (zc_neF hc15) rfl ?_
        refine y_ldwX (pc' := 47) (q := 14) rfl rfl rfl rfl ?_
        refine y_pure (pc' := 53) rfl rfl ?_
        obtain ⟨v18, M17, he16, h⟩ := zC1_inv h
        refine y_callV (pc' := 56) (y := zmM_takesWord) (a' := [.ref 14]) (st' := []) rfl rfl rfl rfl rfl (zrecv_o (o := 10) zc_866 rfl) rfl he16 rfl rfl ?_
        rcases zif_inv h with ⟨hc19, h⟩ | ⟨hc19, h⟩
        · refine y_cnd (pc' := 59) rfl rfl (zc_neF hc19) rfl ?_
          refine y_pure (pc' := 84) rfl rfl ?_
          refine y_pure (pc' := 87) (ls' := [(0, .ref 866), (1, .int x1), (2, .int (x2 + (nI 1)))]) (st' := []) rfl rfl ?_
          refine y_pure (pc' := 23) rfl rfl ?_
          refine zEx_sub ?_ h
          exact ⟨rfl, rfl, rfl, trivial⟩
        · refine y_cnd (pc' := 62) rfl rfl (zc_neT hc19) rfl ?_
          refine y_pure (pc' := 63) (st' := [.ref 866]) rfl rfl ?_
          refine y_getf (pc' := 66) (v := .ref 883) rfl rfl rfl zc_866 rfl rfl ?_
          refine y_pure (pc' := 67) (st' := [.int x1, .ref 883]) rfl rfl ?_
          refine y_pure (pc' := 68) (st' := [.int (nI 0), .int x1, .ref 883]) rfl rfl ?_
          refine y_pure (pc' := 69) (st' := [.int (x1 + (nI 0)), .ref 883]) rfl rfl ?_
          refine y_pure (pc' := 70) (st' := [.int x2, .int (x1 + (nI 0)), .ref 883]) rfl rfl ?_
          obtain ⟨hi20, h⟩ := zg_inv h
          refine y_iast (pc' := 71) rfl zc_883 hi20 rfl ?_
          refine y_pure (pc' := 72) (st' := [.ref 866]) rfl rfl ?_
          refine y_pure (pc' := 73) (st' := [.int x1, .ref 866]) rfl rfl ?_
          refine y_pure (pc' := 74) (st' := [.int (nI 1), .int x1, .ref 866]) rfl rfl ?_
          refine y_pure (pc' := 75) (st' := [.int (x1 + (nI 1)), .ref 866]) rfl rfl ?_
          refine y_pure (pc' := 76) (st' := [.int (nI 0), .int (x1 + (nI 1)), .ref 866]) rfl rfl ?_
          refine y_pure (pc' := 77) (st' := [.int x2, .int (nI 0), .int (x1 + (nI 1)), .ref 866]) rfl rfl ?_
          obtain ⟨v23, M22, he21, h⟩ := zC1_inv h
          refine y_callS (pc' := 80) (y := zmM_mostOf) (a := [.int x2]) (st' := [.int (nI 0), .int (x1 + (nI 1)), .ref 866]) rfl rfl rfl rfl rfl rfl he21 rfl rfl ?_
          obtain ⟨v26, M25, he24, h⟩ := zC1_inv h
          refine y_callV (pc' := 83) (y := zmM_readsTo) (a' := [.int (x1 + (nI 1)), .int (nI 0), .int v23]) (st' := []) rfl rfl rfl rfl rfl (zrecv_o (o := 10) zc_866 rfl) rfl he24 rfl rfl ?_
          obtain ⟨hb27, h⟩ := zg_inv h
          exact y_retZ rfl rfl hb27 h
      · refine y_cmp (pc' := 50) rfl rfl (zc_neT hc15) rfl ?_
        refine y_ldwX (pc' := 53) (q := 15) rfl rfl rfl rfl ?_
        obtain ⟨v30, M29, he28, h⟩ := zC1_inv h
        refine y_callV (pc' := 56) (y := zmM_takesWord) (a' := [.ref 15]) (st' := []) rfl rfl rfl rfl rfl (zrecv_o (o := 10) zc_866 rfl) rfl he28 rfl rfl ?_
        rcases zif_inv h with ⟨hc31, h⟩ | ⟨hc31, h⟩
        · refine y_cnd (pc' := 59) rfl rfl (zc_neF hc31) rfl ?_
          refine y_pure (pc' := 84) rfl rfl ?_
          refine y_pure (pc' := 87) (ls' := [(0, .ref 866), (1, .int x1), (2, .int (x2 + (nI 1)))]) (st' := []) rfl rfl ?_
          refine y_pure (pc' := 23) rfl rfl ?_
          refine zEx_sub ?_ h
          exact ⟨rfl, rfl, rfl, trivial⟩
        · refine y_cnd (pc' := 62) rfl rfl (zc_neT hc31) rfl ?_
          refine y_pure (pc' := 63) (st' := [.ref 866]) rfl rfl ?_
          refine y_getf (pc' := 66) (v := .ref 883) rfl rfl rfl zc_866 rfl rfl ?_
          refine y_pure (pc' := 67) (st' := [.int x1, .ref 883]) rfl rfl ?_
          refine y_pure (pc' := 68) (st' := [.int (nI 0), .int x1, .ref 883]) rfl rfl ?_
          refine y_pure (pc' := 69) (st' := [.int (x1 + (nI 0)), .ref 883]) rfl rfl ?_
          refine y_pure (pc' := 70) (st' := [.int x2, .int (x1 + (nI 0)), .ref 883]) rfl rfl ?_
          obtain ⟨hi32, h⟩ := zg_inv h
          refine y_iast (pc' := 71) rfl zc_883 hi32 rfl ?_
          refine y_pure (pc' := 72) (st' := [.ref 866]) rfl rfl ?_
          refine y_pure (pc' := 73) (st' := [.int x1, .ref 866]) rfl rfl ?_
          refine y_pure (pc' := 74) (st' := [.int (nI 1), .int x1, .ref 866]) rfl rfl ?_
          refine y_pure (pc' := 75) (st' := [.int (x1 + (nI 1)), .ref 866]) rfl rfl ?_
          refine y_pure (pc' := 76) (st' := [.int (nI 0), .int (x1 + (nI 1)), .ref 866]) rfl rfl ?_
          refine y_pure (pc' := 77) (st' := [.int x2, .int (nI 0), .int (x1 + (nI 1)), .ref 866]) rfl rfl ?_
          obtain ⟨v35, M34, he33, h⟩ := zC1_inv h
          refine y_callS (pc' := 80) (y := zmM_mostOf) (a := [.int x2]) (st' := [.int (nI 0), .int (x1 + (nI 1)), .ref 866]) rfl rfl rfl rfl rfl rfl he33 rfl rfl ?_
          obtain ⟨v38, M37, he36, h⟩ := zC1_inv h
          refine y_callV (pc' := 83) (y := zmM_readsTo) (a' := [.int (x1 + (nI 1)), .int (nI 0), .int v35]) (st' := []) rfl rfl rfl rfl rfl (zrecv_o (o := 10) zc_866 rfl) rfl he36 rfl rfl ?_
          obtain ⟨hb39, h⟩ := zg_inv h
          exact y_retZ rfl rfl hb39 h
  · refine y_cmp (pc' := 90) rfl rfl (zc_geT hc1) rfl ?_
    refine y_pure (pc' := 91) (st' := [.ref 866]) rfl rfl ?_
    refine y_pure (pc' := 92) (st' := [.int (nI 1), .ref 866]) rfl rfl ?_
    refine y_pure (pc' := 93) (st' := [.ref 866, .int (nI 1), .ref 866]) rfl rfl ?_
    refine y_getf (pc' := 96) (v := .int (M.1 866 36)) rfl rfl rfl zc_866 rfl rfl ?_
    obtain ⟨v42, M41, he40, h⟩ := zC1_inv h
    refine y_callV (pc' := 99) (y := zmM_fails) (a' := [.int (nI 1), .int (M.1 866 36)]) (st' := []) rfl rfl rfl rfl rfl (zrecv_o (o := 10) zc_866 rfl) rfl he40 rfl rfl ?_
    obtain ⟨hb43, h⟩ := zg_inv h
    exact y_retZ rfl rfl hb43 h
theorem e_M_readsTotal {d : Nat} {x1 : Int32} {M : ZM} {r : ZR}  (h : zC1 (zEv d zmM_takesWord [.ref 866, .ref 8] M) (fun v3 M2 => (if v3 = (nI 0) then h_M_readsTotal_23 d x1 (nI 0) M2 else (if zin (x1 + (nI 0)) 268 = true then some (some (.int (nI 1)), (zpi M2 883 (Int32.toNatClampNeg (x1 + (nI 0))) (nI 3))) else none))) = some r) : zEv (d + 1) zmM_readsTotal [.ref 866, .int x1] M = some r := by
  rw [zEv_succ]
  show zEx0 (zEv d) zmM_readsTotal (0, [(0, .ref 866), (1, .int x1)], [], M) = some r
  refine y_pure (pc' := 1) (st' := [.ref 866]) rfl rfl ?_
  refine y_ldwX (pc' := 4) (q := 8) rfl rfl rfl rfl ?_
  obtain ⟨v3, M2, he1, h⟩ := zC1_inv h
  refine y_callV (pc' := 7) (y := zmM_takesWord) (a' := [.ref 8]) (st' := []) rfl rfl rfl rfl rfl (zrecv_o (o := 10) zc_866 rfl) rfl he1 rfl rfl ?_
  rcases zif_inv h with ⟨hc4, h⟩ | ⟨hc4, h⟩
  · refine y_cnd (pc' := 21) rfl rfl (zc_eqT hc4) rfl ?_
    refine y_pure (pc' := 22) (st' := [.int (nI 0)]) rfl rfl ?_
    refine y_pure (pc' := 23) (ls' := [(0, .ref 866), (1, .int x1), (2, .int (nI 0))]) (st' := []) rfl rfl ?_
    refine zEx_sub ?_ h
    exact ⟨rfl, rfl, rfl, trivial⟩
  · refine y_cnd (pc' := 10) rfl rfl (zc_eqF hc4) rfl ?_
    refine y_pure (pc' := 11) (st' := [.ref 866]) rfl rfl ?_
    refine y_getf (pc' := 14) (v := .ref 883) rfl rfl rfl zc_866 rfl rfl ?_
    refine y_pure (pc' := 15) (st' := [.int x1, .ref 883]) rfl rfl ?_
    refine y_pure (pc' := 16) (st' := [.int (nI 0), .int x1, .ref 883]) rfl rfl ?_
    refine y_pure (pc' := 17) (st' := [.int (x1 + (nI 0)), .ref 883]) rfl rfl ?_
    refine y_pure (pc' := 18) (st' := [.int (nI 3), .int (x1 + (nI 0)), .ref 883]) rfl rfl ?_
    obtain ⟨hi5, h⟩ := zg_inv h
    refine y_iast (pc' := 19) rfl zc_883 hi5 rfl ?_
    refine y_pure (pc' := 20) (st' := [.int (nI 1)]) rfl rfl ?_
    exact y_retZ rfl rfl (by decide) h
theorem e_M_readsAlike {d : Nat} {x1 : Int32} {M : ZM} {r : ZR}  (h : zC1 (zEv d zmM_takesWord [.ref 866, .ref 7] M) (fun v3 M2 => (if v3 = (nI 0) then (if zin (x1 + (nI 2)) 268 = true then some (none, (zpi M2 883 (Int32.toNatClampNeg (x1 + (nI 2))) (nI 1))) else none) else (if zin (x1 + (nI 2)) 268 = true then some (none, (zpi M2 883 (Int32.toNatClampNeg (x1 + (nI 2))) (nI 0))) else none))) = some r) : zEv (d + 1) zmM_readsAlike [.ref 866, .int x1] M = some r := by
  rw [zEv_succ]
  show zEx0 (zEv d) zmM_readsAlike (0, [(0, .ref 866), (1, .int x1)], [], M) = some r
  refine y_pure (pc' := 1) (st' := [.ref 866]) rfl rfl ?_
  refine y_getf (pc' := 4) (v := .ref 883) rfl rfl rfl zc_866 rfl rfl ?_
  refine y_pure (pc' := 5) (st' := [.int x1, .ref 883]) rfl rfl ?_
  refine y_pure (pc' := 6) (st' := [.int (nI 2), .int x1, .ref 883]) rfl rfl ?_
  refine y_pure (pc' := 7) (st' := [.int (x1 + (nI 2)), .ref 883]) rfl rfl ?_
  refine y_pure (pc' := 8) (st' := [.ref 866, .int (x1 + (nI 2)), .ref 883]) rfl rfl ?_
  refine y_ldwX (pc' := 11) (q := 7) rfl rfl rfl rfl ?_
  obtain ⟨v3, M2, he1, h⟩ := zC1_inv h
  refine y_callV (pc' := 14) (y := zmM_takesWord) (a' := [.ref 7]) (st' := [.int (x1 + (nI 2)), .ref 883]) rfl rfl rfl rfl rfl (zrecv_o (o := 10) zc_866 rfl) rfl he1 rfl rfl ?_
  rcases zif_inv h with ⟨hc4, h⟩ | ⟨hc4, h⟩
  · refine y_cnd (pc' := 21) rfl rfl (zc_eqT hc4) rfl ?_
    refine y_pure (pc' := 22) (st' := [.int (nI 1), .int (x1 + (nI 2)), .ref 883]) rfl rfl ?_
    obtain ⟨hi5, h⟩ := zg_inv h
    refine y_iast (pc' := 23) rfl zc_883 hi5 rfl ?_
    exact y_ret rfl rfl rfl rfl h
  · refine y_cnd (pc' := 17) rfl rfl (zc_eqF hc4) rfl ?_
    refine y_pure (pc' := 18) (st' := [.int (nI 0), .int (x1 + (nI 2)), .ref 883]) rfl rfl ?_
    refine y_pure (pc' := 22) rfl rfl ?_
    obtain ⟨hi6, h⟩ := zg_inv h
    refine y_iast (pc' := 23) rfl zc_883 hi6 rfl ?_
    exact y_ret rfl rfl rfl rfl h
noncomputable def h_M_comesInto_9 (d : Nat) (x1 : Int32) (x2 : Int32) (x3 : Int32) (M : ZM) : Option ZR := zEx0 (zEv d) zmM_comesInto (9, [(0, .ref 866), (1, .int x1), (2, .int x2), (3, .int x3)], [], M)
noncomputable def h_M_comesInto_57 (d : Nat) (x1 : Int32) (x2 : Int32) (x3 : Int32) (M : ZM) : Option ZR := zEx0 (zEv d) zmM_comesInto (57, [(0, .ref 866), (1, .int x1), (2, .int x2), (3, .int x3)], [], M)
theorem e_M_comesInto_9 {d : Nat} {x1 : Int32} {x2 : Int32} {x3 : Int32} {M : ZM} {r : ZR}  (h : (if (nI 0) < x3 then (if zin (((x1 + (nI 4)) + x3) - (nI 1)) 268 = true then (if x2 < (M.1 883 (Int32.toNatClampNeg (((x1 + (nI 4)) + x3) - (nI 1)))) then (if zin ((x1 + (nI 4)) + x3) 268 = true then h_M_comesInto_9 d x1 x2 (x3 + (-1 : Int32)) (zpi M 883 (Int32.toNatClampNeg ((x1 + (nI 4)) + x3)) (M.1 883 (Int32.toNatClampNeg (((x1 + (nI 4)) + x3) - (nI 1))))) else none) else h_M_comesInto_57 d x1 x2 x3 M) else none) else h_M_comesInto_57 d x1 x2 x3 M) = some r) : h_M_comesInto_9 d x1 x2 x3 M = some r := by
  show zEx0 (zEv d) zmM_comesInto (9, [(0, .ref 866), (1, .int x1), (2, .int x2), (3, .int x3)], [], M) = some r
  refine y_pure (pc' := 10) (st' := [.int x3]) rfl rfl ?_
  rcases zif_inv h with ⟨hc1, h⟩ | ⟨hc1, h⟩
  · refine y_cnd (pc' := 13) rfl rfl (zc_leF hc1) rfl ?_
    refine y_pure (pc' := 14) (st' := [.ref 866]) rfl rfl ?_
    refine y_getf (pc' := 17) (v := .ref 883) rfl rfl rfl zc_866 rfl rfl ?_
    refine y_pure (pc' := 18) (st' := [.int x1, .ref 883]) rfl rfl ?_
    refine y_pure (pc' := 19) (st' := [.int (nI 4), .int x1, .ref 883]) rfl rfl ?_
    refine y_pure (pc' := 20) (st' := [.int (x1 + (nI 4)), .ref 883]) rfl rfl ?_
    refine y_pure (pc' := 21) (st' := [.int x3, .int (x1 + (nI 4)), .ref 883]) rfl rfl ?_
    refine y_pure (pc' := 22) (st' := [.int ((x1 + (nI 4)) + x3), .ref 883]) rfl rfl ?_
    refine y_pure (pc' := 23) (st' := [.int (nI 1), .int ((x1 + (nI 4)) + x3), .ref 883]) rfl rfl ?_
    refine y_pure (pc' := 24) (st' := [.int (((x1 + (nI 4)) + x3) - (nI 1)), .ref 883]) rfl rfl ?_
    obtain ⟨hi2, h⟩ := zg_inv h
    refine y_iald (pc' := 25) rfl zc_883 hi2 rfl ?_
    refine y_pure (pc' := 26) (st' := [.int x2, .int (M.1 883 (Int32.toNatClampNeg (((x1 + (nI 4)) + x3) - (nI 1))))]) rfl rfl ?_
    rcases zif_inv h with ⟨hc3, h⟩ | ⟨hc3, h⟩
    · refine y_cmp (pc' := 29) rfl rfl (zc_leF hc3) rfl ?_
      refine y_pure (pc' := 30) (st' := [.ref 866]) rfl rfl ?_
      refine y_getf (pc' := 33) (v := .ref 883) rfl rfl rfl zc_866 rfl rfl ?_
      refine y_pure (pc' := 34) (st' := [.int x1, .ref 883]) rfl rfl ?_
      refine y_pure (pc' := 35) (st' := [.int (nI 4), .int x1, .ref 883]) rfl rfl ?_
      refine y_pure (pc' := 36) (st' := [.int (x1 + (nI 4)), .ref 883]) rfl rfl ?_
      refine y_pure (pc' := 37) (st' := [.int x3, .int (x1 + (nI 4)), .ref 883]) rfl rfl ?_
      refine y_pure (pc' := 38) (st' := [.int ((x1 + (nI 4)) + x3), .ref 883]) rfl rfl ?_
      refine y_pure (pc' := 39) (st' := [.ref 866, .int ((x1 + (nI 4)) + x3), .ref 883]) rfl rfl ?_
      refine y_getf (pc' := 42) (v := .ref 883) rfl rfl rfl zc_866 rfl rfl ?_
      refine y_pure (pc' := 43) (st' := [.int x1, .ref 883, .int ((x1 + (nI 4)) + x3), .ref 883]) rfl rfl ?_
      refine y_pure (pc' := 44) (st' := [.int (nI 4), .int x1, .ref 883, .int ((x1 + (nI 4)) + x3), .ref 883]) rfl rfl ?_
      refine y_pure (pc' := 45) (st' := [.int (x1 + (nI 4)), .ref 883, .int ((x1 + (nI 4)) + x3), .ref 883]) rfl rfl ?_
      refine y_pure (pc' := 46) (st' := [.int x3, .int (x1 + (nI 4)), .ref 883, .int ((x1 + (nI 4)) + x3), .ref 883]) rfl rfl ?_
      refine y_pure (pc' := 47) (st' := [.int ((x1 + (nI 4)) + x3), .ref 883, .int ((x1 + (nI 4)) + x3), .ref 883]) rfl rfl ?_
      refine y_pure (pc' := 48) (st' := [.int (nI 1), .int ((x1 + (nI 4)) + x3), .ref 883, .int ((x1 + (nI 4)) + x3), .ref 883]) rfl rfl ?_
      refine y_pure (pc' := 49) (st' := [.int (((x1 + (nI 4)) + x3) - (nI 1)), .ref 883, .int ((x1 + (nI 4)) + x3), .ref 883]) rfl rfl ?_
      refine y_iald (pc' := 50) rfl zc_883 hi2 rfl ?_
      obtain ⟨hi4, h⟩ := zg_inv h
      refine y_iast (pc' := 51) rfl zc_883 hi4 rfl ?_
      refine y_pure (pc' := 54) (ls' := [(0, .ref 866), (1, .int x1), (2, .int x2), (3, .int (x3 + (-1 : Int32)))]) (st' := []) rfl rfl ?_
      refine y_pure (pc' := 9) rfl rfl ?_
      refine zEx_sub ?_ h
      exact ⟨rfl, rfl, rfl, rfl, trivial⟩
    · refine y_cmp (pc' := 57) rfl rfl (zc_leT hc3) rfl ?_
      refine zEx_sub ?_ h
      exact ⟨rfl, rfl, rfl, rfl, trivial⟩
  · refine y_cnd (pc' := 57) rfl rfl (zc_leT hc1) rfl ?_
    refine zEx_sub ?_ h
    exact ⟨rfl, rfl, rfl, rfl, trivial⟩
theorem e_M_comesInto_57 {d : Nat} {x1 : Int32} {x2 : Int32} {x3 : Int32} {M : ZM} {r : ZR}  (h : (if zin ((x1 + (nI 4)) + x3) 268 = true then (if zin (x1 + (nI 3)) 268 = true then zL (zpi (zpi M 883 (Int32.toNatClampNeg ((x1 + (nI 4)) + x3)) x2) 883 (Int32.toNatClampNeg (x1 + (nI 3))) (((zpi M 883 (Int32.toNatClampNeg ((x1 + (nI 4)) + x3)) x2).1 883 (Int32.toNatClampNeg (x1 + (nI 3)))) + (nI 1))) (fun M3 => some (none, M3)) else none) else none) = some r) : h_M_comesInto_57 d x1 x2 x3 M = some r := by
  show zEx0 (zEv d) zmM_comesInto (57, [(0, .ref 866), (1, .int x1), (2, .int x2), (3, .int x3)], [], M) = some r
  refine y_pure (pc' := 58) (st' := [.ref 866]) rfl rfl ?_
  refine y_getf (pc' := 61) (v := .ref 883) rfl rfl rfl zc_866 rfl rfl ?_
  refine y_pure (pc' := 62) (st' := [.int x1, .ref 883]) rfl rfl ?_
  refine y_pure (pc' := 63) (st' := [.int (nI 4), .int x1, .ref 883]) rfl rfl ?_
  refine y_pure (pc' := 64) (st' := [.int (x1 + (nI 4)), .ref 883]) rfl rfl ?_
  refine y_pure (pc' := 65) (st' := [.int x3, .int (x1 + (nI 4)), .ref 883]) rfl rfl ?_
  refine y_pure (pc' := 66) (st' := [.int ((x1 + (nI 4)) + x3), .ref 883]) rfl rfl ?_
  refine y_pure (pc' := 67) (st' := [.int x2, .int ((x1 + (nI 4)) + x3), .ref 883]) rfl rfl ?_
  obtain ⟨hi1, h⟩ := zg_inv h
  refine y_iast (pc' := 68) rfl zc_883 hi1 rfl ?_
  refine y_pure (pc' := 69) (st' := [.ref 866]) rfl rfl ?_
  refine y_getf (pc' := 72) (v := .ref 883) rfl rfl rfl zc_866 rfl rfl ?_
  refine y_pure (pc' := 73) (st' := [.int x1, .ref 883]) rfl rfl ?_
  refine y_pure (pc' := 74) (st' := [.int (nI 3), .int x1, .ref 883]) rfl rfl ?_
  refine y_pure (pc' := 75) (st' := [.int (x1 + (nI 3)), .ref 883]) rfl rfl ?_
  refine y_pure (pc' := 76) (st' := [.int (x1 + (nI 3)), .ref 883, .int (x1 + (nI 3)), .ref 883]) rfl rfl ?_
  obtain ⟨hi2, h⟩ := zg_inv h
  refine y_iald (pc' := 77) rfl zc_883 hi2 rfl ?_
  refine y_pure (pc' := 78) (st' := [.int (nI 1), .int ((zpi M 883 (Int32.toNatClampNeg ((x1 + (nI 4)) + x3)) x2).1 883 (Int32.toNatClampNeg (x1 + (nI 3)))), .int (x1 + (nI 3)), .ref 883]) rfl rfl ?_
  refine y_pure (pc' := 79) (st' := [.int (((zpi M 883 (Int32.toNatClampNeg ((x1 + (nI 4)) + x3)) x2).1 883 (Int32.toNatClampNeg (x1 + (nI 3)))) + (nI 1)), .int (x1 + (nI 3)), .ref 883]) rfl rfl ?_
  refine y_iast (pc' := 80) rfl zc_883 hi2 rfl ?_
  obtain ⟨M3, e4, h⟩ := zL_inv h
  refine zM_gen e4 ?_
  exact y_ret rfl rfl rfl rfl h
theorem e_M_comesInto {d : Nat} {x1 : Int32} {x2 : Int32} {M : ZM} {r : ZR}  (h : (if zin (x1 + (nI 3)) 268 = true then h_M_comesInto_9 d x1 x2 (M.1 883 (Int32.toNatClampNeg (x1 + (nI 3)))) M else none) = some r) : zEv (d + 1) zmM_comesInto [.ref 866, .int x1, .int x2] M = some r := by
  rw [zEv_succ]
  show zEx0 (zEv d) zmM_comesInto (0, [(0, .ref 866), (1, .int x1), (2, .int x2)], [], M) = some r
  refine y_pure (pc' := 1) (st' := [.ref 866]) rfl rfl ?_
  refine y_getf (pc' := 4) (v := .ref 883) rfl rfl rfl zc_866 rfl rfl ?_
  refine y_pure (pc' := 5) (st' := [.int x1, .ref 883]) rfl rfl ?_
  refine y_pure (pc' := 6) (st' := [.int (nI 3), .int x1, .ref 883]) rfl rfl ?_
  refine y_pure (pc' := 7) (st' := [.int (x1 + (nI 3)), .ref 883]) rfl rfl ?_
  obtain ⟨hi1, h⟩ := zg_inv h
  refine y_iald (pc' := 8) rfl zc_883 hi1 rfl ?_
  refine y_pure (pc' := 9) (ls' := [(0, .ref 866), (1, .int x1), (2, .int x2), (3, .int (M.1 883 (Int32.toNatClampNeg (x1 + (nI 3)))))]) (st' := []) rfl rfl ?_
  refine zEx_sub ?_ h
  exact ⟨rfl, rfl, rfl, rfl, trivial⟩
noncomputable def h_M_isInRow_2 (d : Nat) (x1 : Int32) (x2 : Int32) (M : ZM) : Option ZR := zEx0 (zEv d) zmM_isInRow (2, [(0, .ref 866), (1, .int x1), (2, .int x2)], [], M)
theorem e_M_isInRow_2 {d : Nat} {x1 : Int32} {x2 : Int32} {M : ZM} {r : ZR}  (h : (if zin (x1 + (nI 3)) 268 = true then (if x2 < (M.1 883 (Int32.toNatClampNeg (x1 + (nI 3)))) then (if zin ((x1 + (nI 4)) + x2) 268 = true then (if (M.1 883 (Int32.toNatClampNeg ((x1 + (nI 4)) + x2))) = (M.1 866 41) then some (some (.int (nI 1)), M) else h_M_isInRow_2 d x1 (x2 + (nI 1)) M) else none) else some (some (.int (nI 0)), M)) else none) = some r) : h_M_isInRow_2 d x1 x2 M = some r := by
  show zEx0 (zEv d) zmM_isInRow (2, [(0, .ref 866), (1, .int x1), (2, .int x2)], [], M) = some r
  refine y_pure (pc' := 3) (st' := [.int x2]) rfl rfl ?_
  refine y_pure (pc' := 4) (st' := [.ref 866, .int x2]) rfl rfl ?_
  refine y_getf (pc' := 7) (v := .ref 883) rfl rfl rfl zc_866 rfl rfl ?_
  refine y_pure (pc' := 8) (st' := [.int x1, .ref 883, .int x2]) rfl rfl ?_
  refine y_pure (pc' := 9) (st' := [.int (nI 3), .int x1, .ref 883, .int x2]) rfl rfl ?_
  refine y_pure (pc' := 10) (st' := [.int (x1 + (nI 3)), .ref 883, .int x2]) rfl rfl ?_
  obtain ⟨hi1, h⟩ := zg_inv h
  refine y_iald (pc' := 11) rfl zc_883 hi1 rfl ?_
  rcases zif_inv h with ⟨hc2, h⟩ | ⟨hc2, h⟩
  · refine y_cmp (pc' := 14) rfl rfl (zc_geF hc2) rfl ?_
    refine y_pure (pc' := 15) (st' := [.ref 866]) rfl rfl ?_
    refine y_getf (pc' := 18) (v := .ref 883) rfl rfl rfl zc_866 rfl rfl ?_
    refine y_pure (pc' := 19) (st' := [.int x1, .ref 883]) rfl rfl ?_
    refine y_pure (pc' := 20) (st' := [.int (nI 4), .int x1, .ref 883]) rfl rfl ?_
    refine y_pure (pc' := 21) (st' := [.int (x1 + (nI 4)), .ref 883]) rfl rfl ?_
    refine y_pure (pc' := 22) (st' := [.int x2, .int (x1 + (nI 4)), .ref 883]) rfl rfl ?_
    refine y_pure (pc' := 23) (st' := [.int ((x1 + (nI 4)) + x2), .ref 883]) rfl rfl ?_
    obtain ⟨hi3, h⟩ := zg_inv h
    refine y_iald (pc' := 24) rfl zc_883 hi3 rfl ?_
    refine y_pure (pc' := 25) (st' := [.ref 866, .int (M.1 883 (Int32.toNatClampNeg ((x1 + (nI 4)) + x2)))]) rfl rfl ?_
    refine y_getf (pc' := 28) (v := .int (M.1 866 41)) rfl rfl rfl zc_866 rfl rfl ?_
    rcases zif_inv h with ⟨hc4, h⟩ | ⟨hc4, h⟩
    · refine y_cmp (pc' := 31) rfl rfl (zc_neF hc4) rfl ?_
      refine y_pure (pc' := 32) (st' := [.int (nI 1)]) rfl rfl ?_
      exact y_retZ rfl rfl (by decide) h
    · refine y_cmp (pc' := 33) rfl rfl (zc_neT hc4) rfl ?_
      refine y_pure (pc' := 36) (ls' := [(0, .ref 866), (1, .int x1), (2, .int (x2 + (nI 1)))]) (st' := []) rfl rfl ?_
      refine y_pure (pc' := 2) rfl rfl ?_
      refine zEx_sub ?_ h
      exact ⟨rfl, rfl, rfl, trivial⟩
  · refine y_cmp (pc' := 39) rfl rfl (zc_geT hc2) rfl ?_
    refine y_pure (pc' := 40) (st' := [.int (nI 0)]) rfl rfl ?_
    exact y_retZ rfl rfl (by decide) h
theorem e_M_isInRow {d : Nat} {x1 : Int32} {M : ZM} {r : ZR}  (h : h_M_isInRow_2 d x1 (nI 0) M = some r) : zEv (d + 1) zmM_isInRow [.ref 866, .int x1] M = some r := by
  rw [zEv_succ]
  show zEx0 (zEv d) zmM_isInRow (0, [(0, .ref 866), (1, .int x1)], [], M) = some r
  refine y_pure (pc' := 1) (st' := [.int (nI 0)]) rfl rfl ?_
  refine y_pure (pc' := 2) (ls' := [(0, .ref 866), (1, .int x1), (2, .int (nI 0))]) (st' := []) rfl rfl ?_
  refine zEx_sub ?_ h
  exact ⟨rfl, rfl, rfl, trivial⟩
noncomputable def h_M_begins_50 (d : Nat) (x2 : Int32) (x3 : Int32) (M : ZM) : Option ZR := zEx0 (zEv d) zmM_begins (50, [(0, .ref 866), (2, .int x2), (3, .int x3)], [], M)
theorem e_M_begins_50 {d : Nat} {x2 : Int32} {x3 : Int32} {M : ZM} {r : ZR}  (h : (if x3 < (nI 10) then (if zin (x2 + x3) 268 = true then h_M_begins_50 d x2 (x3 + (nI 1)) (zpi M 883 (Int32.toNatClampNeg (x2 + x3)) (nI 0)) else none) else some (some (.int (nI 1)), M)) = some r) : h_M_begins_50 d x2 x3 M = some r := by
  show zEx0 (zEv d) zmM_begins (50, [(0, .ref 866), (2, .int x2), (3, .int x3)], [], M) = some r
  refine y_pure (pc' := 51) (st' := [.int x3]) rfl rfl ?_
  refine y_pure (pc' := 53) (st' := [.int (nI 10), .int x3]) rfl rfl ?_
  rcases zif_inv h with ⟨hc1, h⟩ | ⟨hc1, h⟩
  · refine y_cmp (pc' := 56) rfl rfl (zc_geF hc1) rfl ?_
    refine y_pure (pc' := 57) (st' := [.ref 866]) rfl rfl ?_
    refine y_getf (pc' := 60) (v := .ref 883) rfl rfl rfl zc_866 rfl rfl ?_
    refine y_pure (pc' := 61) (st' := [.int x2, .ref 883]) rfl rfl ?_
    refine y_pure (pc' := 62) (st' := [.int x3, .int x2, .ref 883]) rfl rfl ?_
    refine y_pure (pc' := 63) (st' := [.int (x2 + x3), .ref 883]) rfl rfl ?_
    refine y_pure (pc' := 64) (st' := [.int (nI 0), .int (x2 + x3), .ref 883]) rfl rfl ?_
    obtain ⟨hi2, h⟩ := zg_inv h
    refine y_iast (pc' := 65) rfl zc_883 hi2 rfl ?_
    refine y_pure (pc' := 68) (ls' := [(0, .ref 866), (2, .int x2), (3, .int (x3 + (nI 1)))]) (st' := []) rfl rfl ?_
    refine y_pure (pc' := 50) rfl rfl ?_
    refine zEx_sub ?_ h
    exact ⟨rfl, rfl, rfl, trivial⟩
  · refine y_cmp (pc' := 71) rfl rfl (zc_geT hc1) rfl ?_
    refine y_pure (pc' := 72) (st' := [.int (nI 1)]) rfl rfl ?_
    exact y_retZ rfl rfl (by decide) h
theorem e_M_begins {d : Nat} {x1 w1 : Nat} {M : ZM} {r : ZR} (hk1 : zkd x1 = (7, w1)) (h : (if (M.1 883 3) = (nI 12) then zC1 (zEv d zmM_fails [.ref 866, .int (nI 3), .int (M.1 866 36)] M) (fun v4 M3 => (if v4 = nI 0 ∨ v4 = nI 1 then some (some (.int v4), M3) else none)) else zC1 (zEv d zmJS_length [.ref x1] M) (fun v8 M7 => zL ((nI 148) + ((nI 10) * ((zpi M7 866 36 ((M.1 866 36) + v8)).1 883 3))) (fun y9 => h_M_begins_50 d y9 (nI 0) (zpi M7 866 36 ((M.1 866 36) + v8))))) = some r) : zEv (d + 1) zmM_begins [.ref 866, .ref x1] M = some r := by
  rw [zEv_succ]
  show zEx0 (zEv d) zmM_begins (0, [(0, .ref 866), (1, .ref x1)], [], M) = some r
  refine y_pure (pc' := 1) (st' := [.ref 866]) rfl rfl ?_
  refine y_getf (pc' := 4) (v := .ref 883) rfl rfl rfl zc_866 rfl rfl ?_
  refine y_pure (pc' := 5) (st' := [.int (nI 3), .ref 883]) rfl rfl ?_
  refine y_iald (pc' := 6) rfl zc_883 (by decide) rfl ?_
  refine y_pure (pc' := 8) (st' := [.int (nI 12), .int (M.1 883 3)]) rfl rfl ?_
  rcases zif_inv h with ⟨hc1, h⟩ | ⟨hc1, h⟩
  · refine y_cmp (pc' := 11) rfl rfl (zc_neF hc1) rfl ?_
    refine y_pure (pc' := 12) (st' := [.ref 866]) rfl rfl ?_
    refine y_pure (pc' := 13) (st' := [.int (nI 3), .ref 866]) rfl rfl ?_
    refine y_pure (pc' := 14) (st' := [.ref 866, .int (nI 3), .ref 866]) rfl rfl ?_
    refine y_getf (pc' := 17) (v := .int (M.1 866 36)) rfl rfl rfl zc_866 rfl rfl ?_
    obtain ⟨v4, M3, he2, h⟩ := zC1_inv h
    refine y_callV (pc' := 20) (y := zmM_fails) (a' := [.int (nI 3), .int (M.1 866 36)]) (st' := []) rfl rfl rfl rfl rfl (zrecv_o (o := 10) zc_866 rfl) rfl he2 rfl rfl ?_
    obtain ⟨hb5, h⟩ := zg_inv h
    exact y_retZ rfl rfl hb5 h
  · refine y_cmp (pc' := 21) rfl rfl (zc_neT hc1) rfl ?_
    refine y_pure (pc' := 22) (st' := [.ref 866]) rfl rfl ?_
    refine y_pure (pc' := 23) (st' := [.ref 866, .ref 866]) rfl rfl ?_
    refine y_getf (pc' := 26) (v := .int (M.1 866 36)) rfl rfl rfl zc_866 rfl rfl ?_
    refine y_pure (pc' := 27) (st' := [.ref x1, .int (M.1 866 36), .ref 866]) rfl rfl ?_
    obtain ⟨v8, M7, he6, h⟩ := zC1_inv h
    refine y_callV (pc' := 30) (y := zmJS_length) (a' := []) (st' := [.int (M.1 866 36), .ref 866]) rfl rfl rfl rfl rfl (zrecv_s (zkt7 hk1)) rfl he6 rfl rfl ?_
    refine y_pure (pc' := 31) (st' := [.int ((M.1 866 36) + v8), .ref 866]) rfl rfl ?_
    refine y_putI (pc' := 34) rfl rfl zc_866 rfl ?_
    refine y_pure (pc' := 37) (st' := [.int (nI 148)]) rfl rfl ?_
    refine y_pure (pc' := 39) (st' := [.int (nI 10), .int (nI 148)]) rfl rfl ?_
    refine y_pure (pc' := 40) (st' := [.ref 866, .int (nI 10), .int (nI 148)]) rfl rfl ?_
    refine y_getf (pc' := 43) (v := .ref 883) rfl rfl rfl zc_866 rfl rfl ?_
    refine y_pure (pc' := 44) (st' := [.int (nI 3), .ref 883, .int (nI 10), .int (nI 148)]) rfl rfl ?_
    refine y_iald (pc' := 45) rfl zc_883 (by decide) rfl ?_
    refine y_pure (pc' := 46) (st' := [.int ((nI 10) * ((zpi M7 866 36 ((M.1 866 36) + v8)).1 883 3)), .int (nI 148)]) rfl rfl ?_
    refine y_pure (pc' := 47) (st' := [.int ((nI 148) + ((nI 10) * ((zpi M7 866 36 ((M.1 866 36) + v8)).1 883 3)))]) rfl rfl ?_
    obtain ⟨y9, e10, h⟩ := zL_inv h
    refine zT_gen e10 ?_
    refine y_pure (pc' := 48) (ls' := [(0, .ref 866), (1, .ref x1), (2, .int y9)]) (st' := []) rfl rfl ?_
    refine y_pure (pc' := 49) (st' := [.int (nI 0)]) rfl rfl ?_
    refine y_pure (pc' := 50) (ls' := [(0, .ref 866), (1, .ref x1), (2, .int y9), (3, .int (nI 0))]) (st' := []) rfl rfl ?_
    refine zEx_sub ?_ h
    exact ⟨rfl, rfl, rfl, trivial⟩
noncomputable def h_M_readsCage_41 (d : Nat) (x1 : Int32) (M : ZM) : Option ZR := zEx0 (zEv d) zmM_readsCage (41, [(0, .ref 866), (1, .int x1)], [], M)
noncomputable def h_M_readsCage_92 (d : Nat) (x1 : Int32) (M : ZM) : Option ZR := zEx0 (zEv d) zmM_readsCage (92, [(0, .ref 866), (1, .int x1)], [], M)
theorem e_M_readsCage_41 {d : Nat} {x1 : Int32} {M : ZM} {r : ZR}  (h : zC1 (zEv d zmM_nextByte [.ref 866] M) (fun v3 M2 => zC1 (zEv d zmM_in [.long (Int32.toInt64 v3), .long (nJ 97), .long (Int32.toInt64 (((nI 97) + (M2.1 883 0)) - (nI 1)))] M2) (fun v6 M5 => (if v6 = (nI 0) then h_M_readsCage_92 d x1 M5 else (if zin (x1 + (nI 3)) 268 = true then (if (M5.1 883 (Int32.toNatClampNeg (x1 + (nI 3)))) = (nI 6) then zC1 (zEv d zmM_fails [.ref 866, .int (nI 3), .int (M5.1 866 36)] M5) (fun v12 M11 => (if v12 = nI 0 ∨ v12 = nI 1 then some (some (.int v12), M11) else none)) else h_M_readsCage_92 d x1 M5) else none)))) = some r) : h_M_readsCage_41 d x1 M = some r := by
  show zEx0 (zEv d) zmM_readsCage (41, [(0, .ref 866), (1, .int x1)], [], M) = some r
  refine y_pure (pc' := 42) (st' := [.ref 866]) rfl rfl ?_
  obtain ⟨v3, M2, he1, h⟩ := zC1_inv h
  refine y_callV (pc' := 45) (y := zmM_nextByte) (a' := []) (st' := []) rfl rfl rfl rfl rfl (zrecv_o (o := 10) zc_866 rfl) rfl he1 rfl rfl ?_
  refine y_pure (pc' := 46) (st' := [.long (Int32.toInt64 v3)]) rfl rfl ?_
  refine y_pure (pc' := 49) (st' := [.long (nJ 97), .long (Int32.toInt64 v3)]) rfl rfl ?_
  refine y_pure (pc' := 51) (st' := [.int (nI 97), .long (nJ 97), .long (Int32.toInt64 v3)]) rfl rfl ?_
  refine y_pure (pc' := 52) (st' := [.ref 866, .int (nI 97), .long (nJ 97), .long (Int32.toInt64 v3)]) rfl rfl ?_
  refine y_getf (pc' := 55) (v := .ref 883) rfl rfl rfl zc_866 rfl rfl ?_
  refine y_pure (pc' := 56) (st' := [.int (nI 0), .ref 883, .int (nI 97), .long (nJ 97), .long (Int32.toInt64 v3)]) rfl rfl ?_
  refine y_iald (pc' := 57) rfl zc_883 (by decide) rfl ?_
  refine y_pure (pc' := 58) (st' := [.int ((nI 97) + (M2.1 883 0)), .long (nJ 97), .long (Int32.toInt64 v3)]) rfl rfl ?_
  refine y_pure (pc' := 59) (st' := [.int (nI 1), .int ((nI 97) + (M2.1 883 0)), .long (nJ 97), .long (Int32.toInt64 v3)]) rfl rfl ?_
  refine y_pure (pc' := 60) (st' := [.int (((nI 97) + (M2.1 883 0)) - (nI 1)), .long (nJ 97), .long (Int32.toInt64 v3)]) rfl rfl ?_
  refine y_pure (pc' := 61) (st' := [.long (Int32.toInt64 (((nI 97) + (M2.1 883 0)) - (nI 1))), .long (nJ 97), .long (Int32.toInt64 v3)]) rfl rfl ?_
  obtain ⟨v6, M5, he4, h⟩ := zC1_inv h
  refine y_callS (pc' := 64) (y := zmM_in) (a := [.long (Int32.toInt64 v3), .long (nJ 97), .long (Int32.toInt64 (((nI 97) + (M2.1 883 0)) - (nI 1)))]) (st' := []) rfl rfl rfl rfl rfl rfl he4 rfl rfl ?_
  refine y_pure (pc' := 65) (ls' := [(0, .ref 866), (1, .int x1), (2, .int v6)]) (st' := []) rfl rfl ?_
  refine y_pure (pc' := 66) (st' := [.int v6]) rfl rfl ?_
  rcases zif_inv h with ⟨hc7, h⟩ | ⟨hc7, h⟩
  · refine y_cnd (pc' := 92) rfl rfl (zc_eqT hc7) rfl ?_
    refine zEx_sub ?_ h
    exact ⟨rfl, rfl, trivial⟩
  · refine y_cnd (pc' := 69) rfl rfl (zc_eqF hc7) rfl ?_
    refine y_pure (pc' := 70) (st' := [.ref 866]) rfl rfl ?_
    refine y_getf (pc' := 73) (v := .ref 883) rfl rfl rfl zc_866 rfl rfl ?_
    refine y_pure (pc' := 74) (st' := [.int x1, .ref 883]) rfl rfl ?_
    refine y_pure (pc' := 75) (st' := [.int (nI 3), .int x1, .ref 883]) rfl rfl ?_
    refine y_pure (pc' := 76) (st' := [.int (x1 + (nI 3)), .ref 883]) rfl rfl ?_
    obtain ⟨hi8, h⟩ := zg_inv h
    refine y_iald (pc' := 77) rfl zc_883 hi8 rfl ?_
    refine y_pure (pc' := 79) (st' := [.int (nI 6), .int (M5.1 883 (Int32.toNatClampNeg (x1 + (nI 3))))]) rfl rfl ?_
    rcases zif_inv h with ⟨hc9, h⟩ | ⟨hc9, h⟩
    · refine y_cmp (pc' := 82) rfl rfl (zc_neF hc9) rfl ?_
      refine y_pure (pc' := 83) (st' := [.ref 866]) rfl rfl ?_
      refine y_pure (pc' := 84) (st' := [.int (nI 3), .ref 866]) rfl rfl ?_
      refine y_pure (pc' := 85) (st' := [.ref 866, .int (nI 3), .ref 866]) rfl rfl ?_
      refine y_getf (pc' := 88) (v := .int (M5.1 866 36)) rfl rfl rfl zc_866 rfl rfl ?_
      obtain ⟨v12, M11, he10, h⟩ := zC1_inv h
      refine y_callV (pc' := 91) (y := zmM_fails) (a' := [.int (nI 3), .int (M5.1 866 36)]) (st' := []) rfl rfl rfl rfl rfl (zrecv_o (o := 10) zc_866 rfl) rfl he10 rfl rfl ?_
      obtain ⟨hb13, h⟩ := zg_inv h
      exact y_retZ rfl rfl hb13 h
    · refine y_cmp (pc' := 92) rfl rfl (zc_neT hc9) rfl ?_
      refine zEx_sub ?_ h
      exact ⟨rfl, rfl, trivial⟩
theorem e_M_readsCage_92 {d : Nat} {x1 : Int32} {M : ZM} {r : ZR}  (h : zC1 (zEv d zmM_readsCell [.ref 866, .int (nI 0)] M) (fun v3 M2 => (if v3 = (nI 0) then some (some (.int (nI 0)), M2) else zC1 (zEv d zmM_isInRow [.ref 866, .int x1] M2) (fun v7 M6 => (if v7 = (nI 0) then zC0 (zEv d zmM_comesInto [.ref 866, .int x1, .int (M6.1 866 41)] M6) (fun M10 => zC1 (zEv d zmM_isLetterNext [.ref 866] M10) (fun v13 M12 => (if v13 = (nI 0) then some (some (.int (nI 1)), (zpi M12 883 3 ((M12.1 883 3) + (nI 1)))) else h_M_readsCage_41 d x1 M12))) else zC1 (zEv d zmM_fails [.ref 866, .int (nI 2), .int (M6.1 866 39)] M6) (fun v17 M16 => (if v17 = nI 0 ∨ v17 = nI 1 then some (some (.int v17), M16) else none)))))) = some r) : h_M_readsCage_92 d x1 M = some r := by
  show zEx0 (zEv d) zmM_readsCage (92, [(0, .ref 866), (1, .int x1)], [], M) = some r
  refine y_pure (pc' := 93) (st' := [.ref 866]) rfl rfl ?_
  refine y_pure (pc' := 94) (st' := [.int (nI 0), .ref 866]) rfl rfl ?_
  obtain ⟨v3, M2, he1, h⟩ := zC1_inv h
  refine y_callV (pc' := 97) (y := zmM_readsCell) (a' := [.int (nI 0)]) (st' := []) rfl rfl rfl rfl rfl (zrecv_o (o := 10) zc_866 rfl) rfl he1 rfl rfl ?_
  rcases zif_inv h with ⟨hc4, h⟩ | ⟨hc4, h⟩
  · refine y_cnd (pc' := 100) rfl rfl (zc_neF hc4) rfl ?_
    refine y_pure (pc' := 101) (st' := [.int (nI 0)]) rfl rfl ?_
    exact y_retZ rfl rfl (by decide) h
  · refine y_cnd (pc' := 102) rfl rfl (zc_neT hc4) rfl ?_
    refine y_pure (pc' := 103) (st' := [.ref 866]) rfl rfl ?_
    refine y_pure (pc' := 104) (st' := [.int x1, .ref 866]) rfl rfl ?_
    obtain ⟨v7, M6, he5, h⟩ := zC1_inv h
    refine y_callV (pc' := 107) (y := zmM_isInRow) (a' := [.int x1]) (st' := []) rfl rfl rfl rfl rfl (zrecv_o (o := 10) zc_866 rfl) rfl he5 rfl rfl ?_
    rcases zif_inv h with ⟨hc8, h⟩ | ⟨hc8, h⟩
    · refine y_cnd (pc' := 120) rfl rfl (zc_eqT hc8) rfl ?_
      refine y_pure (pc' := 121) (st' := [.ref 866]) rfl rfl ?_
      refine y_pure (pc' := 122) (st' := [.int x1, .ref 866]) rfl rfl ?_
      refine y_pure (pc' := 123) (st' := [.ref 866, .int x1, .ref 866]) rfl rfl ?_
      refine y_getf (pc' := 126) (v := .int (M6.1 866 41)) rfl rfl rfl zc_866 rfl rfl ?_
      obtain ⟨M10, he9, h⟩ := zC0_inv h
      refine y_callV (pc' := 129) (y := zmM_comesInto) (a' := [.int x1, .int (M6.1 866 41)]) (st' := []) rfl rfl rfl rfl rfl (zrecv_o (o := 10) zc_866 rfl) rfl he9 rfl rfl ?_
      refine y_pure (pc' := 130) (st' := [.ref 866]) rfl rfl ?_
      obtain ⟨v13, M12, he11, h⟩ := zC1_inv h
      refine y_callV (pc' := 133) (y := zmM_isLetterNext) (a' := []) (st' := []) rfl rfl rfl rfl rfl (zrecv_o (o := 10) zc_866 rfl) rfl he11 rfl rfl ?_
      rcases zif_inv h with ⟨hc14, h⟩ | ⟨hc14, h⟩
      · refine y_cnd (pc' := 136) rfl rfl (zc_neF hc14) rfl ?_
        refine y_pure (pc' := 137) (st' := [.ref 866]) rfl rfl ?_
        refine y_getf (pc' := 140) (v := .ref 883) rfl rfl rfl zc_866 rfl rfl ?_
        refine y_pure (pc' := 141) (st' := [.int (nI 3), .ref 883]) rfl rfl ?_
        refine y_pure (pc' := 142) (st' := [.int (nI 3), .ref 883, .int (nI 3), .ref 883]) rfl rfl ?_
        refine y_iald (pc' := 143) rfl zc_883 (by decide) rfl ?_
        refine y_pure (pc' := 144) (st' := [.int (nI 1), .int (M12.1 883 3), .int (nI 3), .ref 883]) rfl rfl ?_
        refine y_pure (pc' := 145) (st' := [.int ((M12.1 883 3) + (nI 1)), .int (nI 3), .ref 883]) rfl rfl ?_
        refine y_iast (pc' := 146) rfl zc_883 (by decide) rfl ?_
        refine y_pure (pc' := 147) (st' := [.int (nI 1)]) rfl rfl ?_
        exact y_retZ rfl rfl (by decide) h
      · refine y_cnd (pc' := 41) rfl rfl (zc_neT hc14) rfl ?_
        refine zEx_sub ?_ h
        exact ⟨rfl, rfl, trivial⟩
    · refine y_cnd (pc' := 110) rfl rfl (zc_eqF hc8) rfl ?_
      refine y_pure (pc' := 111) (st' := [.ref 866]) rfl rfl ?_
      refine y_pure (pc' := 112) (st' := [.int (nI 2), .ref 866]) rfl rfl ?_
      refine y_pure (pc' := 113) (st' := [.ref 866, .int (nI 2), .ref 866]) rfl rfl ?_
      refine y_getf (pc' := 116) (v := .int (M6.1 866 39)) rfl rfl rfl zc_866 rfl rfl ?_
      obtain ⟨v17, M16, he15, h⟩ := zC1_inv h
      refine y_callV (pc' := 119) (y := zmM_fails) (a' := [.int (nI 2), .int (M6.1 866 39)]) (st' := []) rfl rfl rfl rfl rfl (zrecv_o (o := 10) zc_866 rfl) rfl he15 rfl rfl ?_
      obtain ⟨hb18, h⟩ := zg_inv h
      exact y_retZ rfl rfl hb18 h
theorem e_M_readsCage {d : Nat}  {M : ZM} {r : ZR}  (h : zC1 (zEv d zmM_begins [.ref 866, .ref 11] M) (fun v3 M2 => (if v3 = (nI 0) then some (some (.int (nI 0)), M2) else zC1 (zEv d zmM_readsTotal [.ref 866, .int ((nI 148) + ((nI 10) * (M2.1 883 3)))] M2) (fun v7 M6 => (if v7 = (nI 0) then some (some (.int (nI 0)), M6) else zC0 (zEv d zmM_readsAlike [.ref 866, .int ((nI 148) + ((nI 10) * (M2.1 883 3)))] M6) (fun M10 => h_M_readsCage_41 d ((nI 148) + ((nI 10) * (M2.1 883 3))) M10))))) = some r) : zEv (d + 1) zmM_readsCage [.ref 866] M = some r := by
  rw [zEv_succ]
  show zEx0 (zEv d) zmM_readsCage (0, [(0, .ref 866)], [], M) = some r
  refine y_pure (pc' := 1) (st' := [.ref 866]) rfl rfl ?_
  refine y_ldwX (pc' := 4) (q := 11) rfl rfl rfl rfl ?_
  obtain ⟨v3, M2, he1, h⟩ := zC1_inv h
  refine y_callV (pc' := 7) (y := zmM_begins) (a' := [.ref 11]) (st' := []) rfl rfl rfl rfl rfl (zrecv_o (o := 10) zc_866 rfl) rfl he1 rfl rfl ?_
  rcases zif_inv h with ⟨hc4, h⟩ | ⟨hc4, h⟩
  · refine y_cnd (pc' := 10) rfl rfl (zc_neF hc4) rfl ?_
    refine y_pure (pc' := 11) (st' := [.int (nI 0)]) rfl rfl ?_
    exact y_retZ rfl rfl (by decide) h
  · refine y_cnd (pc' := 12) rfl rfl (zc_neT hc4) rfl ?_
    refine y_pure (pc' := 15) (st' := [.int (nI 148)]) rfl rfl ?_
    refine y_pure (pc' := 17) (st' := [.int (nI 10), .int (nI 148)]) rfl rfl ?_
    refine y_pure (pc' := 18) (st' := [.ref 866, .int (nI 10), .int (nI 148)]) rfl rfl ?_
    refine y_getf (pc' := 21) (v := .ref 883) rfl rfl rfl zc_866 rfl rfl ?_
    refine y_pure (pc' := 22) (st' := [.int (nI 3), .ref 883, .int (nI 10), .int (nI 148)]) rfl rfl ?_
    refine y_iald (pc' := 23) rfl zc_883 (by decide) rfl ?_
    refine y_pure (pc' := 24) (st' := [.int ((nI 10) * (M2.1 883 3)), .int (nI 148)]) rfl rfl ?_
    refine y_pure (pc' := 25) (st' := [.int ((nI 148) + ((nI 10) * (M2.1 883 3)))]) rfl rfl ?_
    refine y_pure (pc' := 26) (ls' := [(0, .ref 866), (1, .int ((nI 148) + ((nI 10) * (M2.1 883 3))))]) (st' := []) rfl rfl ?_
    refine y_pure (pc' := 27) (st' := [.ref 866]) rfl rfl ?_
    refine y_pure (pc' := 28) (st' := [.int ((nI 148) + ((nI 10) * (M2.1 883 3))), .ref 866]) rfl rfl ?_
    obtain ⟨v7, M6, he5, h⟩ := zC1_inv h
    refine y_callV (pc' := 31) (y := zmM_readsTotal) (a' := [.int ((nI 148) + ((nI 10) * (M2.1 883 3)))]) (st' := []) rfl rfl rfl rfl rfl (zrecv_o (o := 10) zc_866 rfl) rfl he5 rfl rfl ?_
    rcases zif_inv h with ⟨hc8, h⟩ | ⟨hc8, h⟩
    · refine y_cnd (pc' := 34) rfl rfl (zc_neF hc8) rfl ?_
      refine y_pure (pc' := 35) (st' := [.int (nI 0)]) rfl rfl ?_
      exact y_retZ rfl rfl (by decide) h
    · refine y_cnd (pc' := 36) rfl rfl (zc_neT hc8) rfl ?_
      refine y_pure (pc' := 37) (st' := [.ref 866]) rfl rfl ?_
      refine y_pure (pc' := 38) (st' := [.int ((nI 148) + ((nI 10) * (M2.1 883 3))), .ref 866]) rfl rfl ?_
      obtain ⟨M10, he9, h⟩ := zC0_inv h
      refine y_callV (pc' := 41) (y := zmM_readsAlike) (a' := [.int ((nI 148) + ((nI 10) * (M2.1 883 3)))]) (st' := []) rfl rfl rfl rfl rfl (zrecv_o (o := 10) zc_866 rfl) rfl he9 rfl rfl ?_
      refine zEx_sub ?_ h
      exact ⟨rfl, rfl, trivial⟩
noncomputable def h_M_readsLine_100 (d : Nat) (x2 : Int32) (x3 : Int32) (x5 : Int32) (x6 : Int32) (M : ZM) : Option ZR := zEx0 (zEv d) zmM_readsLine (100, [(0, .ref 866), (2, .int x2), (3, .int x3), (5, .int x5), (6, .int x6)], [], M)
theorem e_M_readsLine_100 {d : Nat} {x2 : Int32} {x3 : Int32} {x5 : Int32} {x6 : Int32} {M : ZM} {r : ZR}  (h : (if x6 < x5 then (if zin ((nI 4) + x6) 268 = true then (if (M.1 883 (Int32.toNatClampNeg ((nI 4) + x6))) = (nI 0) then zC0 (zEv d zmM_comesInto [.ref 866, .int x3, .int x6] M) (fun M5 => (if x2 = (nI 0) then h_M_readsLine_100 d x2 x3 x5 (x6 + (nI 1)) M5 else h_M_readsLine_100 d x2 x3 x5 (x6 + (M5.1 883 0)) M5)) else some (some (.int (nI 1)), (zpi M 883 3 ((M.1 883 3) + (nI 1))))) else none) else some (some (.int (nI 1)), (zpi M 883 3 ((M.1 883 3) + (nI 1))))) = some r) : h_M_readsLine_100 d x2 x3 x5 x6 M = some r := by
  show zEx0 (zEv d) zmM_readsLine (100, [(0, .ref 866), (2, .int x2), (3, .int x3), (5, .int x5), (6, .int x6)], [], M) = some r
  refine y_pure (pc' := 102) (st' := [.int x6]) rfl rfl ?_
  refine y_pure (pc' := 104) (st' := [.int x5, .int x6]) rfl rfl ?_
  rcases zif_inv h with ⟨hc1, h⟩ | ⟨hc1, h⟩
  · refine y_cmp (pc' := 107) rfl rfl (zc_geF hc1) rfl ?_
    refine y_pure (pc' := 108) (st' := [.ref 866]) rfl rfl ?_
    refine y_getf (pc' := 111) (v := .ref 883) rfl rfl rfl zc_866 rfl rfl ?_
    refine y_pure (pc' := 112) (st' := [.int (nI 4), .ref 883]) rfl rfl ?_
    refine y_pure (pc' := 114) (st' := [.int x6, .int (nI 4), .ref 883]) rfl rfl ?_
    refine y_pure (pc' := 115) (st' := [.int ((nI 4) + x6), .ref 883]) rfl rfl ?_
    obtain ⟨hi2, h⟩ := zg_inv h
    refine y_iald (pc' := 116) rfl zc_883 hi2 rfl ?_
    rcases zif_inv h with ⟨hc3, h⟩ | ⟨hc3, h⟩
    · refine y_cnd (pc' := 119) rfl rfl (zc_neF hc3) rfl ?_
      refine y_pure (pc' := 120) (st' := [.ref 866]) rfl rfl ?_
      refine y_pure (pc' := 121) (st' := [.int x3, .ref 866]) rfl rfl ?_
      refine y_pure (pc' := 123) (st' := [.int x6, .int x3, .ref 866]) rfl rfl ?_
      obtain ⟨M5, he4, h⟩ := zC0_inv h
      refine y_callV (pc' := 126) (y := zmM_comesInto) (a' := [.int x3, .int x6]) (st' := []) rfl rfl rfl rfl rfl (zrecv_o (o := 10) zc_866 rfl) rfl he4 rfl rfl ?_
      refine y_pure (pc' := 128) (st' := [.int x6]) rfl rfl ?_
      refine y_pure (pc' := 129) (st' := [.int x2, .int x6]) rfl rfl ?_
      rcases zif_inv h with ⟨hc6, h⟩ | ⟨hc6, h⟩
      · refine y_cnd (pc' := 141) rfl rfl (zc_eqT hc6) rfl ?_
        refine y_pure (pc' := 142) (st' := [.int (nI 1), .int x6]) rfl rfl ?_
        refine y_pure (pc' := 143) (st' := [.int (x6 + (nI 1))]) rfl rfl ?_
        refine y_pure (pc' := 145) (ls' := [(0, .ref 866), (2, .int x2), (3, .int x3), (5, .int x5), (6, .int (x6 + (nI 1)))]) (st' := []) rfl rfl ?_
        refine y_pure (pc' := 100) rfl rfl ?_
        refine zEx_sub ?_ h
        exact ⟨rfl, rfl, rfl, rfl, rfl, trivial⟩
      · refine y_cnd (pc' := 132) rfl rfl (zc_eqF hc6) rfl ?_
        refine y_pure (pc' := 133) (st' := [.ref 866, .int x6]) rfl rfl ?_
        refine y_getf (pc' := 136) (v := .ref 883) rfl rfl rfl zc_866 rfl rfl ?_
        refine y_pure (pc' := 137) (st' := [.int (nI 0), .ref 883, .int x6]) rfl rfl ?_
        refine y_iald (pc' := 138) rfl zc_883 (by decide) rfl ?_
        refine y_pure (pc' := 142) rfl rfl ?_
        refine y_pure (pc' := 143) (st' := [.int (x6 + (M5.1 883 0))]) rfl rfl ?_
        refine y_pure (pc' := 145) (ls' := [(0, .ref 866), (2, .int x2), (3, .int x3), (5, .int x5), (6, .int (x6 + (M5.1 883 0)))]) (st' := []) rfl rfl ?_
        refine y_pure (pc' := 100) rfl rfl ?_
        refine zEx_sub ?_ h
        exact ⟨rfl, rfl, rfl, rfl, rfl, trivial⟩
    · refine y_cnd (pc' := 148) rfl rfl (zc_neT hc3) rfl ?_
      refine y_pure (pc' := 149) (st' := [.ref 866]) rfl rfl ?_
      refine y_getf (pc' := 152) (v := .ref 883) rfl rfl rfl zc_866 rfl rfl ?_
      refine y_pure (pc' := 153) (st' := [.int (nI 3), .ref 883]) rfl rfl ?_
      refine y_pure (pc' := 154) (st' := [.int (nI 3), .ref 883, .int (nI 3), .ref 883]) rfl rfl ?_
      refine y_iald (pc' := 155) rfl zc_883 (by decide) rfl ?_
      refine y_pure (pc' := 156) (st' := [.int (nI 1), .int (M.1 883 3), .int (nI 3), .ref 883]) rfl rfl ?_
      refine y_pure (pc' := 157) (st' := [.int ((M.1 883 3) + (nI 1)), .int (nI 3), .ref 883]) rfl rfl ?_
      refine y_iast (pc' := 158) rfl zc_883 (by decide) rfl ?_
      refine y_pure (pc' := 159) (st' := [.int (nI 1)]) rfl rfl ?_
      exact y_retZ rfl rfl (by decide) h
  · refine y_cmp (pc' := 148) rfl rfl (zc_geT hc1) rfl ?_
    refine y_pure (pc' := 149) (st' := [.ref 866]) rfl rfl ?_
    refine y_getf (pc' := 152) (v := .ref 883) rfl rfl rfl zc_866 rfl rfl ?_
    refine y_pure (pc' := 153) (st' := [.int (nI 3), .ref 883]) rfl rfl ?_
    refine y_pure (pc' := 154) (st' := [.int (nI 3), .ref 883, .int (nI 3), .ref 883]) rfl rfl ?_
    refine y_iald (pc' := 155) rfl zc_883 (by decide) rfl ?_
    refine y_pure (pc' := 156) (st' := [.int (nI 1), .int (M.1 883 3), .int (nI 3), .ref 883]) rfl rfl ?_
    refine y_pure (pc' := 157) (st' := [.int ((M.1 883 3) + (nI 1)), .int (nI 3), .ref 883]) rfl rfl ?_
    refine y_iast (pc' := 158) rfl zc_883 (by decide) rfl ?_
    refine y_pure (pc' := 159) (st' := [.int (nI 1)]) rfl rfl ?_
    exact y_retZ rfl rfl (by decide) h
theorem e_M_readsLine {d : Nat} {x1 w1 : Nat} {x2 : Int32} {M : ZM} {r : ZR} (hk1 : zkd x1 = (7, w1)) (h : zC1 (zEv d zmM_begins [.ref 866, .ref x1] M) (fun v3 M2 => (if v3 = (nI 0) then some (some (.int (nI 0)), M2) else zC1 (zEv d zmM_readsCell [.ref 866, .int (nI 0)] M2) (fun v7 M6 => (if v7 = (nI 0) then some (some (.int (nI 0)), M6) else zC1 (zEv d zmM_readsTotal [.ref 866, .int ((nI 148) + ((nI 10) * (M2.1 883 3)))] M6) (fun v11 M10 => (if v11 = (nI 0) then some (some (.int (nI 0)), M10) else zC0 (zEv d zmM_readsAlike [.ref 866, .int ((nI 148) + ((nI 10) * (M2.1 883 3)))] M10) (fun M14 => (if x2 = (nI 0) then (if (M14.1 883 0) = nI 0 then none else zL (((M6.1 866 41) - ((M6.1 866 41) - (M6.1 866 41) / (M14.1 883 0) * (M14.1 883 0))) + (M14.1 883 0)) (fun y17 => h_M_readsLine_100 d x2 ((nI 148) + ((nI 10) * (M2.1 883 3))) y17 (M6.1 866 41) M14)) else h_M_readsLine_100 d x2 ((nI 148) + ((nI 10) * (M2.1 883 3))) ((M14.1 883 0) * (M14.1 883 1)) (M6.1 866 41) M14)))))))) = some r) : zEv (d + 1) zmM_readsLine [.ref 866, .ref x1, .int x2] M = some r := by
  rw [zEv_succ]
  show zEx0 (zEv d) zmM_readsLine (0, [(0, .ref 866), (1, .ref x1), (2, .int x2)], [], M) = some r
  refine y_pure (pc' := 1) (st' := [.ref 866]) rfl rfl ?_
  refine y_pure (pc' := 2) (st' := [.ref x1, .ref 866]) rfl rfl ?_
  obtain ⟨v3, M2, he1, h⟩ := zC1_inv h
  refine y_callV (pc' := 5) (y := zmM_begins) (a' := [.ref x1]) (st' := []) rfl rfl rfl rfl rfl (zrecv_o (o := 10) zc_866 rfl) rfl he1 rfl rfl ?_
  rcases zif_inv h with ⟨hc4, h⟩ | ⟨hc4, h⟩
  · refine y_cnd (pc' := 8) rfl rfl (zc_neF hc4) rfl ?_
    refine y_pure (pc' := 9) (st' := [.int (nI 0)]) rfl rfl ?_
    exact y_retZ rfl rfl (by decide) h
  · refine y_cnd (pc' := 10) rfl rfl (zc_neT hc4) rfl ?_
    refine y_pure (pc' := 13) (st' := [.int (nI 148)]) rfl rfl ?_
    refine y_pure (pc' := 15) (st' := [.int (nI 10), .int (nI 148)]) rfl rfl ?_
    refine y_pure (pc' := 16) (st' := [.ref 866, .int (nI 10), .int (nI 148)]) rfl rfl ?_
    refine y_getf (pc' := 19) (v := .ref 883) rfl rfl rfl zc_866 rfl rfl ?_
    refine y_pure (pc' := 20) (st' := [.int (nI 3), .ref 883, .int (nI 10), .int (nI 148)]) rfl rfl ?_
    refine y_iald (pc' := 21) rfl zc_883 (by decide) rfl ?_
    refine y_pure (pc' := 22) (st' := [.int ((nI 10) * (M2.1 883 3)), .int (nI 148)]) rfl rfl ?_
    refine y_pure (pc' := 23) (st' := [.int ((nI 148) + ((nI 10) * (M2.1 883 3)))]) rfl rfl ?_
    refine y_pure (pc' := 24) (ls' := [(0, .ref 866), (1, .ref x1), (2, .int x2), (3, .int ((nI 148) + ((nI 10) * (M2.1 883 3))))]) (st' := []) rfl rfl ?_
    refine y_pure (pc' := 25) (st' := [.ref 866]) rfl rfl ?_
    refine y_pure (pc' := 26) (st' := [.int (nI 0), .ref 866]) rfl rfl ?_
    obtain ⟨v7, M6, he5, h⟩ := zC1_inv h
    refine y_callV (pc' := 29) (y := zmM_readsCell) (a' := [.int (nI 0)]) (st' := []) rfl rfl rfl rfl rfl (zrecv_o (o := 10) zc_866 rfl) rfl he5 rfl rfl ?_
    rcases zif_inv h with ⟨hc8, h⟩ | ⟨hc8, h⟩
    · refine y_cnd (pc' := 32) rfl rfl (zc_neF hc8) rfl ?_
      refine y_pure (pc' := 33) (st' := [.int (nI 0)]) rfl rfl ?_
      exact y_retZ rfl rfl (by decide) h
    · refine y_cnd (pc' := 34) rfl rfl (zc_neT hc8) rfl ?_
      refine y_pure (pc' := 35) (st' := [.ref 866]) rfl rfl ?_
      refine y_getf (pc' := 38) (v := .int (M6.1 866 41)) rfl rfl rfl zc_866 rfl rfl ?_
      refine y_pure (pc' := 40) (ls' := [(0, .ref 866), (1, .ref x1), (2, .int x2), (3, .int ((nI 148) + ((nI 10) * (M2.1 883 3)))), (4, .int (M6.1 866 41))]) (st' := []) rfl rfl ?_
      refine y_pure (pc' := 41) (st' := [.ref 866]) rfl rfl ?_
      refine y_pure (pc' := 42) (st' := [.int ((nI 148) + ((nI 10) * (M2.1 883 3))), .ref 866]) rfl rfl ?_
      obtain ⟨v11, M10, he9, h⟩ := zC1_inv h
      refine y_callV (pc' := 45) (y := zmM_readsTotal) (a' := [.int ((nI 148) + ((nI 10) * (M2.1 883 3)))]) (st' := []) rfl rfl rfl rfl rfl (zrecv_o (o := 10) zc_866 rfl) rfl he9 rfl rfl ?_
      rcases zif_inv h with ⟨hc12, h⟩ | ⟨hc12, h⟩
      · refine y_cnd (pc' := 48) rfl rfl (zc_neF hc12) rfl ?_
        refine y_pure (pc' := 49) (st' := [.int (nI 0)]) rfl rfl ?_
        exact y_retZ rfl rfl (by decide) h
      · refine y_cnd (pc' := 50) rfl rfl (zc_neT hc12) rfl ?_
        refine y_pure (pc' := 51) (st' := [.ref 866]) rfl rfl ?_
        refine y_pure (pc' := 52) (st' := [.int ((nI 148) + ((nI 10) * (M2.1 883 3))), .ref 866]) rfl rfl ?_
        obtain ⟨M14, he13, h⟩ := zC0_inv h
        refine y_callV (pc' := 55) (y := zmM_readsAlike) (a' := [.int ((nI 148) + ((nI 10) * (M2.1 883 3)))]) (st' := []) rfl rfl rfl rfl rfl (zrecv_o (o := 10) zc_866 rfl) rfl he13 rfl rfl ?_
        refine y_pure (pc' := 56) (st' := [.int x2]) rfl rfl ?_
        rcases zif_inv h with ⟨hc15, h⟩ | ⟨hc15, h⟩
        · refine y_cnd (pc' := 75) rfl rfl (zc_eqT hc15) rfl ?_
          refine y_pure (pc' := 77) (st' := [.int (M6.1 866 41)]) rfl rfl ?_
          refine y_pure (pc' := 79) (st' := [.int (M6.1 866 41), .int (M6.1 866 41)]) rfl rfl ?_
          refine y_pure (pc' := 80) (st' := [.ref 866, .int (M6.1 866 41), .int (M6.1 866 41)]) rfl rfl ?_
          refine y_getf (pc' := 83) (v := .ref 883) rfl rfl rfl zc_866 rfl rfl ?_
          refine y_pure (pc' := 84) (st' := [.int (nI 0), .ref 883, .int (M6.1 866 41), .int (M6.1 866 41)]) rfl rfl ?_
          refine y_iald (pc' := 85) rfl zc_883 (by decide) rfl ?_
          obtain ⟨hb16, h⟩ := zd_inv h
          refine y_irem (pc' := 86) (st := [.int (M6.1 866 41)]) rfl hb16 rfl ?_
          refine y_pure (pc' := 87) (st' := [.int ((M6.1 866 41) - ((M6.1 866 41) - (M6.1 866 41) / (M14.1 883 0) * (M14.1 883 0)))]) rfl rfl ?_
          refine y_pure (pc' := 88) (st' := [.ref 866, .int ((M6.1 866 41) - ((M6.1 866 41) - (M6.1 866 41) / (M14.1 883 0) * (M14.1 883 0)))]) rfl rfl ?_
          refine y_getf (pc' := 91) (v := .ref 883) rfl rfl rfl zc_866 rfl rfl ?_
          refine y_pure (pc' := 92) (st' := [.int (nI 0), .ref 883, .int ((M6.1 866 41) - ((M6.1 866 41) - (M6.1 866 41) / (M14.1 883 0) * (M14.1 883 0)))]) rfl rfl ?_
          refine y_iald (pc' := 93) rfl zc_883 (by decide) rfl ?_
          refine y_pure (pc' := 94) (st' := [.int (((M6.1 866 41) - ((M6.1 866 41) - (M6.1 866 41) / (M14.1 883 0) * (M14.1 883 0))) + (M14.1 883 0))]) rfl rfl ?_
          obtain ⟨y17, e18, h⟩ := zL_inv h
          refine zT_gen e18 ?_
          refine y_pure (pc' := 96) (ls' := [(0, .ref 866), (1, .ref x1), (2, .int x2), (3, .int ((nI 148) + ((nI 10) * (M2.1 883 3)))), (4, .int (M6.1 866 41)), (5, .int y17)]) (st' := []) rfl rfl ?_
          refine y_pure (pc' := 98) (st' := [.int (M6.1 866 41)]) rfl rfl ?_
          refine y_pure (pc' := 100) (ls' := [(0, .ref 866), (1, .ref x1), (2, .int x2), (3, .int ((nI 148) + ((nI 10) * (M2.1 883 3)))), (4, .int (M6.1 866 41)), (5, .int y17), (6, .int (M6.1 866 41))]) (st' := []) rfl rfl ?_
          refine zEx_sub ?_ h
          exact ⟨rfl, rfl, rfl, rfl, rfl, trivial⟩
        · refine y_cnd (pc' := 59) rfl rfl (zc_eqF hc15) rfl ?_
          refine y_pure (pc' := 60) (st' := [.ref 866]) rfl rfl ?_
          refine y_getf (pc' := 63) (v := .ref 883) rfl rfl rfl zc_866 rfl rfl ?_
          refine y_pure (pc' := 64) (st' := [.int (nI 0), .ref 883]) rfl rfl ?_
          refine y_iald (pc' := 65) rfl zc_883 (by decide) rfl ?_
          refine y_pure (pc' := 66) (st' := [.ref 866, .int (M14.1 883 0)]) rfl rfl ?_
          refine y_getf (pc' := 69) (v := .ref 883) rfl rfl rfl zc_866 rfl rfl ?_
          refine y_pure (pc' := 70) (st' := [.int (nI 1), .ref 883, .int (M14.1 883 0)]) rfl rfl ?_
          refine y_iald (pc' := 71) rfl zc_883 (by decide) rfl ?_
          refine y_pure (pc' := 72) (st' := [.int ((M14.1 883 0) * (M14.1 883 1))]) rfl rfl ?_
          refine y_pure (pc' := 94) rfl rfl ?_
          refine y_pure (pc' := 96) (ls' := [(0, .ref 866), (1, .ref x1), (2, .int x2), (3, .int ((nI 148) + ((nI 10) * (M2.1 883 3)))), (4, .int (M6.1 866 41)), (5, .int ((M14.1 883 0) * (M14.1 883 1)))]) (st' := []) rfl rfl ?_
          refine y_pure (pc' := 98) (st' := [.int (M6.1 866 41)]) rfl rfl ?_
          refine y_pure (pc' := 100) (ls' := [(0, .ref 866), (1, .ref x1), (2, .int x2), (3, .int ((nI 148) + ((nI 10) * (M2.1 883 3)))), (4, .int (M6.1 866 41)), (5, .int ((M14.1 883 0) * (M14.1 883 1))), (6, .int (M6.1 866 41))]) (st' := []) rfl rfl ?_
          refine zEx_sub ?_ h
          exact ⟨rfl, rfl, rfl, rfl, rfl, trivial⟩
theorem e_M_readsGiven {d : Nat}  {M : ZM} {r : ZR}  (h : zC1 (zEv d zmM_readsCell [.ref 866, .int (nI 0)] (zpi M 866 36 ((M.1 866 36) + (nI 5)))) (fun v3 M2 => (if v3 = (nI 0) then some (some (.int (nI 0)), M2) else (if zin ((nI 76) + (M2.1 866 41)) 268 = true then (if (M2.1 883 (Int32.toNatClampNeg ((nI 76) + (M2.1 866 41)))) = (nI 1) then zC1 (zEv d zmM_fails [.ref 866, .int (nI 2), .int (M2.1 866 39)] M2) (fun v9 M8 => (if v9 = nI 0 ∨ v9 = nI 1 then some (some (.int v9), M8) else none)) else zC1 (zEv d zmM_readsTo [.ref 866, .int ((nI 40) + (M2.1 866 41)), .int (nI 1), .int (M2.1 883 2)] M2) (fun v13 M12 => (if v13 = (nI 0) then some (some (.int (nI 0)), M12) else some (some (.int (nI 1)), (zpi M12 883 (Int32.toNatClampNeg ((nI 76) + (M2.1 866 41))) (nI 1)))))) else none))) = some r) : zEv (d + 1) zmM_readsGiven [.ref 866] M = some r := by
  rw [zEv_succ]
  show zEx0 (zEv d) zmM_readsGiven (0, [(0, .ref 866)], [], M) = some r
  refine y_pure (pc' := 1) (st' := [.ref 866]) rfl rfl ?_
  refine y_pure (pc' := 2) (st' := [.ref 866, .ref 866]) rfl rfl ?_
  refine y_getf (pc' := 5) (v := .int (M.1 866 36)) rfl rfl rfl zc_866 rfl rfl ?_
  refine y_pure (pc' := 6) (st' := [.int (nI 5), .int (M.1 866 36), .ref 866]) rfl rfl ?_
  refine y_pure (pc' := 7) (st' := [.int ((M.1 866 36) + (nI 5)), .ref 866]) rfl rfl ?_
  refine y_putI (pc' := 10) rfl rfl zc_866 rfl ?_
  refine y_pure (pc' := 11) (st' := [.ref 866]) rfl rfl ?_
  refine y_pure (pc' := 12) (st' := [.int (nI 0), .ref 866]) rfl rfl ?_
  obtain ⟨v3, M2, he1, h⟩ := zC1_inv h
  refine y_callV (pc' := 15) (y := zmM_readsCell) (a' := [.int (nI 0)]) (st' := []) rfl rfl rfl rfl rfl (zrecv_o (o := 10) zc_866 rfl) rfl he1 rfl rfl ?_
  rcases zif_inv h with ⟨hc4, h⟩ | ⟨hc4, h⟩
  · refine y_cnd (pc' := 18) rfl rfl (zc_neF hc4) rfl ?_
    refine y_pure (pc' := 19) (st' := [.int (nI 0)]) rfl rfl ?_
    exact y_retZ rfl rfl (by decide) h
  · refine y_cnd (pc' := 20) rfl rfl (zc_neT hc4) rfl ?_
    refine y_pure (pc' := 21) (st' := [.ref 866]) rfl rfl ?_
    refine y_getf (pc' := 24) (v := .int (M2.1 866 41)) rfl rfl rfl zc_866 rfl rfl ?_
    refine y_pure (pc' := 25) (ls' := [(0, .ref 866), (1, .int (M2.1 866 41))]) (st' := []) rfl rfl ?_
    refine y_pure (pc' := 26) (st' := [.ref 866]) rfl rfl ?_
    refine y_getf (pc' := 29) (v := .ref 883) rfl rfl rfl zc_866 rfl rfl ?_
    refine y_pure (pc' := 31) (st' := [.int (nI 76), .ref 883]) rfl rfl ?_
    refine y_pure (pc' := 32) (st' := [.int (M2.1 866 41), .int (nI 76), .ref 883]) rfl rfl ?_
    refine y_pure (pc' := 33) (st' := [.int ((nI 76) + (M2.1 866 41)), .ref 883]) rfl rfl ?_
    obtain ⟨hi5, h⟩ := zg_inv h
    refine y_iald (pc' := 34) rfl zc_883 hi5 rfl ?_
    refine y_pure (pc' := 35) (st' := [.int (nI 1), .int (M2.1 883 (Int32.toNatClampNeg ((nI 76) + (M2.1 866 41))))]) rfl rfl ?_
    rcases zif_inv h with ⟨hc6, h⟩ | ⟨hc6, h⟩
    · refine y_cmp (pc' := 38) rfl rfl (zc_neF hc6) rfl ?_
      refine y_pure (pc' := 39) (st' := [.ref 866]) rfl rfl ?_
      refine y_pure (pc' := 40) (st' := [.int (nI 2), .ref 866]) rfl rfl ?_
      refine y_pure (pc' := 41) (st' := [.ref 866, .int (nI 2), .ref 866]) rfl rfl ?_
      refine y_getf (pc' := 44) (v := .int (M2.1 866 39)) rfl rfl rfl zc_866 rfl rfl ?_
      obtain ⟨v9, M8, he7, h⟩ := zC1_inv h
      refine y_callV (pc' := 47) (y := zmM_fails) (a' := [.int (nI 2), .int (M2.1 866 39)]) (st' := []) rfl rfl rfl rfl rfl (zrecv_o (o := 10) zc_866 rfl) rfl he7 rfl rfl ?_
      obtain ⟨hb10, h⟩ := zg_inv h
      exact y_retZ rfl rfl hb10 h
    · refine y_cmp (pc' := 48) rfl rfl (zc_neT hc6) rfl ?_
      refine y_pure (pc' := 49) (st' := [.ref 866]) rfl rfl ?_
      refine y_pure (pc' := 51) (st' := [.int (nI 40), .ref 866]) rfl rfl ?_
      refine y_pure (pc' := 52) (st' := [.int (M2.1 866 41), .int (nI 40), .ref 866]) rfl rfl ?_
      refine y_pure (pc' := 53) (st' := [.int ((nI 40) + (M2.1 866 41)), .ref 866]) rfl rfl ?_
      refine y_pure (pc' := 54) (st' := [.int (nI 1), .int ((nI 40) + (M2.1 866 41)), .ref 866]) rfl rfl ?_
      refine y_pure (pc' := 55) (st' := [.ref 866, .int (nI 1), .int ((nI 40) + (M2.1 866 41)), .ref 866]) rfl rfl ?_
      refine y_getf (pc' := 58) (v := .ref 883) rfl rfl rfl zc_866 rfl rfl ?_
      refine y_pure (pc' := 59) (st' := [.int (nI 2), .ref 883, .int (nI 1), .int ((nI 40) + (M2.1 866 41)), .ref 866]) rfl rfl ?_
      refine y_iald (pc' := 60) rfl zc_883 (by decide) rfl ?_
      obtain ⟨v13, M12, he11, h⟩ := zC1_inv h
      refine y_callV (pc' := 63) (y := zmM_readsTo) (a' := [.int ((nI 40) + (M2.1 866 41)), .int (nI 1), .int (M2.1 883 2)]) (st' := []) rfl rfl rfl rfl rfl (zrecv_o (o := 10) zc_866 rfl) rfl he11 rfl rfl ?_
      rcases zif_inv h with ⟨hc14, h⟩ | ⟨hc14, h⟩
      · refine y_cnd (pc' := 66) rfl rfl (zc_neF hc14) rfl ?_
        refine y_pure (pc' := 67) (st' := [.int (nI 0)]) rfl rfl ?_
        exact y_retZ rfl rfl (by decide) h
      · refine y_cnd (pc' := 68) rfl rfl (zc_neT hc14) rfl ?_
        refine y_pure (pc' := 69) (st' := [.ref 866]) rfl rfl ?_
        refine y_getf (pc' := 72) (v := .ref 883) rfl rfl rfl zc_866 rfl rfl ?_
        refine y_pure (pc' := 74) (st' := [.int (nI 76), .ref 883]) rfl rfl ?_
        refine y_pure (pc' := 75) (st' := [.int (M2.1 866 41), .int (nI 76), .ref 883]) rfl rfl ?_
        refine y_pure (pc' := 76) (st' := [.int ((nI 76) + (M2.1 866 41)), .ref 883]) rfl rfl ?_
        refine y_pure (pc' := 77) (st' := [.int (nI 1), .int ((nI 76) + (M2.1 866 41)), .ref 883]) rfl rfl ?_
        refine y_iast (pc' := 78) rfl zc_883 hi5 rfl ?_
        refine y_pure (pc' := 79) (st' := [.int (nI 1)]) rfl rfl ?_
        exact y_retZ rfl rfl (by decide) h
theorem e_M_readsPart {d : Nat}  {M : ZM} {r : ZR}  (h : zC1 (zEv d zmM_takesWord [.ref 866, .ref 9] M) (fun v3 M2 => (if v3 = (nI 0) then zC1 (zEv d zmM_isWord [.ref 866, .ref 11] M2) (fun v7 M6 => (if v7 = (nI 0) then zC1 (zEv d zmM_isWord [.ref 866, .ref 6] M6) (fun v11 M10 => (if v11 = (nI 0) then zC1 (zEv d zmM_isWord [.ref 866, .ref 12] M10) (fun v15 M14 => (if v15 = (nI 0) then zC1 (zEv d zmM_isWord [.ref 866, .ref 13] M14) (fun v19 M18 => (if v19 = (nI 0) then zC1 (zEv d zmM_fails [.ref 866, .int (nI 1), .int (M18.1 866 36)] M18) (fun v23 M22 => (if v23 = nI 0 ∨ v23 = nI 1 then some (some (.int v23), M22) else none)) else zC1 (zEv d zmM_readsGiven [.ref 866] M18) (fun v27 M26 => (if v27 = nI 0 ∨ v27 = nI 1 then some (some (.int v27), M26) else none)))) else zC1 (zEv d zmM_readsLine [.ref 866, .ref 12, .int (nI 1)] M14) (fun v31 M30 => (if v31 = nI 0 ∨ v31 = nI 1 then some (some (.int v31), M30) else none)))) else zC1 (zEv d zmM_readsLine [.ref 866, .ref 6, .int (nI 0)] M10) (fun v35 M34 => (if v35 = nI 0 ∨ v35 = nI 1 then some (some (.int v35), M34) else none)))) else zC1 (zEv d zmM_readsCage [.ref 866] M6) (fun v39 M38 => (if v39 = nI 0 ∨ v39 = nI 1 then some (some (.int v39), M38) else none)))) else zC1 (zEv d zmM_readsBlock [.ref 866] M2) (fun v43 M42 => (if v43 = nI 0 ∨ v43 = nI 1 then some (some (.int v43), M42) else none)))) = some r) : zEv (d + 1) zmM_readsPart [.ref 866] M = some r := by
  rw [zEv_succ]
  show zEx0 (zEv d) zmM_readsPart (0, [(0, .ref 866)], [], M) = some r
  refine y_pure (pc' := 1) (st' := [.ref 866]) rfl rfl ?_
  refine y_ldwX (pc' := 4) (q := 9) rfl rfl rfl rfl ?_
  obtain ⟨v3, M2, he1, h⟩ := zC1_inv h
  refine y_callV (pc' := 7) (y := zmM_takesWord) (a' := [.ref 9]) (st' := []) rfl rfl rfl rfl rfl (zrecv_o (o := 10) zc_866 rfl) rfl he1 rfl rfl ?_
  rcases zif_inv h with ⟨hc4, h⟩ | ⟨hc4, h⟩
  · refine y_cnd (pc' := 15) rfl rfl (zc_eqT hc4) rfl ?_
    refine y_pure (pc' := 16) (st' := [.ref 866]) rfl rfl ?_
    refine y_ldwX (pc' := 19) (q := 11) rfl rfl rfl rfl ?_
    obtain ⟨v7, M6, he5, h⟩ := zC1_inv h
    refine y_callV (pc' := 22) (y := zmM_isWord) (a' := [.ref 11]) (st' := []) rfl rfl rfl rfl rfl (zrecv_o (o := 10) zc_866 rfl) rfl he5 rfl rfl ?_
    rcases zif_inv h with ⟨hc8, h⟩ | ⟨hc8, h⟩
    · refine y_cnd (pc' := 30) rfl rfl (zc_eqT hc8) rfl ?_
      refine y_pure (pc' := 31) (st' := [.ref 866]) rfl rfl ?_
      refine y_ldwX (pc' := 34) (q := 6) rfl rfl rfl rfl ?_
      obtain ⟨v11, M10, he9, h⟩ := zC1_inv h
      refine y_callV (pc' := 37) (y := zmM_isWord) (a' := [.ref 6]) (st' := []) rfl rfl rfl rfl rfl (zrecv_o (o := 10) zc_866 rfl) rfl he9 rfl rfl ?_
      rcases zif_inv h with ⟨hc12, h⟩ | ⟨hc12, h⟩
      · refine y_cnd (pc' := 49) rfl rfl (zc_eqT hc12) rfl ?_
        refine y_pure (pc' := 50) (st' := [.ref 866]) rfl rfl ?_
        refine y_ldwX (pc' := 53) (q := 12) rfl rfl rfl rfl ?_
        obtain ⟨v15, M14, he13, h⟩ := zC1_inv h
        refine y_callV (pc' := 56) (y := zmM_isWord) (a' := [.ref 12]) (st' := []) rfl rfl rfl rfl rfl (zrecv_o (o := 10) zc_866 rfl) rfl he13 rfl rfl ?_
        rcases zif_inv h with ⟨hc16, h⟩ | ⟨hc16, h⟩
        · refine y_cnd (pc' := 68) rfl rfl (zc_eqT hc16) rfl ?_
          refine y_pure (pc' := 69) (st' := [.ref 866]) rfl rfl ?_
          refine y_ldwX (pc' := 72) (q := 13) rfl rfl rfl rfl ?_
          obtain ⟨v19, M18, he17, h⟩ := zC1_inv h
          refine y_callV (pc' := 75) (y := zmM_isWord) (a' := [.ref 13]) (st' := []) rfl rfl rfl rfl rfl (zrecv_o (o := 10) zc_866 rfl) rfl he17 rfl rfl ?_
          rcases zif_inv h with ⟨hc20, h⟩ | ⟨hc20, h⟩
          · refine y_cnd (pc' := 85) rfl rfl (zc_eqT hc20) rfl ?_
            refine y_pure (pc' := 86) (st' := [.ref 866]) rfl rfl ?_
            refine y_pure (pc' := 87) (st' := [.int (nI 1), .ref 866]) rfl rfl ?_
            refine y_pure (pc' := 88) (st' := [.ref 866, .int (nI 1), .ref 866]) rfl rfl ?_
            refine y_getf (pc' := 91) (v := .int (M18.1 866 36)) rfl rfl rfl zc_866 rfl rfl ?_
            obtain ⟨v23, M22, he21, h⟩ := zC1_inv h
            refine y_callV (pc' := 94) (y := zmM_fails) (a' := [.int (nI 1), .int (M18.1 866 36)]) (st' := []) rfl rfl rfl rfl rfl (zrecv_o (o := 10) zc_866 rfl) rfl he21 rfl rfl ?_
            obtain ⟨hb24, h⟩ := zg_inv h
            exact y_retZ rfl rfl hb24 h
          · refine y_cnd (pc' := 78) rfl rfl (zc_eqF hc20) rfl ?_
            refine y_pure (pc' := 79) (st' := [.ref 866]) rfl rfl ?_
            obtain ⟨v27, M26, he25, h⟩ := zC1_inv h
            refine y_callV (pc' := 82) (y := zmM_readsGiven) (a' := []) (st' := []) rfl rfl rfl rfl rfl (zrecv_o (o := 10) zc_866 rfl) rfl he25 rfl rfl ?_
            refine y_pure (pc' := 94) rfl rfl ?_
            obtain ⟨hb28, h⟩ := zg_inv h
            exact y_retZ rfl rfl hb28 h
        · refine y_cnd (pc' := 59) rfl rfl (zc_eqF hc16) rfl ?_
          refine y_pure (pc' := 60) (st' := [.ref 866]) rfl rfl ?_
          refine y_ldwX (pc' := 63) (q := 12) rfl rfl rfl rfl ?_
          refine y_pure (pc' := 64) (st' := [.int (nI 1), .ref 12, .ref 866]) rfl rfl ?_
          obtain ⟨v31, M30, he29, h⟩ := zC1_inv h
          refine y_callV (pc' := 67) (y := zmM_readsLine) (a' := [.ref 12, .int (nI 1)]) (st' := []) rfl rfl rfl rfl rfl (zrecv_o (o := 10) zc_866 rfl) rfl he29 rfl rfl ?_
          obtain ⟨hb32, h⟩ := zg_inv h
          exact y_retZ rfl rfl hb32 h
      · refine y_cnd (pc' := 40) rfl rfl (zc_eqF hc12) rfl ?_
        refine y_pure (pc' := 41) (st' := [.ref 866]) rfl rfl ?_
        refine y_ldwX (pc' := 44) (q := 6) rfl rfl rfl rfl ?_
        refine y_pure (pc' := 45) (st' := [.int (nI 0), .ref 6, .ref 866]) rfl rfl ?_
        obtain ⟨v35, M34, he33, h⟩ := zC1_inv h
        refine y_callV (pc' := 48) (y := zmM_readsLine) (a' := [.ref 6, .int (nI 0)]) (st' := []) rfl rfl rfl rfl rfl (zrecv_o (o := 10) zc_866 rfl) rfl he33 rfl rfl ?_
        obtain ⟨hb36, h⟩ := zg_inv h
        exact y_retZ rfl rfl hb36 h
    · refine y_cnd (pc' := 25) rfl rfl (zc_eqF hc8) rfl ?_
      refine y_pure (pc' := 26) (st' := [.ref 866]) rfl rfl ?_
      obtain ⟨v39, M38, he37, h⟩ := zC1_inv h
      refine y_callV (pc' := 29) (y := zmM_readsCage) (a' := []) (st' := []) rfl rfl rfl rfl rfl (zrecv_o (o := 10) zc_866 rfl) rfl he37 rfl rfl ?_
      obtain ⟨hb40, h⟩ := zg_inv h
      exact y_retZ rfl rfl hb40 h
  · refine y_cnd (pc' := 10) rfl rfl (zc_eqF hc4) rfl ?_
    refine y_pure (pc' := 11) (st' := [.ref 866]) rfl rfl ?_
    obtain ⟨v43, M42, he41, h⟩ := zC1_inv h
    refine y_callV (pc' := 14) (y := zmM_readsBlock) (a' := []) (st' := []) rfl rfl rfl rfl rfl (zrecv_o (o := 10) zc_866 rfl) rfl he41 rfl rfl ?_
    obtain ⟨hb44, h⟩ := zg_inv h
    exact y_retZ rfl rfl hb44 h
noncomputable def h_M_openRead_4 (d : Nat) (x1 : Int32) (x2 : Int32) (M : ZM) : Option ZR := zEx0 (zEv d) zmM_openRead (4, [(0, .ref 866), (1, .int x1), (2, .int x2)], [], M)
theorem e_M_openRead_4 {d : Nat} {x1 : Int32} {x2 : Int32} {M : ZM} {r : ZR}  (h : (if x2 < ((M.1 883 0) * (M.1 883 1)) then (if zin ((nI 4) + x2) 268 = true then zL (x1 + ((nI 1) - (M.1 883 (Int32.toNatClampNeg ((nI 4) + x2))))) (fun y3 => h_M_openRead_4 d y3 (x2 + (nI 1)) M) else none) else some (some (.int x1), M)) = some r) : h_M_openRead_4 d x1 x2 M = some r := by
  show zEx0 (zEv d) zmM_openRead (4, [(0, .ref 866), (1, .int x1), (2, .int x2)], [], M) = some r
  refine y_pure (pc' := 5) (st' := [.int x2]) rfl rfl ?_
  refine y_pure (pc' := 6) (st' := [.ref 866, .int x2]) rfl rfl ?_
  refine y_getf (pc' := 9) (v := .ref 883) rfl rfl rfl zc_866 rfl rfl ?_
  refine y_pure (pc' := 10) (st' := [.int (nI 0), .ref 883, .int x2]) rfl rfl ?_
  refine y_iald (pc' := 11) rfl zc_883 (by decide) rfl ?_
  refine y_pure (pc' := 12) (st' := [.ref 866, .int (M.1 883 0), .int x2]) rfl rfl ?_
  refine y_getf (pc' := 15) (v := .ref 883) rfl rfl rfl zc_866 rfl rfl ?_
  refine y_pure (pc' := 16) (st' := [.int (nI 1), .ref 883, .int (M.1 883 0), .int x2]) rfl rfl ?_
  refine y_iald (pc' := 17) rfl zc_883 (by decide) rfl ?_
  refine y_pure (pc' := 18) (st' := [.int ((M.1 883 0) * (M.1 883 1)), .int x2]) rfl rfl ?_
  rcases zif_inv h with ⟨hc1, h⟩ | ⟨hc1, h⟩
  · refine y_cmp (pc' := 21) rfl rfl (zc_geF hc1) rfl ?_
    refine y_pure (pc' := 22) (st' := [.int x1]) rfl rfl ?_
    refine y_pure (pc' := 23) (st' := [.int (nI 1), .int x1]) rfl rfl ?_
    refine y_pure (pc' := 24) (st' := [.ref 866, .int (nI 1), .int x1]) rfl rfl ?_
    refine y_getf (pc' := 27) (v := .ref 883) rfl rfl rfl zc_866 rfl rfl ?_
    refine y_pure (pc' := 28) (st' := [.int (nI 4), .ref 883, .int (nI 1), .int x1]) rfl rfl ?_
    refine y_pure (pc' := 29) (st' := [.int x2, .int (nI 4), .ref 883, .int (nI 1), .int x1]) rfl rfl ?_
    refine y_pure (pc' := 30) (st' := [.int ((nI 4) + x2), .ref 883, .int (nI 1), .int x1]) rfl rfl ?_
    obtain ⟨hi2, h⟩ := zg_inv h
    refine y_iald (pc' := 31) rfl zc_883 hi2 rfl ?_
    refine y_pure (pc' := 32) (st' := [.int ((nI 1) - (M.1 883 (Int32.toNatClampNeg ((nI 4) + x2)))), .int x1]) rfl rfl ?_
    refine y_pure (pc' := 33) (st' := [.int (x1 + ((nI 1) - (M.1 883 (Int32.toNatClampNeg ((nI 4) + x2)))))]) rfl rfl ?_
    obtain ⟨y3, e4, h⟩ := zL_inv h
    refine zT_gen e4 ?_
    refine y_pure (pc' := 34) (ls' := [(0, .ref 866), (1, .int y3), (2, .int x2)]) (st' := []) rfl rfl ?_
    refine y_pure (pc' := 37) (ls' := [(0, .ref 866), (1, .int y3), (2, .int (x2 + (nI 1)))]) (st' := []) rfl rfl ?_
    refine y_pure (pc' := 4) rfl rfl ?_
    refine zEx_sub ?_ h
    exact ⟨rfl, rfl, rfl, trivial⟩
  · refine y_cmp (pc' := 40) rfl rfl (zc_geT hc1) rfl ?_
    refine y_pure (pc' := 41) (st' := [.int x1]) rfl rfl ?_
    exact y_ret rfl rfl rfl rfl h
theorem e_M_openRead {d : Nat}  {M : ZM} {r : ZR}  (h : h_M_openRead_4 d (nI 0) (nI 0) M = some r) : zEv (d + 1) zmM_openRead [.ref 866] M = some r := by
  rw [zEv_succ]
  show zEx0 (zEv d) zmM_openRead (0, [(0, .ref 866)], [], M) = some r
  refine y_pure (pc' := 1) (st' := [.int (nI 0)]) rfl rfl ?_
  refine y_pure (pc' := 2) (ls' := [(0, .ref 866), (1, .int (nI 0))]) (st' := []) rfl rfl ?_
  refine y_pure (pc' := 3) (st' := [.int (nI 0)]) rfl rfl ?_
  refine y_pure (pc' := 4) (ls' := [(0, .ref 866), (1, .int (nI 0)), (2, .int (nI 0))]) (st' := []) rfl rfl ?_
  refine zEx_sub ?_ h
  exact ⟨rfl, rfl, rfl, trivial⟩
noncomputable def h_M_readsAll_2 (d : Nat) (x1 : Int32) (M : ZM) : Option ZR := zEx0 (zEv d) zmM_readsAll (2, [(0, .ref 866), (1, .int x1)], [], M)
noncomputable def h_M_readsAll_82 (d : Nat) (M : ZM) : Option ZR := zEx0 (zEv d) zmM_readsAll (82, [(0, .ref 866)], [], M)
theorem e_M_readsAll_2 {d : Nat} {x1 : Int32} {M : ZM} {r : ZR}  (h : (if x1 < (nI 268) then (if zin x1 268 = true then h_M_readsAll_2 d (x1 + (nI 1)) (zpi M 883 (Int32.toNatClampNeg x1) (nI 0)) else none) else zC1 (zEv d zmM_mustWord [.ref 866, .ref 10] (zpi M 866 36 (nI 0))) (fun v5 M4 => (if v5 = (nI 0) then some (some (.int (nI 0)), M4) else zC1 (zEv d zmM_readsTo [.ref 866, .int (nI 0), .int (nI 1), .int (nI 6)] M4) (fun v9 M8 => (if v9 = (nI 0) then some (some (.int (nI 0)), M8) else zC1 (zEv d zmM_readsTo [.ref 866, .int (nI 1), .int (nI 1), .int (nI 6)] M8) (fun v13 M12 => (if v13 = (nI 0) then some (some (.int (nI 0)), M12) else zC1 (zEv d zmM_mustWord [.ref 866, .ref 17] M12) (fun v17 M16 => (if v17 = (nI 0) then some (some (.int (nI 0)), M16) else zC1 (zEv d zmM_readsTo [.ref 866, .int (nI 2), .int (nI 2), .int (nI 7)] M16) (fun v21 M20 => (if v21 = (nI 0) then some (some (.int (nI 0)), M20) else h_M_readsAll_82 d  M20))))))))))) = some r) : h_M_readsAll_2 d x1 M = some r := by
  show zEx0 (zEv d) zmM_readsAll (2, [(0, .ref 866), (1, .int x1)], [], M) = some r
  refine y_pure (pc' := 3) (st' := [.int x1]) rfl rfl ?_
  refine y_pure (pc' := 6) (st' := [.int (nI 268), .int x1]) rfl rfl ?_
  rcases zif_inv h with ⟨hc1, h⟩ | ⟨hc1, h⟩
  · refine y_cmp (pc' := 9) rfl rfl (zc_geF hc1) rfl ?_
    refine y_pure (pc' := 10) (st' := [.ref 866]) rfl rfl ?_
    refine y_getf (pc' := 13) (v := .ref 883) rfl rfl rfl zc_866 rfl rfl ?_
    refine y_pure (pc' := 14) (st' := [.int x1, .ref 883]) rfl rfl ?_
    refine y_pure (pc' := 15) (st' := [.int (nI 0), .int x1, .ref 883]) rfl rfl ?_
    obtain ⟨hi2, h⟩ := zg_inv h
    refine y_iast (pc' := 16) rfl zc_883 hi2 rfl ?_
    refine y_pure (pc' := 19) (ls' := [(0, .ref 866), (1, .int (x1 + (nI 1)))]) (st' := []) rfl rfl ?_
    refine y_pure (pc' := 2) rfl rfl ?_
    refine zEx_sub ?_ h
    exact ⟨rfl, rfl, trivial⟩
  · refine y_cmp (pc' := 22) rfl rfl (zc_geT hc1) rfl ?_
    refine y_pure (pc' := 23) (st' := [.ref 866]) rfl rfl ?_
    refine y_pure (pc' := 24) (st' := [.int (nI 0), .ref 866]) rfl rfl ?_
    refine y_putI (pc' := 27) rfl rfl zc_866 rfl ?_
    refine y_pure (pc' := 28) (st' := [.ref 866]) rfl rfl ?_
    refine y_ldwX (pc' := 31) (q := 10) rfl rfl rfl rfl ?_
    obtain ⟨v5, M4, he3, h⟩ := zC1_inv h
    refine y_callV (pc' := 34) (y := zmM_mustWord) (a' := [.ref 10]) (st' := []) rfl rfl rfl rfl rfl (zrecv_o (o := 10) zc_866 rfl) rfl he3 rfl rfl ?_
    rcases zif_inv h with ⟨hc6, h⟩ | ⟨hc6, h⟩
    · refine y_cnd (pc' := 80) rfl rfl (zc_eqT hc6) rfl ?_
      refine y_pure (pc' := 81) (st' := [.int (nI 0)]) rfl rfl ?_
      exact y_retZ rfl rfl (by decide) h
    · refine y_cnd (pc' := 37) rfl rfl (zc_eqF hc6) rfl ?_
      refine y_pure (pc' := 38) (st' := [.ref 866]) rfl rfl ?_
      refine y_pure (pc' := 39) (st' := [.int (nI 0), .ref 866]) rfl rfl ?_
      refine y_pure (pc' := 40) (st' := [.int (nI 1), .int (nI 0), .ref 866]) rfl rfl ?_
      refine y_pure (pc' := 42) (st' := [.int (nI 6), .int (nI 1), .int (nI 0), .ref 866]) rfl rfl ?_
      obtain ⟨v9, M8, he7, h⟩ := zC1_inv h
      refine y_callV (pc' := 45) (y := zmM_readsTo) (a' := [.int (nI 0), .int (nI 1), .int (nI 6)]) (st' := []) rfl rfl rfl rfl rfl (zrecv_o (o := 10) zc_866 rfl) rfl he7 rfl rfl ?_
      rcases zif_inv h with ⟨hc10, h⟩ | ⟨hc10, h⟩
      · refine y_cnd (pc' := 80) rfl rfl (zc_eqT hc10) rfl ?_
        refine y_pure (pc' := 81) (st' := [.int (nI 0)]) rfl rfl ?_
        exact y_retZ rfl rfl (by decide) h
      · refine y_cnd (pc' := 48) rfl rfl (zc_eqF hc10) rfl ?_
        refine y_pure (pc' := 49) (st' := [.ref 866]) rfl rfl ?_
        refine y_pure (pc' := 50) (st' := [.int (nI 1), .ref 866]) rfl rfl ?_
        refine y_pure (pc' := 51) (st' := [.int (nI 1), .int (nI 1), .ref 866]) rfl rfl ?_
        refine y_pure (pc' := 53) (st' := [.int (nI 6), .int (nI 1), .int (nI 1), .ref 866]) rfl rfl ?_
        obtain ⟨v13, M12, he11, h⟩ := zC1_inv h
        refine y_callV (pc' := 56) (y := zmM_readsTo) (a' := [.int (nI 1), .int (nI 1), .int (nI 6)]) (st' := []) rfl rfl rfl rfl rfl (zrecv_o (o := 10) zc_866 rfl) rfl he11 rfl rfl ?_
        rcases zif_inv h with ⟨hc14, h⟩ | ⟨hc14, h⟩
        · refine y_cnd (pc' := 80) rfl rfl (zc_eqT hc14) rfl ?_
          refine y_pure (pc' := 81) (st' := [.int (nI 0)]) rfl rfl ?_
          exact y_retZ rfl rfl (by decide) h
        · refine y_cnd (pc' := 59) rfl rfl (zc_eqF hc14) rfl ?_
          refine y_pure (pc' := 60) (st' := [.ref 866]) rfl rfl ?_
          refine y_ldwX (pc' := 63) (q := 17) rfl rfl rfl rfl ?_
          obtain ⟨v17, M16, he15, h⟩ := zC1_inv h
          refine y_callV (pc' := 66) (y := zmM_mustWord) (a' := [.ref 17]) (st' := []) rfl rfl rfl rfl rfl (zrecv_o (o := 10) zc_866 rfl) rfl he15 rfl rfl ?_
          rcases zif_inv h with ⟨hc18, h⟩ | ⟨hc18, h⟩
          · refine y_cnd (pc' := 80) rfl rfl (zc_eqT hc18) rfl ?_
            refine y_pure (pc' := 81) (st' := [.int (nI 0)]) rfl rfl ?_
            exact y_retZ rfl rfl (by decide) h
          · refine y_cnd (pc' := 69) rfl rfl (zc_eqF hc18) rfl ?_
            refine y_pure (pc' := 70) (st' := [.ref 866]) rfl rfl ?_
            refine y_pure (pc' := 71) (st' := [.int (nI 2), .ref 866]) rfl rfl ?_
            refine y_pure (pc' := 72) (st' := [.int (nI 2), .int (nI 2), .ref 866]) rfl rfl ?_
            refine y_pure (pc' := 74) (st' := [.int (nI 7), .int (nI 2), .int (nI 2), .ref 866]) rfl rfl ?_
            obtain ⟨v21, M20, he19, h⟩ := zC1_inv h
            refine y_callV (pc' := 77) (y := zmM_readsTo) (a' := [.int (nI 2), .int (nI 2), .int (nI 7)]) (st' := []) rfl rfl rfl rfl rfl (zrecv_o (o := 10) zc_866 rfl) rfl he19 rfl rfl ?_
            rcases zif_inv h with ⟨hc22, h⟩ | ⟨hc22, h⟩
            · refine y_cnd (pc' := 80) rfl rfl (zc_neF hc22) rfl ?_
              refine y_pure (pc' := 81) (st' := [.int (nI 0)]) rfl rfl ?_
              exact y_retZ rfl rfl (by decide) h
            · refine y_cnd (pc' := 82) rfl rfl (zc_neT hc22) rfl ?_
              refine zEx_sub ?_ h
              exact ⟨rfl, trivial⟩
theorem e_M_readsAll_82 {d : Nat} {M : ZM} {r : ZR}  (h : zC1 (zEv d zmM_nextByte [.ref 866] M) (fun v3 M2 => (if v3 = (nI 59) then zC1 (zEv d zmM_readsPart [.ref 866] (zpi M2 866 36 ((M2.1 866 36) + (nI 1)))) (fun v7 M6 => (if v7 = (nI 0) then some (some (.int (nI 0)), M6) else h_M_readsAll_82 d  M6)) else zC1 (zEv d zmM_nextByte [.ref 866] M2) (fun v11 M10 => (if v11 = (-1 : Int32) then zC1 (zEv d zmM_openRead [.ref 866] M10) (fun v15 M14 => (if (nI 16) < v15 then zC1 (zEv d zmM_fails [.ref 866, .int (nI 4), .int (M14.1 866 35)] M14) (fun v19 M18 => (if v19 = (nI 0) then some (some (.int (nI 0)), M18) else some (some (.int (nI 1)), M18))) else some (some (.int (nI 1)), M14))) else zC1 (zEv d zmM_fails [.ref 866, .int (nI 1), .int (M10.1 866 36)] M10) (fun v23 M22 => (if v23 = nI 0 ∨ v23 = nI 1 then some (some (.int v23), M22) else none)))))) = some r) : h_M_readsAll_82 d M = some r := by
  show zEx0 (zEv d) zmM_readsAll (82, [(0, .ref 866)], [], M) = some r
  refine y_pure (pc' := 83) (st' := [.ref 866]) rfl rfl ?_
  obtain ⟨v3, M2, he1, h⟩ := zC1_inv h
  refine y_callV (pc' := 86) (y := zmM_nextByte) (a' := []) (st' := []) rfl rfl rfl rfl rfl (zrecv_o (o := 10) zc_866 rfl) rfl he1 rfl rfl ?_
  refine y_pure (pc' := 88) (st' := [.int (nI 59), .int v3]) rfl rfl ?_
  rcases zif_inv h with ⟨hc4, h⟩ | ⟨hc4, h⟩
  · refine y_cmp (pc' := 91) rfl rfl (zc_neF hc4) rfl ?_
    refine y_pure (pc' := 92) (st' := [.ref 866]) rfl rfl ?_
    refine y_pure (pc' := 93) (st' := [.ref 866, .ref 866]) rfl rfl ?_
    refine y_getf (pc' := 96) (v := .int (M2.1 866 36)) rfl rfl rfl zc_866 rfl rfl ?_
    refine y_pure (pc' := 97) (st' := [.int (nI 1), .int (M2.1 866 36), .ref 866]) rfl rfl ?_
    refine y_pure (pc' := 98) (st' := [.int ((M2.1 866 36) + (nI 1)), .ref 866]) rfl rfl ?_
    refine y_putI (pc' := 101) rfl rfl zc_866 rfl ?_
    refine y_pure (pc' := 102) (st' := [.ref 866]) rfl rfl ?_
    obtain ⟨v7, M6, he5, h⟩ := zC1_inv h
    refine y_callV (pc' := 105) (y := zmM_readsPart) (a' := []) (st' := []) rfl rfl rfl rfl rfl (zrecv_o (o := 10) zc_866 rfl) rfl he5 rfl rfl ?_
    rcases zif_inv h with ⟨hc8, h⟩ | ⟨hc8, h⟩
    · refine y_cnd (pc' := 108) rfl rfl (zc_neF hc8) rfl ?_
      refine y_pure (pc' := 109) (st' := [.int (nI 0)]) rfl rfl ?_
      exact y_retZ rfl rfl (by decide) h
    · refine y_cnd (pc' := 82) rfl rfl (zc_neT hc8) rfl ?_
      refine zEx_sub ?_ h
      exact ⟨rfl, trivial⟩
  · refine y_cmp (pc' := 110) rfl rfl (zc_neT hc4) rfl ?_
    refine y_pure (pc' := 111) (st' := [.ref 866]) rfl rfl ?_
    obtain ⟨v11, M10, he9, h⟩ := zC1_inv h
    refine y_callV (pc' := 114) (y := zmM_nextByte) (a' := []) (st' := []) rfl rfl rfl rfl rfl (zrecv_o (o := 10) zc_866 rfl) rfl he9 rfl rfl ?_
    refine y_pure (pc' := 115) (st' := [.int (-1 : Int32), .int v11]) rfl rfl ?_
    rcases zif_inv h with ⟨hc12, h⟩ | ⟨hc12, h⟩
    · refine y_cmp (pc' := 128) rfl rfl (zc_eqT hc12) rfl ?_
      refine y_pure (pc' := 129) (st' := [.ref 866]) rfl rfl ?_
      obtain ⟨v15, M14, he13, h⟩ := zC1_inv h
      refine y_callV (pc' := 132) (y := zmM_openRead) (a' := []) (st' := []) rfl rfl rfl rfl rfl (zrecv_o (o := 10) zc_866 rfl) rfl he13 rfl rfl ?_
      refine y_pure (pc' := 134) (st' := [.int (nI 16), .int v15]) rfl rfl ?_
      rcases zif_inv h with ⟨hc16, h⟩ | ⟨hc16, h⟩
      · refine y_cmp (pc' := 137) rfl rfl (zc_leF hc16) rfl ?_
        refine y_pure (pc' := 138) (st' := [.ref 866]) rfl rfl ?_
        refine y_pure (pc' := 139) (st' := [.int (nI 4), .ref 866]) rfl rfl ?_
        refine y_pure (pc' := 140) (st' := [.ref 866, .int (nI 4), .ref 866]) rfl rfl ?_
        refine y_getf (pc' := 143) (v := .int (M14.1 866 35)) rfl rfl rfl zc_866 rfl rfl ?_
        obtain ⟨v19, M18, he17, h⟩ := zC1_inv h
        refine y_callV (pc' := 146) (y := zmM_fails) (a' := [.int (nI 4), .int (M14.1 866 35)]) (st' := []) rfl rfl rfl rfl rfl (zrecv_o (o := 10) zc_866 rfl) rfl he17 rfl rfl ?_
        rcases zif_inv h with ⟨hc20, h⟩ | ⟨hc20, h⟩
        · refine y_cnd (pc' := 153) rfl rfl (zc_eqT hc20) rfl ?_
          refine y_pure (pc' := 154) (st' := [.int (nI 0)]) rfl rfl ?_
          exact y_retZ rfl rfl (by decide) h
        · refine y_cnd (pc' := 149) rfl rfl (zc_eqF hc20) rfl ?_
          refine y_pure (pc' := 150) (st' := [.int (nI 1)]) rfl rfl ?_
          refine y_pure (pc' := 154) rfl rfl ?_
          exact y_retZ rfl rfl (by decide) h
      · refine y_cmp (pc' := 149) rfl rfl (zc_leT hc16) rfl ?_
        refine y_pure (pc' := 150) (st' := [.int (nI 1)]) rfl rfl ?_
        refine y_pure (pc' := 154) rfl rfl ?_
        exact y_retZ rfl rfl (by decide) h
    · refine y_cmp (pc' := 118) rfl rfl (zc_eqF hc12) rfl ?_
      refine y_pure (pc' := 119) (st' := [.ref 866]) rfl rfl ?_
      refine y_pure (pc' := 120) (st' := [.int (nI 1), .ref 866]) rfl rfl ?_
      refine y_pure (pc' := 121) (st' := [.ref 866, .int (nI 1), .ref 866]) rfl rfl ?_
      refine y_getf (pc' := 124) (v := .int (M10.1 866 36)) rfl rfl rfl zc_866 rfl rfl ?_
      obtain ⟨v23, M22, he21, h⟩ := zC1_inv h
      refine y_callV (pc' := 127) (y := zmM_fails) (a' := [.int (nI 1), .int (M10.1 866 36)]) (st' := []) rfl rfl rfl rfl rfl (zrecv_o (o := 10) zc_866 rfl) rfl he21 rfl rfl ?_
      obtain ⟨hb24, h⟩ := zg_inv h
      exact y_retZ rfl rfl hb24 h
theorem e_M_readsAll {d : Nat}  {M : ZM} {r : ZR}  (h : h_M_readsAll_2 d (nI 0) M = some r) : zEv (d + 1) zmM_readsAll [.ref 866] M = some r := by
  rw [zEv_succ]
  show zEx0 (zEv d) zmM_readsAll (0, [(0, .ref 866)], [], M) = some r
  refine y_pure (pc' := 1) (st' := [.int (nI 0)]) rfl rfl ?_
  refine y_pure (pc' := 2) (ls' := [(0, .ref 866), (1, .int (nI 0))]) (st' := []) rfl rfl ?_
  refine zEx_sub ?_ h
  exact ⟨rfl, rfl, trivial⟩
noncomputable def h_M_tell_24 (d : Nat) (x2 : Int32) (M : ZM) : Option ZR := zEx0 (zEv d) zmM_tell (24, [(0, .ref 866), (2, .int x2)], [], M)
noncomputable def h_M_tell_51 (d : Nat) (x2 : Int32) (M : ZM) : Option ZR := zEx0 (zEv d) zmM_tell (51, [(0, .ref 866), (2, .int x2)], [], M)
theorem e_M_tell_24 {d : Nat} {x2 : Int32} {M : ZM} {r : ZR}  (h : (if x2 < (nI 268) then (if zin x2 268 = true then h_M_tell_24 d (x2 + (nI 1)) (zpi M 867 (Int32.toNatClampNeg x2) (M.1 883 (Int32.toNatClampNeg x2))) else none) else h_M_tell_51 d (nI 0) M) = some r) : h_M_tell_24 d x2 M = some r := by
  show zEx0 (zEv d) zmM_tell (24, [(0, .ref 866), (2, .int x2)], [], M) = some r
  refine y_pure (pc' := 25) (st' := [.int x2]) rfl rfl ?_
  refine y_pure (pc' := 28) (st' := [.int (nI 268), .int x2]) rfl rfl ?_
  rcases zif_inv h with ⟨hc1, h⟩ | ⟨hc1, h⟩
  · refine y_cmp (pc' := 31) rfl rfl (zc_geF hc1) rfl ?_
    refine y_pure (pc' := 32) (st' := [.ref 866]) rfl rfl ?_
    refine y_getf (pc' := 35) (v := .ref 867) rfl rfl rfl zc_866 rfl rfl ?_
    refine y_pure (pc' := 36) (st' := [.int x2, .ref 867]) rfl rfl ?_
    refine y_pure (pc' := 37) (st' := [.ref 866, .int x2, .ref 867]) rfl rfl ?_
    refine y_getf (pc' := 40) (v := .ref 883) rfl rfl rfl zc_866 rfl rfl ?_
    refine y_pure (pc' := 41) (st' := [.int x2, .ref 883, .int x2, .ref 867]) rfl rfl ?_
    obtain ⟨hi2, h⟩ := zg_inv h
    refine y_iald (pc' := 42) rfl zc_883 hi2 rfl ?_
    refine y_iast (pc' := 43) rfl zc_867 hi2 rfl ?_
    refine y_pure (pc' := 46) (ls' := [(0, .ref 866), (2, .int (x2 + (nI 1)))]) (st' := []) rfl rfl ?_
    refine y_pure (pc' := 24) rfl rfl ?_
    refine zEx_sub ?_ h
    exact ⟨rfl, rfl, trivial⟩
  · refine y_cmp (pc' := 49) rfl rfl (zc_geT hc1) rfl ?_
    refine y_pure (pc' := 50) (st' := [.int (nI 0)]) rfl rfl ?_
    refine y_pure (pc' := 51) (ls' := [(0, .ref 866), (2, .int (nI 0))]) (st' := []) rfl rfl ?_
    refine zEx_sub ?_ h
    exact ⟨rfl, rfl, trivial⟩
theorem e_M_tell_51 {d : Nat} {x2 : Int32} {M : ZM} {r : ZR}  (h : zC1 (zEv d zmM_cells [.ref 866] M) (fun v3 M2 => (if x2 < v3 then zC1 (zEv d zmM_isOpen [.ref 866, .int x2] M2) (fun v7 M6 => (if v7 = (nI 0) then h_M_tell_51 d (x2 + (nI 1)) M6 else (if zin ((nI 76) + x2) 268 = true then (if (M6.1 867 (Int32.toNatClampNeg ((nI 76) + x2))) = (nI 1) then (if zin ((nI 40) + x2) 268 = true then (if zin ((nI 112) + x2) 268 = true then h_M_tell_51 d (x2 + (nI 1)) (zpi M6 867 (Int32.toNatClampNeg ((nI 112) + x2)) ((nI 1) <<< ((M6.1 867 (Int32.toNatClampNeg ((nI 40) + x2))) &&& 31))) else none) else none) else zC1 (zEv d zmM_allMarks [.ref 866] M6) (fun v15 M14 => (if zin ((nI 112) + x2) 268 = true then h_M_tell_51 d (x2 + (nI 1)) (zpi M14 867 (Int32.toNatClampNeg ((nI 112) + x2)) v15) else none))) else none))) else zC1 (zEv d zmM_cages [.ref 866] (zpi M2 866 2 (nI 0))) (fun v19 M18 => some (some (.int v19), M18)))) = some r) : h_M_tell_51 d x2 M = some r := by
  show zEx0 (zEv d) zmM_tell (51, [(0, .ref 866), (2, .int x2)], [], M) = some r
  refine y_pure (pc' := 52) (st' := [.int x2]) rfl rfl ?_
  refine y_pure (pc' := 53) (st' := [.ref 866, .int x2]) rfl rfl ?_
  obtain ⟨v3, M2, he1, h⟩ := zC1_inv h
  refine y_callV (pc' := 56) (y := zmM_cells) (a' := []) (st' := [.int x2]) rfl rfl rfl rfl rfl (zrecv_o (o := 10) zc_866 rfl) rfl he1 rfl rfl ?_
  rcases zif_inv h with ⟨hc4, h⟩ | ⟨hc4, h⟩
  · refine y_cmp (pc' := 59) rfl rfl (zc_geF hc4) rfl ?_
    refine y_pure (pc' := 60) (st' := [.ref 866]) rfl rfl ?_
    refine y_pure (pc' := 61) (st' := [.int x2, .ref 866]) rfl rfl ?_
    obtain ⟨v7, M6, he5, h⟩ := zC1_inv h
    refine y_callV (pc' := 64) (y := zmM_isOpen) (a' := [.int x2]) (st' := []) rfl rfl rfl rfl rfl (zrecv_o (o := 10) zc_866 rfl) rfl he5 rfl rfl ?_
    rcases zif_inv h with ⟨hc8, h⟩ | ⟨hc8, h⟩
    · refine y_cnd (pc' := 107) rfl rfl (zc_eqT hc8) rfl ?_
      refine y_pure (pc' := 110) (ls' := [(0, .ref 866), (2, .int (x2 + (nI 1)))]) (st' := []) rfl rfl ?_
      refine y_pure (pc' := 51) rfl rfl ?_
      refine zEx_sub ?_ h
      exact ⟨rfl, rfl, trivial⟩
    · refine y_cnd (pc' := 67) rfl rfl (zc_eqF hc8) rfl ?_
      refine y_pure (pc' := 68) (st' := [.ref 866]) rfl rfl ?_
      refine y_getf (pc' := 71) (v := .ref 867) rfl rfl rfl zc_866 rfl rfl ?_
      refine y_pure (pc' := 73) (st' := [.int (nI 112), .ref 867]) rfl rfl ?_
      refine y_pure (pc' := 74) (st' := [.int x2, .int (nI 112), .ref 867]) rfl rfl ?_
      refine y_pure (pc' := 75) (st' := [.int ((nI 112) + x2), .ref 867]) rfl rfl ?_
      refine y_pure (pc' := 76) (st' := [.ref 866, .int ((nI 112) + x2), .ref 867]) rfl rfl ?_
      refine y_getf (pc' := 79) (v := .ref 867) rfl rfl rfl zc_866 rfl rfl ?_
      refine y_pure (pc' := 81) (st' := [.int (nI 76), .ref 867, .int ((nI 112) + x2), .ref 867]) rfl rfl ?_
      refine y_pure (pc' := 82) (st' := [.int x2, .int (nI 76), .ref 867, .int ((nI 112) + x2), .ref 867]) rfl rfl ?_
      refine y_pure (pc' := 83) (st' := [.int ((nI 76) + x2), .ref 867, .int ((nI 112) + x2), .ref 867]) rfl rfl ?_
      obtain ⟨hi9, h⟩ := zg_inv h
      refine y_iald (pc' := 84) rfl zc_867 hi9 rfl ?_
      refine y_pure (pc' := 85) (st' := [.int (nI 1), .int (M6.1 867 (Int32.toNatClampNeg ((nI 76) + x2))), .int ((nI 112) + x2), .ref 867]) rfl rfl ?_
      rcases zif_inv h with ⟨hc10, h⟩ | ⟨hc10, h⟩
      · refine y_cmp (pc' := 88) rfl rfl (zc_neF hc10) rfl ?_
        refine y_pure (pc' := 89) (st' := [.int (nI 1), .int ((nI 112) + x2), .ref 867]) rfl rfl ?_
        refine y_pure (pc' := 90) (st' := [.ref 866, .int (nI 1), .int ((nI 112) + x2), .ref 867]) rfl rfl ?_
        refine y_getf (pc' := 93) (v := .ref 867) rfl rfl rfl zc_866 rfl rfl ?_
        refine y_pure (pc' := 95) (st' := [.int (nI 40), .ref 867, .int (nI 1), .int ((nI 112) + x2), .ref 867]) rfl rfl ?_
        refine y_pure (pc' := 96) (st' := [.int x2, .int (nI 40), .ref 867, .int (nI 1), .int ((nI 112) + x2), .ref 867]) rfl rfl ?_
        refine y_pure (pc' := 97) (st' := [.int ((nI 40) + x2), .ref 867, .int (nI 1), .int ((nI 112) + x2), .ref 867]) rfl rfl ?_
        obtain ⟨hi11, h⟩ := zg_inv h
        refine y_iald (pc' := 98) rfl zc_867 hi11 rfl ?_
        refine y_pure (pc' := 99) (st' := [.int ((nI 1) <<< ((M6.1 867 (Int32.toNatClampNeg ((nI 40) + x2))) &&& 31)), .int ((nI 112) + x2), .ref 867]) rfl rfl ?_
        refine y_pure (pc' := 106) rfl rfl ?_
        obtain ⟨hi12, h⟩ := zg_inv h
        refine y_iast (pc' := 107) rfl zc_867 hi12 rfl ?_
        refine y_pure (pc' := 110) (ls' := [(0, .ref 866), (2, .int (x2 + (nI 1)))]) (st' := []) rfl rfl ?_
        refine y_pure (pc' := 51) rfl rfl ?_
        refine zEx_sub ?_ h
        exact ⟨rfl, rfl, trivial⟩
      · refine y_cmp (pc' := 102) rfl rfl (zc_neT hc10) rfl ?_
        refine y_pure (pc' := 103) (st' := [.ref 866, .int ((nI 112) + x2), .ref 867]) rfl rfl ?_
        obtain ⟨v15, M14, he13, h⟩ := zC1_inv h
        refine y_callV (pc' := 106) (y := zmM_allMarks) (a' := []) (st' := [.int ((nI 112) + x2), .ref 867]) rfl rfl rfl rfl rfl (zrecv_o (o := 10) zc_866 rfl) rfl he13 rfl rfl ?_
        obtain ⟨hi16, h⟩ := zg_inv h
        refine y_iast (pc' := 107) rfl zc_867 hi16 rfl ?_
        refine y_pure (pc' := 110) (ls' := [(0, .ref 866), (2, .int (x2 + (nI 1)))]) (st' := []) rfl rfl ?_
        refine y_pure (pc' := 51) rfl rfl ?_
        refine zEx_sub ?_ h
        exact ⟨rfl, rfl, trivial⟩
  · refine y_cmp (pc' := 113) rfl rfl (zc_geT hc4) rfl ?_
    refine y_pure (pc' := 114) (st' := [.ref 866]) rfl rfl ?_
    refine y_pure (pc' := 115) (st' := [.int (nI 0), .ref 866]) rfl rfl ?_
    refine y_putI (pc' := 118) rfl rfl zc_866 rfl ?_
    refine y_pure (pc' := 119) (st' := [.ref 866]) rfl rfl ?_
    obtain ⟨v19, M18, he17, h⟩ := zC1_inv h
    refine y_callV (pc' := 122) (y := zmM_cages) (a' := []) (st' := []) rfl rfl rfl rfl rfl (zrecv_o (o := 10) zc_866 rfl) rfl he17 rfl rfl ?_
    exact y_ret rfl rfl rfl rfl h
theorem e_M_tell {d : Nat}  {M : ZM} {r : ZR}  (h : zC1 (zEv d zmM_readsAll [.ref 866] M) (fun v3 M2 => (if v3 = (nI 0) then some (some (.int ((-2 : Int32) - ((zpi M2 866 35 (nI 0)).1 866 37))), (zpi M2 866 35 (nI 0))) else h_M_tell_24 d (nI 0) (zpi M2 866 35 (nI 0)))) = some r) : zEv (d + 1) zmM_tell [.ref 866] M = some r := by
  rw [zEv_succ]
  show zEx0 (zEv d) zmM_tell (0, [(0, .ref 866)], [], M) = some r
  refine y_pure (pc' := 1) (st' := [.ref 866]) rfl rfl ?_
  obtain ⟨v3, M2, he1, h⟩ := zC1_inv h
  refine y_callV (pc' := 4) (y := zmM_readsAll) (a' := []) (st' := []) rfl rfl rfl rfl rfl (zrecv_o (o := 10) zc_866 rfl) rfl he1 rfl rfl ?_
  refine y_pure (pc' := 5) (ls' := [(0, .ref 866), (1, .int v3)]) (st' := []) rfl rfl ?_
  refine y_pure (pc' := 6) (st' := [.ref 866]) rfl rfl ?_
  refine y_pure (pc' := 7) (st' := [.int (nI 0), .ref 866]) rfl rfl ?_
  refine y_putI (pc' := 10) rfl rfl zc_866 rfl ?_
  refine y_pure (pc' := 11) (st' := [.int v3]) rfl rfl ?_
  rcases zif_inv h with ⟨hc4, h⟩ | ⟨hc4, h⟩
  · refine y_cnd (pc' := 14) rfl rfl (zc_neF hc4) rfl ?_
    refine y_pure (pc' := 16) (st' := [.int (-2 : Int32)]) rfl rfl ?_
    refine y_pure (pc' := 17) (st' := [.ref 866, .int (-2 : Int32)]) rfl rfl ?_
    refine y_getf (pc' := 20) (v := .int ((zpi M2 866 35 (nI 0)).1 866 37)) rfl rfl rfl zc_866 rfl rfl ?_
    refine y_pure (pc' := 21) (st' := [.int ((-2 : Int32) - ((zpi M2 866 35 (nI 0)).1 866 37))]) rfl rfl ?_
    exact y_ret rfl rfl rfl rfl h
  · refine y_cnd (pc' := 22) rfl rfl (zc_neT hc4) rfl ?_
    refine y_pure (pc' := 23) (st' := [.int (nI 0)]) rfl rfl ?_
    refine y_pure (pc' := 24) (ls' := [(0, .ref 866), (1, .int v3), (2, .int (nI 0))]) (st' := []) rfl rfl ?_
    refine zEx_sub ?_ h
    exact ⟨rfl, rfl, trivial⟩
