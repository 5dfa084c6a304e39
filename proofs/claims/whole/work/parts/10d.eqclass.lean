/-! what the methods' runs come to (printed by wip/whole/gen_eq.py) -/
set_option linter.unusedVariables false
set_option maxRecDepth 50000
theorem e_C_feed {d : Nat} {x1 : Int32} {x2 : Int32} {x3 : Int32} {x4 : Int32} {x5 : Int32} {M : ZM} {r : ZR}  (h : zC1 (zEv d zmT_hasRoom [.ref 65, .int (nI 20)] M) (fun v3 M2 => (if v3 = (nI 0) then some (some (.int (-1 : Int32)), M2) else zC0 (zEv d zmT_add [.ref 65, .int x1] M2) (fun M6 => zC0 (zEv d zmT_add [.ref 65, .int x2] M6) (fun M8 => zC0 (zEv d zmT_add [.ref 65, .int x3] M8) (fun M10 => zC0 (zEv d zmT_add [.ref 65, .int x4] M10) (fun M12 => zC0 (zEv d zmT_add [.ref 65, .int x5] M12) (fun M14 => zC1 (zEv d zmT_length [.ref 65] M14) (fun v17 M16 => some (some (.int v17), M16))))))))) = some r) : zEv (d + 1) zmC_feed [.ref 64, .int x1, .int x2, .int x3, .int x4, .int x5] M = some r := by
  rw [zEv_succ]
  show zEx0 (zEv d) zmC_feed (0, [(0, .ref 64), (1, .int x1), (2, .int x2), (3, .int x3), (4, .int x4), (5, .int x5)], [], M) = some r
  refine y_pure (pc' := 1) (st' := [.ref 64]) rfl rfl ?_
  refine y_getf (pc' := 4) (v := .ref 65) rfl rfl rfl zc_64 rfl rfl ?_
  refine y_pure (pc' := 6) (st' := [.int (nI 20), .ref 65]) rfl rfl ?_
  obtain ⟨v3, M2, he1, h⟩ := zC1_inv h
  refine y_callV (pc' := 9) (y := zmT_hasRoom) (a' := [.int (nI 20)]) (st' := []) rfl rfl rfl rfl rfl (zrecv_o (o := 6) zc_65 rfl) rfl he1 rfl rfl ?_
  rcases zif_inv h with ⟨hc4, h⟩ | ⟨hc4, h⟩
  · refine y_cnd (pc' := 12) rfl rfl (zc_neF hc4) rfl ?_
    refine y_pure (pc' := 13) (st' := [.int (-1 : Int32)]) rfl rfl ?_
    exact y_ret rfl rfl rfl rfl h
  · refine y_cnd (pc' := 14) rfl rfl (zc_neT hc4) rfl ?_
    refine y_pure (pc' := 15) (st' := [.ref 64]) rfl rfl ?_
    refine y_getf (pc' := 18) (v := .ref 65) rfl rfl rfl zc_64 rfl rfl ?_
    refine y_pure (pc' := 19) (st' := [.int x1, .ref 65]) rfl rfl ?_
    obtain ⟨M6, he5, h⟩ := zC0_inv h
    refine y_callV (pc' := 22) (y := zmT_add) (a' := [.int x1]) (st' := []) rfl rfl rfl rfl rfl (zrecv_o (o := 6) zc_65 rfl) rfl he5 rfl rfl ?_
    refine y_pure (pc' := 23) (st' := [.ref 64]) rfl rfl ?_
    refine y_getf (pc' := 26) (v := .ref 65) rfl rfl rfl zc_64 rfl rfl ?_
    refine y_pure (pc' := 27) (st' := [.int x2, .ref 65]) rfl rfl ?_
    obtain ⟨M8, he7, h⟩ := zC0_inv h
    refine y_callV (pc' := 30) (y := zmT_add) (a' := [.int x2]) (st' := []) rfl rfl rfl rfl rfl (zrecv_o (o := 6) zc_65 rfl) rfl he7 rfl rfl ?_
    refine y_pure (pc' := 31) (st' := [.ref 64]) rfl rfl ?_
    refine y_getf (pc' := 34) (v := .ref 65) rfl rfl rfl zc_64 rfl rfl ?_
    refine y_pure (pc' := 35) (st' := [.int x3, .ref 65]) rfl rfl ?_
    obtain ⟨M10, he9, h⟩ := zC0_inv h
    refine y_callV (pc' := 38) (y := zmT_add) (a' := [.int x3]) (st' := []) rfl rfl rfl rfl rfl (zrecv_o (o := 6) zc_65 rfl) rfl he9 rfl rfl ?_
    refine y_pure (pc' := 39) (st' := [.ref 64]) rfl rfl ?_
    refine y_getf (pc' := 42) (v := .ref 65) rfl rfl rfl zc_64 rfl rfl ?_
    refine y_pure (pc' := 44) (st' := [.int x4, .ref 65]) rfl rfl ?_
    obtain ⟨M12, he11, h⟩ := zC0_inv h
    refine y_callV (pc' := 47) (y := zmT_add) (a' := [.int x4]) (st' := []) rfl rfl rfl rfl rfl (zrecv_o (o := 6) zc_65 rfl) rfl he11 rfl rfl ?_
    refine y_pure (pc' := 48) (st' := [.ref 64]) rfl rfl ?_
    refine y_getf (pc' := 51) (v := .ref 65) rfl rfl rfl zc_64 rfl rfl ?_
    refine y_pure (pc' := 53) (st' := [.int x5, .ref 65]) rfl rfl ?_
    obtain ⟨M14, he13, h⟩ := zC0_inv h
    refine y_callV (pc' := 56) (y := zmT_add) (a' := [.int x5]) (st' := []) rfl rfl rfl rfl rfl (zrecv_o (o := 6) zc_65 rfl) rfl he13 rfl rfl ?_
    refine y_pure (pc' := 57) (st' := [.ref 64]) rfl rfl ?_
    refine y_getf (pc' := 60) (v := .ref 65) rfl rfl rfl zc_64 rfl rfl ?_
    obtain ⟨v17, M16, he15, h⟩ := zC1_inv h
    refine y_callV (pc' := 63) (y := zmT_length) (a' := []) (st' := []) rfl rfl rfl rfl rfl (zrecv_o (o := 6) zc_65 rfl) rfl he15 rfl rfl ?_
    exact y_ret rfl rfl rfl rfl h
theorem e_C_end {d : Nat} {x1 : Int32} {M : ZM} {r : ZR}  (h : zC1 (zEv d zmT_cut [.ref 65, .int x1] M) (fun v3 M2 => (if v3 = (nI 0) then some (some (.int (-1 : Int32)), M2) else some (some (.int x1), M2))) = some r) : zEv (d + 1) zmC_end [.ref 64, .int x1] M = some r := by
  rw [zEv_succ]
  show zEx0 (zEv d) zmC_end (0, [(0, .ref 64), (1, .int x1)], [], M) = some r
  refine y_pure (pc' := 1) (st' := [.ref 64]) rfl rfl ?_
  refine y_getf (pc' := 4) (v := .ref 65) rfl rfl rfl zc_64 rfl rfl ?_
  refine y_pure (pc' := 5) (st' := [.int x1, .ref 65]) rfl rfl ?_
  obtain ⟨v3, M2, he1, h⟩ := zC1_inv h
  refine y_callV (pc' := 8) (y := zmT_cut) (a' := [.int x1]) (st' := []) rfl rfl rfl rfl rfl (zrecv_o (o := 6) zc_65 rfl) rfl he1 rfl rfl ?_
  rcases zif_inv h with ⟨hc4, h⟩ | ⟨hc4, h⟩
  · refine y_cnd (pc' := 15) rfl rfl (zc_eqT hc4) rfl ?_
    refine y_pure (pc' := 16) (st' := [.int (-1 : Int32)]) rfl rfl ?_
    exact y_ret rfl rfl rfl rfl h
  · refine y_cnd (pc' := 11) rfl rfl (zc_eqF hc4) rfl ?_
    refine y_pure (pc' := 12) (st' := [.int x1]) rfl rfl ?_
    refine y_pure (pc' := 16) rfl rfl ?_
    exact y_ret rfl rfl rfl rfl h
theorem e_C_tell {d : Nat}  {M : ZM} {r : ZR}  (h : zC1 (zEv d zmT_readBoard [.ref 65] M) (fun v3 M2 => zC1 (zEv d zmT_cut [.ref 65, .int (nI 0)] M2) (fun v6 M5 => (if v3 = (-1 : Int32) then zC0 (zEv d zmB_copyFrom [.ref 86, .ref 67] M5) (fun M9 => some (some (.int ((zpi M9 64 5 (nI 0)).1 86 3)), (zpi M9 64 5 (nI 0)))) else some (some (.int ((-2 : Int32) - v3)), M5)))) = some r) : zEv (d + 1) zmC_tell [.ref 64] M = some r := by
  rw [zEv_succ]
  show zEx0 (zEv d) zmC_tell (0, [(0, .ref 64)], [], M) = some r
  refine y_pure (pc' := 1) (st' := [.ref 64]) rfl rfl ?_
  refine y_getf (pc' := 4) (v := .ref 65) rfl rfl rfl zc_64 rfl rfl ?_
  obtain ⟨v3, M2, he1, h⟩ := zC1_inv h
  refine y_callV (pc' := 7) (y := zmT_readBoard) (a' := []) (st' := []) rfl rfl rfl rfl rfl (zrecv_o (o := 6) zc_65 rfl) rfl he1 rfl rfl ?_
  refine y_pure (pc' := 8) (ls' := [(0, .ref 64), (1, .int v3)]) (st' := []) rfl rfl ?_
  refine y_pure (pc' := 9) (st' := [.ref 64]) rfl rfl ?_
  refine y_getf (pc' := 12) (v := .ref 65) rfl rfl rfl zc_64 rfl rfl ?_
  refine y_pure (pc' := 13) (st' := [.int (nI 0), .ref 65]) rfl rfl ?_
  obtain ⟨v6, M5, he4, h⟩ := zC1_inv h
  refine y_callV (pc' := 16) (y := zmT_cut) (a' := [.int (nI 0)]) (st' := []) rfl rfl rfl rfl rfl (zrecv_o (o := 6) zc_65 rfl) rfl he4 rfl rfl ?_
  refine y_pure (pc' := 17) (st' := []) rfl rfl ?_
  refine y_pure (pc' := 18) (st' := [.int v3]) rfl rfl ?_
  refine y_pure (pc' := 19) (st' := [.int (-1 : Int32), .int v3]) rfl rfl ?_
  rcases zif_inv h with ⟨hc7, h⟩ | ⟨hc7, h⟩
  · refine y_cmp (pc' := 27) rfl rfl (zc_eqT hc7) rfl ?_
    refine y_pure (pc' := 28) (st' := [.ref 64]) rfl rfl ?_
    refine y_getf (pc' := 31) (v := .ref 86) rfl rfl rfl zc_64 rfl rfl ?_
    refine y_pure (pc' := 32) (st' := [.ref 64, .ref 86]) rfl rfl ?_
    refine y_getf (pc' := 35) (v := .ref 65) rfl rfl rfl zc_64 rfl rfl ?_
    refine y_getf (pc' := 38) (v := .ref 67) rfl rfl rfl zc_65 rfl rfl ?_
    obtain ⟨M9, he8, h⟩ := zC0_inv h
    refine y_callV (pc' := 41) (y := zmB_copyFrom) (a' := [.ref 67]) (st' := []) rfl rfl rfl rfl rfl (zrecv_o (o := 0) zc_86 rfl) rfl he8 rfl rfl ?_
    refine y_pure (pc' := 42) (st' := [.ref 64]) rfl rfl ?_
    refine y_pure (pc' := 43) (st' := [.int (nI 0), .ref 64]) rfl rfl ?_
    refine y_putI (pc' := 46) rfl rfl zc_64 rfl ?_
    refine y_pure (pc' := 47) (st' := [.ref 64]) rfl rfl ?_
    refine y_getf (pc' := 50) (v := .ref 86) rfl rfl rfl zc_64 rfl rfl ?_
    refine y_getf (pc' := 53) (v := .int ((zpi M9 64 5 (nI 0)).1 86 3)) rfl rfl rfl zc_86 rfl rfl ?_
    exact y_ret rfl rfl rfl rfl h
  · refine y_cmp (pc' := 22) rfl rfl (zc_eqF hc7) rfl ?_
    refine y_pure (pc' := 24) (st' := [.int (-2 : Int32)]) rfl rfl ?_
    refine y_pure (pc' := 25) (st' := [.int v3, .int (-2 : Int32)]) rfl rfl ?_
    refine y_pure (pc' := 26) (st' := [.int ((-2 : Int32) - v3)]) rfl rfl ?_
    exact y_ret rfl rfl rfl rfl h
theorem e_C_put {d : Nat} {x1 : Int32} {x2 : Int32} {M : ZM} {r : ZR}  (h : zC1 (zEv d zmB_isOpen [.ref 86, .int x1] M) (fun v3 M2 => (if v3 = (nI 0) then some (some (.int (-1 : Int32)), M2) else zC1 (zEv d zmB_isDigit [.ref 86, .int x2] M2) (fun v7 M6 => (if v7 = (nI 0) then some (some (.int (-1 : Int32)), M6) else zC1 (zEv d zmB_isDone [.ref 86, .int x1] M6) (fun v11 M10 => (if v11 = (nI 0) then zC1 (zEv d zmB_hasMark [.ref 86, .int x1, .int x2] M10) (fun v15 M14 => (if v15 = (nI 0) then some (some (.int (-3 : Int32)), M14) else zC0 (zEv d zmC_remember [.ref 64] M14) (fun M18 => zC0 (zEv d zmB_putDigit [.ref 86, .int x1, .int x2] M18) (fun M20 => some (some (.int (nI 1)), M20))))) else some (some (.int (-2 : Int32)), M10))))))) = some r) : zEv (d + 1) zmC_put [.ref 64, .int x1, .int x2] M = some r := by
  rw [zEv_succ]
  show zEx0 (zEv d) zmC_put (0, [(0, .ref 64), (1, .int x1), (2, .int x2)], [], M) = some r
  refine y_pure (pc' := 1) (st' := [.ref 64]) rfl rfl ?_
  refine y_getf (pc' := 4) (v := .ref 86) rfl rfl rfl zc_64 rfl rfl ?_
  refine y_pure (pc' := 5) (st' := [.int x1, .ref 86]) rfl rfl ?_
  obtain ⟨v3, M2, he1, h⟩ := zC1_inv h
  refine y_callV (pc' := 8) (y := zmB_isOpen) (a' := [.int x1]) (st' := []) rfl rfl rfl rfl rfl (zrecv_o (o := 0) zc_86 rfl) rfl he1 rfl rfl ?_
  rcases zif_inv h with ⟨hc4, h⟩ | ⟨hc4, h⟩
  · refine y_cnd (pc' := 22) rfl rfl (zc_eqT hc4) rfl ?_
    refine y_pure (pc' := 23) (st' := [.int (-1 : Int32)]) rfl rfl ?_
    exact y_ret rfl rfl rfl rfl h
  · refine y_cnd (pc' := 11) rfl rfl (zc_eqF hc4) rfl ?_
    refine y_pure (pc' := 12) (st' := [.ref 64]) rfl rfl ?_
    refine y_getf (pc' := 15) (v := .ref 86) rfl rfl rfl zc_64 rfl rfl ?_
    refine y_pure (pc' := 16) (st' := [.int x2, .ref 86]) rfl rfl ?_
    obtain ⟨v7, M6, he5, h⟩ := zC1_inv h
    refine y_callV (pc' := 19) (y := zmB_isDigit) (a' := [.int x2]) (st' := []) rfl rfl rfl rfl rfl (zrecv_o (o := 0) zc_86 rfl) rfl he5 rfl rfl ?_
    rcases zif_inv h with ⟨hc8, h⟩ | ⟨hc8, h⟩
    · refine y_cnd (pc' := 22) rfl rfl (zc_neF hc8) rfl ?_
      refine y_pure (pc' := 23) (st' := [.int (-1 : Int32)]) rfl rfl ?_
      exact y_ret rfl rfl rfl rfl h
    · refine y_cnd (pc' := 24) rfl rfl (zc_neT hc8) rfl ?_
      refine y_pure (pc' := 25) (st' := [.ref 64]) rfl rfl ?_
      refine y_getf (pc' := 28) (v := .ref 86) rfl rfl rfl zc_64 rfl rfl ?_
      refine y_pure (pc' := 29) (st' := [.int x1, .ref 86]) rfl rfl ?_
      obtain ⟨v11, M10, he9, h⟩ := zC1_inv h
      refine y_callV (pc' := 32) (y := zmB_isDone) (a' := [.int x1]) (st' := []) rfl rfl rfl rfl rfl (zrecv_o (o := 0) zc_86 rfl) rfl he9 rfl rfl ?_
      rcases zif_inv h with ⟨hc12, h⟩ | ⟨hc12, h⟩
      · refine y_cnd (pc' := 38) rfl rfl (zc_eqT hc12) rfl ?_
        refine y_pure (pc' := 39) (st' := [.ref 64]) rfl rfl ?_
        refine y_getf (pc' := 42) (v := .ref 86) rfl rfl rfl zc_64 rfl rfl ?_
        refine y_pure (pc' := 43) (st' := [.int x1, .ref 86]) rfl rfl ?_
        refine y_pure (pc' := 44) (st' := [.int x2, .int x1, .ref 86]) rfl rfl ?_
        obtain ⟨v15, M14, he13, h⟩ := zC1_inv h
        refine y_callV (pc' := 47) (y := zmB_hasMark) (a' := [.int x1, .int x2]) (st' := []) rfl rfl rfl rfl rfl (zrecv_o (o := 0) zc_86 rfl) rfl he13 rfl rfl ?_
        rcases zif_inv h with ⟨hc16, h⟩ | ⟨hc16, h⟩
        · refine y_cnd (pc' := 50) rfl rfl (zc_neF hc16) rfl ?_
          refine y_pure (pc' := 52) (st' := [.int (-3 : Int32)]) rfl rfl ?_
          exact y_ret rfl rfl rfl rfl h
        · refine y_cnd (pc' := 53) rfl rfl (zc_neT hc16) rfl ?_
          refine y_pure (pc' := 54) (st' := [.ref 64]) rfl rfl ?_
          obtain ⟨M18, he17, h⟩ := zC0_inv h
          refine y_callV (pc' := 57) (y := zmC_remember) (a' := []) (st' := []) rfl rfl rfl rfl rfl (zrecv_o (o := 9) zc_64 rfl) rfl he17 rfl rfl ?_
          refine y_pure (pc' := 58) (st' := [.ref 64]) rfl rfl ?_
          refine y_getf (pc' := 61) (v := .ref 86) rfl rfl rfl zc_64 rfl rfl ?_
          refine y_pure (pc' := 62) (st' := [.int x1, .ref 86]) rfl rfl ?_
          refine y_pure (pc' := 63) (st' := [.int x2, .int x1, .ref 86]) rfl rfl ?_
          obtain ⟨M20, he19, h⟩ := zC0_inv h
          refine y_callV (pc' := 66) (y := zmB_putDigit) (a' := [.int x1, .int x2]) (st' := []) rfl rfl rfl rfl rfl (zrecv_o (o := 0) zc_86 rfl) rfl he19 rfl rfl ?_
          refine y_pure (pc' := 67) (st' := [.int (nI 1)]) rfl rfl ?_
          exact y_ret rfl rfl rfl rfl h
      · refine y_cnd (pc' := 35) rfl rfl (zc_eqF hc12) rfl ?_
        refine y_pure (pc' := 37) (st' := [.int (-2 : Int32)]) rfl rfl ?_
        exact y_ret rfl rfl rfl rfl h
theorem e_C_lift {d : Nat} {x1 : Int32} {M : ZM} {r : ZR}  (h : zC1 (zEv d zmB_isOpen [.ref 86, .int x1] M) (fun v3 M2 => (if v3 = (nI 0) then some (some (.int (-1 : Int32)), M2) else zC1 (zEv d zmB_isPut [.ref 86, .int x1] M2) (fun v7 M6 => (if v7 = (nI 0) then some (some (.int (-2 : Int32)), M6) else zC1 (zEv d zmB_digitOf [.ref 86, .int x1] M6) (fun v11 M10 => zC0 (zEv d zmC_remember [.ref 64] M10) (fun M13 => zC0 (zEv d zmB_free [.ref 86, .int x1] M13) (fun M15 => some (some (.int v11), M15)))))))) = some r) : zEv (d + 1) zmC_lift [.ref 64, .int x1] M = some r := by
  rw [zEv_succ]
  show zEx0 (zEv d) zmC_lift (0, [(0, .ref 64), (1, .int x1)], [], M) = some r
  refine y_pure (pc' := 1) (st' := [.ref 64]) rfl rfl ?_
  refine y_getf (pc' := 4) (v := .ref 86) rfl rfl rfl zc_64 rfl rfl ?_
  refine y_pure (pc' := 5) (st' := [.int x1, .ref 86]) rfl rfl ?_
  obtain ⟨v3, M2, he1, h⟩ := zC1_inv h
  refine y_callV (pc' := 8) (y := zmB_isOpen) (a' := [.int x1]) (st' := []) rfl rfl rfl rfl rfl (zrecv_o (o := 0) zc_86 rfl) rfl he1 rfl rfl ?_
  rcases zif_inv h with ⟨hc4, h⟩ | ⟨hc4, h⟩
  · refine y_cnd (pc' := 11) rfl rfl (zc_neF hc4) rfl ?_
    refine y_pure (pc' := 12) (st' := [.int (-1 : Int32)]) rfl rfl ?_
    exact y_ret rfl rfl rfl rfl h
  · refine y_cnd (pc' := 13) rfl rfl (zc_neT hc4) rfl ?_
    refine y_pure (pc' := 14) (st' := [.ref 64]) rfl rfl ?_
    refine y_getf (pc' := 17) (v := .ref 86) rfl rfl rfl zc_64 rfl rfl ?_
    refine y_pure (pc' := 18) (st' := [.int x1, .ref 86]) rfl rfl ?_
    obtain ⟨v7, M6, he5, h⟩ := zC1_inv h
    refine y_callV (pc' := 21) (y := zmB_isPut) (a' := [.int x1]) (st' := []) rfl rfl rfl rfl rfl (zrecv_o (o := 0) zc_86 rfl) rfl he5 rfl rfl ?_
    rcases zif_inv h with ⟨hc8, h⟩ | ⟨hc8, h⟩
    · refine y_cnd (pc' := 24) rfl rfl (zc_neF hc8) rfl ?_
      refine y_pure (pc' := 26) (st' := [.int (-2 : Int32)]) rfl rfl ?_
      exact y_ret rfl rfl rfl rfl h
    · refine y_cnd (pc' := 27) rfl rfl (zc_neT hc8) rfl ?_
      refine y_pure (pc' := 28) (st' := [.ref 64]) rfl rfl ?_
      refine y_getf (pc' := 31) (v := .ref 86) rfl rfl rfl zc_64 rfl rfl ?_
      refine y_pure (pc' := 32) (st' := [.int x1, .ref 86]) rfl rfl ?_
      obtain ⟨v11, M10, he9, h⟩ := zC1_inv h
      refine y_callV (pc' := 35) (y := zmB_digitOf) (a' := [.int x1]) (st' := []) rfl rfl rfl rfl rfl (zrecv_o (o := 0) zc_86 rfl) rfl he9 rfl rfl ?_
      refine y_pure (pc' := 36) (ls' := [(0, .ref 64), (1, .int x1), (2, .int v11)]) (st' := []) rfl rfl ?_
      refine y_pure (pc' := 37) (st' := [.ref 64]) rfl rfl ?_
      obtain ⟨M13, he12, h⟩ := zC0_inv h
      refine y_callV (pc' := 40) (y := zmC_remember) (a' := []) (st' := []) rfl rfl rfl rfl rfl (zrecv_o (o := 9) zc_64 rfl) rfl he12 rfl rfl ?_
      refine y_pure (pc' := 41) (st' := [.ref 64]) rfl rfl ?_
      refine y_getf (pc' := 44) (v := .ref 86) rfl rfl rfl zc_64 rfl rfl ?_
      refine y_pure (pc' := 45) (st' := [.int x1, .ref 86]) rfl rfl ?_
      obtain ⟨M15, he14, h⟩ := zC0_inv h
      refine y_callV (pc' := 48) (y := zmB_free) (a' := [.int x1]) (st' := []) rfl rfl rfl rfl rfl (zrecv_o (o := 0) zc_86 rfl) rfl he14 rfl rfl ?_
      refine y_pure (pc' := 49) (st' := [.int v11]) rfl rfl ?_
      exact y_ret rfl rfl rfl rfl h
theorem e_C_strike {d : Nat} {x1 : Int32} {x2 : Int32} {M : ZM} {r : ZR}  (h : zC1 (zEv d zmB_isOpen [.ref 86, .int x1] M) (fun v3 M2 => (if v3 = (nI 0) then some (some (.int (-1 : Int32)), M2) else zC1 (zEv d zmB_isDigit [.ref 86, .int x2] M2) (fun v7 M6 => (if v7 = (nI 0) then some (some (.int (-1 : Int32)), M6) else zC1 (zEv d zmB_isDone [.ref 86, .int x1] M6) (fun v11 M10 => (if v11 = (nI 0) then zC1 (zEv d zmB_hasMark [.ref 86, .int x1, .int x2] M10) (fun v15 M14 => (if v15 = (nI 0) then some (some (.int (-3 : Int32)), M14) else zC0 (zEv d zmC_remember [.ref 64] M14) (fun M18 => (if zin x1 36 = true then zC1 (zEv d zmJI_bitCount [.int ((zpi M18 87 (Int32.toNatClampNeg x1) ((M18.1 87 (Int32.toNatClampNeg x1)) &&& (((nI 1) <<< (x2 &&& 31)) ^^^ (-1 : Int32)))).1 87 (Int32.toNatClampNeg x1))] (zpi M18 87 (Int32.toNatClampNeg x1) ((M18.1 87 (Int32.toNatClampNeg x1)) &&& (((nI 1) <<< (x2 &&& 31)) ^^^ (-1 : Int32))))) (fun v22 M21 => some (some (.int v22), M21)) else none)))) else some (some (.int (-2 : Int32)), M10))))))) = some r) : zEv (d + 1) zmC_strike [.ref 64, .int x1, .int x2] M = some r := by
  rw [zEv_succ]
  show zEx0 (zEv d) zmC_strike (0, [(0, .ref 64), (1, .int x1), (2, .int x2)], [], M) = some r
  refine y_pure (pc' := 1) (st' := [.ref 64]) rfl rfl ?_
  refine y_getf (pc' := 4) (v := .ref 86) rfl rfl rfl zc_64 rfl rfl ?_
  refine y_pure (pc' := 5) (st' := [.int x1, .ref 86]) rfl rfl ?_
  obtain ⟨v3, M2, he1, h⟩ := zC1_inv h
  refine y_callV (pc' := 8) (y := zmB_isOpen) (a' := [.int x1]) (st' := []) rfl rfl rfl rfl rfl (zrecv_o (o := 0) zc_86 rfl) rfl he1 rfl rfl ?_
  rcases zif_inv h with ⟨hc4, h⟩ | ⟨hc4, h⟩
  · refine y_cnd (pc' := 22) rfl rfl (zc_eqT hc4) rfl ?_
    refine y_pure (pc' := 23) (st' := [.int (-1 : Int32)]) rfl rfl ?_
    exact y_ret rfl rfl rfl rfl h
  · refine y_cnd (pc' := 11) rfl rfl (zc_eqF hc4) rfl ?_
    refine y_pure (pc' := 12) (st' := [.ref 64]) rfl rfl ?_
    refine y_getf (pc' := 15) (v := .ref 86) rfl rfl rfl zc_64 rfl rfl ?_
    refine y_pure (pc' := 16) (st' := [.int x2, .ref 86]) rfl rfl ?_
    obtain ⟨v7, M6, he5, h⟩ := zC1_inv h
    refine y_callV (pc' := 19) (y := zmB_isDigit) (a' := [.int x2]) (st' := []) rfl rfl rfl rfl rfl (zrecv_o (o := 0) zc_86 rfl) rfl he5 rfl rfl ?_
    rcases zif_inv h with ⟨hc8, h⟩ | ⟨hc8, h⟩
    · refine y_cnd (pc' := 22) rfl rfl (zc_neF hc8) rfl ?_
      refine y_pure (pc' := 23) (st' := [.int (-1 : Int32)]) rfl rfl ?_
      exact y_ret rfl rfl rfl rfl h
    · refine y_cnd (pc' := 24) rfl rfl (zc_neT hc8) rfl ?_
      refine y_pure (pc' := 25) (st' := [.ref 64]) rfl rfl ?_
      refine y_getf (pc' := 28) (v := .ref 86) rfl rfl rfl zc_64 rfl rfl ?_
      refine y_pure (pc' := 29) (st' := [.int x1, .ref 86]) rfl rfl ?_
      obtain ⟨v11, M10, he9, h⟩ := zC1_inv h
      refine y_callV (pc' := 32) (y := zmB_isDone) (a' := [.int x1]) (st' := []) rfl rfl rfl rfl rfl (zrecv_o (o := 0) zc_86 rfl) rfl he9 rfl rfl ?_
      rcases zif_inv h with ⟨hc12, h⟩ | ⟨hc12, h⟩
      · refine y_cnd (pc' := 38) rfl rfl (zc_eqT hc12) rfl ?_
        refine y_pure (pc' := 39) (st' := [.ref 64]) rfl rfl ?_
        refine y_getf (pc' := 42) (v := .ref 86) rfl rfl rfl zc_64 rfl rfl ?_
        refine y_pure (pc' := 43) (st' := [.int x1, .ref 86]) rfl rfl ?_
        refine y_pure (pc' := 44) (st' := [.int x2, .int x1, .ref 86]) rfl rfl ?_
        obtain ⟨v15, M14, he13, h⟩ := zC1_inv h
        refine y_callV (pc' := 47) (y := zmB_hasMark) (a' := [.int x1, .int x2]) (st' := []) rfl rfl rfl rfl rfl (zrecv_o (o := 0) zc_86 rfl) rfl he13 rfl rfl ?_
        rcases zif_inv h with ⟨hc16, h⟩ | ⟨hc16, h⟩
        · refine y_cnd (pc' := 50) rfl rfl (zc_neF hc16) rfl ?_
          refine y_pure (pc' := 52) (st' := [.int (-3 : Int32)]) rfl rfl ?_
          exact y_ret rfl rfl rfl rfl h
        · refine y_cnd (pc' := 53) rfl rfl (zc_neT hc16) rfl ?_
          refine y_pure (pc' := 54) (st' := [.ref 64]) rfl rfl ?_
          obtain ⟨M18, he17, h⟩ := zC0_inv h
          refine y_callV (pc' := 57) (y := zmC_remember) (a' := []) (st' := []) rfl rfl rfl rfl rfl (zrecv_o (o := 9) zc_64 rfl) rfl he17 rfl rfl ?_
          refine y_pure (pc' := 58) (st' := [.ref 64]) rfl rfl ?_
          refine y_getf (pc' := 61) (v := .ref 86) rfl rfl rfl zc_64 rfl rfl ?_
          refine y_getf (pc' := 64) (v := .ref 87) rfl rfl rfl zc_86 rfl rfl ?_
          refine y_pure (pc' := 65) (st' := [.int x1, .ref 87]) rfl rfl ?_
          refine y_pure (pc' := 66) (st' := [.int x1, .ref 87, .int x1, .ref 87]) rfl rfl ?_
          obtain ⟨hi19, h⟩ := zg_inv h
          refine y_iald (pc' := 67) rfl zc_87 hi19 rfl ?_
          refine y_pure (pc' := 68) (st' := [.int (nI 1), .int (M18.1 87 (Int32.toNatClampNeg x1)), .int x1, .ref 87]) rfl rfl ?_
          refine y_pure (pc' := 69) (st' := [.int x2, .int (nI 1), .int (M18.1 87 (Int32.toNatClampNeg x1)), .int x1, .ref 87]) rfl rfl ?_
          refine y_pure (pc' := 70) (st' := [.int ((nI 1) <<< (x2 &&& 31)), .int (M18.1 87 (Int32.toNatClampNeg x1)), .int x1, .ref 87]) rfl rfl ?_
          refine y_pure (pc' := 71) (st' := [.int (-1 : Int32), .int ((nI 1) <<< (x2 &&& 31)), .int (M18.1 87 (Int32.toNatClampNeg x1)), .int x1, .ref 87]) rfl rfl ?_
          refine y_pure (pc' := 72) (st' := [.int (((nI 1) <<< (x2 &&& 31)) ^^^ (-1 : Int32)), .int (M18.1 87 (Int32.toNatClampNeg x1)), .int x1, .ref 87]) rfl rfl ?_
          refine y_pure (pc' := 73) (st' := [.int ((M18.1 87 (Int32.toNatClampNeg x1)) &&& (((nI 1) <<< (x2 &&& 31)) ^^^ (-1 : Int32))), .int x1, .ref 87]) rfl rfl ?_
          refine y_iast (pc' := 74) rfl zc_87 hi19 rfl ?_
          refine y_pure (pc' := 75) (st' := [.ref 64]) rfl rfl ?_
          refine y_getf (pc' := 78) (v := .ref 86) rfl rfl rfl zc_64 rfl rfl ?_
          refine y_getf (pc' := 81) (v := .ref 87) rfl rfl rfl zc_86 rfl rfl ?_
          refine y_pure (pc' := 82) (st' := [.int x1, .ref 87]) rfl rfl ?_
          refine y_iald (pc' := 83) rfl zc_87 hi19 rfl ?_
          obtain ⟨v22, M21, he20, h⟩ := zC1_inv h
          refine y_callS (pc' := 86) (y := zmJI_bitCount) (a := [.int ((zpi M18 87 (Int32.toNatClampNeg x1) ((M18.1 87 (Int32.toNatClampNeg x1)) &&& (((nI 1) <<< (x2 &&& 31)) ^^^ (-1 : Int32)))).1 87 (Int32.toNatClampNeg x1))]) (st' := []) rfl rfl rfl rfl rfl rfl he20 rfl rfl ?_
          exact y_ret rfl rfl rfl rfl h
      · refine y_cnd (pc' := 35) rfl rfl (zc_eqF hc12) rfl ?_
        refine y_pure (pc' := 37) (st' := [.int (-2 : Int32)]) rfl rfl ?_
        exact y_ret rfl rfl rfl rfl h
theorem e_C_give {d : Nat} {x1 : Int32} {x2 : Int32} {M : ZM} {r : ZR}  (h : zC1 (zEv d zmB_isOpen [.ref 86, .int x1] M) (fun v3 M2 => (if v3 = (nI 0) then some (some (.int (-1 : Int32)), M2) else zC1 (zEv d zmB_isDigit [.ref 86, .int x2] M2) (fun v7 M6 => (if v7 = (nI 0) then some (some (.int (-1 : Int32)), M6) else zC1 (zEv d zmB_isGiven [.ref 86, .int x1] M6) (fun v11 M10 => (if v11 = (nI 0) then zC0 (zEv d zmC_remember [.ref 64] M10) (fun M14 => zC0 (zEv d zmB_giveDigit [.ref 86, .int x1, .int x2] M14) (fun M16 => some (some (.int (nI 1)), M16))) else zC1 (zEv d zmB_digitOf [.ref 86, .int x1] M10) (fun v19 M18 => (if v19 = x2 then some (some (.int (-2 : Int32)), M18) else zC0 (zEv d zmC_remember [.ref 64] M18) (fun M22 => zC0 (zEv d zmB_giveDigit [.ref 86, .int x1, .int x2] M22) (fun M24 => some (some (.int (nI 1)), M24))))))))))) = some r) : zEv (d + 1) zmC_give [.ref 64, .int x1, .int x2] M = some r := by
  rw [zEv_succ]
  show zEx0 (zEv d) zmC_give (0, [(0, .ref 64), (1, .int x1), (2, .int x2)], [], M) = some r
  refine y_pure (pc' := 1) (st' := [.ref 64]) rfl rfl ?_
  refine y_getf (pc' := 4) (v := .ref 86) rfl rfl rfl zc_64 rfl rfl ?_
  refine y_pure (pc' := 5) (st' := [.int x1, .ref 86]) rfl rfl ?_
  obtain ⟨v3, M2, he1, h⟩ := zC1_inv h
  refine y_callV (pc' := 8) (y := zmB_isOpen) (a' := [.int x1]) (st' := []) rfl rfl rfl rfl rfl (zrecv_o (o := 0) zc_86 rfl) rfl he1 rfl rfl ?_
  rcases zif_inv h with ⟨hc4, h⟩ | ⟨hc4, h⟩
  · refine y_cnd (pc' := 22) rfl rfl (zc_eqT hc4) rfl ?_
    refine y_pure (pc' := 23) (st' := [.int (-1 : Int32)]) rfl rfl ?_
    exact y_ret rfl rfl rfl rfl h
  · refine y_cnd (pc' := 11) rfl rfl (zc_eqF hc4) rfl ?_
    refine y_pure (pc' := 12) (st' := [.ref 64]) rfl rfl ?_
    refine y_getf (pc' := 15) (v := .ref 86) rfl rfl rfl zc_64 rfl rfl ?_
    refine y_pure (pc' := 16) (st' := [.int x2, .ref 86]) rfl rfl ?_
    obtain ⟨v7, M6, he5, h⟩ := zC1_inv h
    refine y_callV (pc' := 19) (y := zmB_isDigit) (a' := [.int x2]) (st' := []) rfl rfl rfl rfl rfl (zrecv_o (o := 0) zc_86 rfl) rfl he5 rfl rfl ?_
    rcases zif_inv h with ⟨hc8, h⟩ | ⟨hc8, h⟩
    · refine y_cnd (pc' := 22) rfl rfl (zc_neF hc8) rfl ?_
      refine y_pure (pc' := 23) (st' := [.int (-1 : Int32)]) rfl rfl ?_
      exact y_ret rfl rfl rfl rfl h
    · refine y_cnd (pc' := 24) rfl rfl (zc_neT hc8) rfl ?_
      refine y_pure (pc' := 25) (st' := [.ref 64]) rfl rfl ?_
      refine y_getf (pc' := 28) (v := .ref 86) rfl rfl rfl zc_64 rfl rfl ?_
      refine y_pure (pc' := 29) (st' := [.int x1, .ref 86]) rfl rfl ?_
      obtain ⟨v11, M10, he9, h⟩ := zC1_inv h
      refine y_callV (pc' := 32) (y := zmB_isGiven) (a' := [.int x1]) (st' := []) rfl rfl rfl rfl rfl (zrecv_o (o := 0) zc_86 rfl) rfl he9 rfl rfl ?_
      rcases zif_inv h with ⟨hc12, h⟩ | ⟨hc12, h⟩
      · refine y_cnd (pc' := 50) rfl rfl (zc_eqT hc12) rfl ?_
        refine y_pure (pc' := 51) (st' := [.ref 64]) rfl rfl ?_
        obtain ⟨M14, he13, h⟩ := zC0_inv h
        refine y_callV (pc' := 54) (y := zmC_remember) (a' := []) (st' := []) rfl rfl rfl rfl rfl (zrecv_o (o := 9) zc_64 rfl) rfl he13 rfl rfl ?_
        refine y_pure (pc' := 55) (st' := [.ref 64]) rfl rfl ?_
        refine y_getf (pc' := 58) (v := .ref 86) rfl rfl rfl zc_64 rfl rfl ?_
        refine y_pure (pc' := 59) (st' := [.int x1, .ref 86]) rfl rfl ?_
        refine y_pure (pc' := 60) (st' := [.int x2, .int x1, .ref 86]) rfl rfl ?_
        obtain ⟨M16, he15, h⟩ := zC0_inv h
        refine y_callV (pc' := 63) (y := zmB_giveDigit) (a' := [.int x1, .int x2]) (st' := []) rfl rfl rfl rfl rfl (zrecv_o (o := 0) zc_86 rfl) rfl he15 rfl rfl ?_
        refine y_pure (pc' := 64) (st' := [.int (nI 1)]) rfl rfl ?_
        exact y_ret rfl rfl rfl rfl h
      · refine y_cnd (pc' := 35) rfl rfl (zc_eqF hc12) rfl ?_
        refine y_pure (pc' := 36) (st' := [.ref 64]) rfl rfl ?_
        refine y_getf (pc' := 39) (v := .ref 86) rfl rfl rfl zc_64 rfl rfl ?_
        refine y_pure (pc' := 40) (st' := [.int x1, .ref 86]) rfl rfl ?_
        obtain ⟨v19, M18, he17, h⟩ := zC1_inv h
        refine y_callV (pc' := 43) (y := zmB_digitOf) (a' := [.int x1]) (st' := []) rfl rfl rfl rfl rfl (zrecv_o (o := 0) zc_86 rfl) rfl he17 rfl rfl ?_
        refine y_pure (pc' := 44) (st' := [.int x2, .int v19]) rfl rfl ?_
        rcases zif_inv h with ⟨hc20, h⟩ | ⟨hc20, h⟩
        · refine y_cmp (pc' := 47) rfl rfl (zc_neF hc20) rfl ?_
          refine y_pure (pc' := 49) (st' := [.int (-2 : Int32)]) rfl rfl ?_
          exact y_ret rfl rfl rfl rfl h
        · refine y_cmp (pc' := 50) rfl rfl (zc_neT hc20) rfl ?_
          refine y_pure (pc' := 51) (st' := [.ref 64]) rfl rfl ?_
          obtain ⟨M22, he21, h⟩ := zC0_inv h
          refine y_callV (pc' := 54) (y := zmC_remember) (a' := []) (st' := []) rfl rfl rfl rfl rfl (zrecv_o (o := 9) zc_64 rfl) rfl he21 rfl rfl ?_
          refine y_pure (pc' := 55) (st' := [.ref 64]) rfl rfl ?_
          refine y_getf (pc' := 58) (v := .ref 86) rfl rfl rfl zc_64 rfl rfl ?_
          refine y_pure (pc' := 59) (st' := [.int x1, .ref 86]) rfl rfl ?_
          refine y_pure (pc' := 60) (st' := [.int x2, .int x1, .ref 86]) rfl rfl ?_
          obtain ⟨M24, he23, h⟩ := zC0_inv h
          refine y_callV (pc' := 63) (y := zmB_giveDigit) (a' := [.int x1, .int x2]) (st' := []) rfl rfl rfl rfl rfl (zrecv_o (o := 0) zc_86 rfl) rfl he23 rfl rfl ?_
          refine y_pure (pc' := 64) (st' := [.int (nI 1)]) rfl rfl ?_
          exact y_ret rfl rfl rfl rfl h
theorem e_C_total {d : Nat} {x1 : Int32} {x2 : Int32} {M : ZM} {r : ZR}  (h : zC1 (zEv d zmB_isCage [.ref 86, .int x1] M) (fun v3 M2 => (if v3 = (nI 0) then some (some (.int (-1 : Int32)), M2) else (if zin x1 12 = true then (if (M2.1 88 (Int32.toNatClampNeg x1)) = (nI 3) then some (some (.int (-1 : Int32)), M2) else (if x2 < (nI 0) then some (some (.int (-1 : Int32)), M2) else zC1 (zEv d zmC_mostTotal [.int (M2.1 88 (Int32.toNatClampNeg x1))] M2) (fun v10 M9 => (if v10 < x2 then some (some (.int (-1 : Int32)), M9) else (if (M9.1 89 (Int32.toNatClampNeg x1)) = x2 then some (some (.int (-2 : Int32)), M9) else zC0 (zEv d zmC_remember [.ref 64] M9) (fun M14 => some (some (.int (M9.1 89 (Int32.toNatClampNeg x1))), (zpi M14 89 (Int32.toNatClampNeg x1) x2)))))))) else none))) = some r) : zEv (d + 1) zmC_total [.ref 64, .int x1, .int x2] M = some r := by
  rw [zEv_succ]
  show zEx0 (zEv d) zmC_total (0, [(0, .ref 64), (1, .int x1), (2, .int x2)], [], M) = some r
  refine y_pure (pc' := 1) (st' := [.ref 64]) rfl rfl ?_
  refine y_getf (pc' := 4) (v := .ref 86) rfl rfl rfl zc_64 rfl rfl ?_
  refine y_pure (pc' := 5) (st' := [.int x1, .ref 86]) rfl rfl ?_
  obtain ⟨v3, M2, he1, h⟩ := zC1_inv h
  refine y_callV (pc' := 8) (y := zmB_isCage) (a' := [.int x1]) (st' := []) rfl rfl rfl rfl rfl (zrecv_o (o := 0) zc_86 rfl) rfl he1 rfl rfl ?_
  rcases zif_inv h with ⟨hc4, h⟩ | ⟨hc4, h⟩
  · refine y_cnd (pc' := 44) rfl rfl (zc_eqT hc4) rfl ?_
    refine y_pure (pc' := 45) (st' := [.int (-1 : Int32)]) rfl rfl ?_
    exact y_ret rfl rfl rfl rfl h
  · refine y_cnd (pc' := 11) rfl rfl (zc_eqF hc4) rfl ?_
    refine y_pure (pc' := 12) (st' := [.ref 64]) rfl rfl ?_
    refine y_getf (pc' := 15) (v := .ref 86) rfl rfl rfl zc_64 rfl rfl ?_
    refine y_getf (pc' := 18) (v := .ref 88) rfl rfl rfl zc_86 rfl rfl ?_
    refine y_pure (pc' := 19) (st' := [.int x1, .ref 88]) rfl rfl ?_
    obtain ⟨hi5, h⟩ := zg_inv h
    refine y_iald (pc' := 20) rfl zc_88 hi5 rfl ?_
    refine y_pure (pc' := 21) (st' := [.int (nI 3), .int (M2.1 88 (Int32.toNatClampNeg x1))]) rfl rfl ?_
    rcases zif_inv h with ⟨hc6, h⟩ | ⟨hc6, h⟩
    · refine y_cmp (pc' := 44) rfl rfl (zc_eqT hc6) rfl ?_
      refine y_pure (pc' := 45) (st' := [.int (-1 : Int32)]) rfl rfl ?_
      exact y_ret rfl rfl rfl rfl h
    · refine y_cmp (pc' := 24) rfl rfl (zc_eqF hc6) rfl ?_
      refine y_pure (pc' := 25) (st' := [.int x2]) rfl rfl ?_
      rcases zif_inv h with ⟨hc7, h⟩ | ⟨hc7, h⟩
      · refine y_cnd (pc' := 44) rfl rfl (zc_ltT hc7) rfl ?_
        refine y_pure (pc' := 45) (st' := [.int (-1 : Int32)]) rfl rfl ?_
        exact y_ret rfl rfl rfl rfl h
      · refine y_cnd (pc' := 28) rfl rfl (zc_ltF hc7) rfl ?_
        refine y_pure (pc' := 29) (st' := [.int x2]) rfl rfl ?_
        refine y_pure (pc' := 30) (st' := [.ref 64, .int x2]) rfl rfl ?_
        refine y_getf (pc' := 33) (v := .ref 86) rfl rfl rfl zc_64 rfl rfl ?_
        refine y_getf (pc' := 36) (v := .ref 88) rfl rfl rfl zc_86 rfl rfl ?_
        refine y_pure (pc' := 37) (st' := [.int x1, .ref 88, .int x2]) rfl rfl ?_
        refine y_iald (pc' := 38) rfl zc_88 hi5 rfl ?_
        obtain ⟨v10, M9, he8, h⟩ := zC1_inv h
        refine y_callS (pc' := 41) (y := zmC_mostTotal) (a := [.int (M2.1 88 (Int32.toNatClampNeg x1))]) (st' := [.int x2]) rfl rfl rfl rfl rfl rfl he8 rfl rfl ?_
        rcases zif_inv h with ⟨hc11, h⟩ | ⟨hc11, h⟩
        · refine y_cmp (pc' := 44) rfl rfl (zc_leF hc11) rfl ?_
          refine y_pure (pc' := 45) (st' := [.int (-1 : Int32)]) rfl rfl ?_
          exact y_ret rfl rfl rfl rfl h
        · refine y_cmp (pc' := 46) rfl rfl (zc_leT hc11) rfl ?_
          refine y_pure (pc' := 47) (st' := [.ref 64]) rfl rfl ?_
          refine y_getf (pc' := 50) (v := .ref 86) rfl rfl rfl zc_64 rfl rfl ?_
          refine y_getf (pc' := 53) (v := .ref 89) rfl rfl rfl zc_86 rfl rfl ?_
          refine y_pure (pc' := 54) (st' := [.int x1, .ref 89]) rfl rfl ?_
          refine y_iald (pc' := 55) rfl zc_89 hi5 rfl ?_
          refine y_pure (pc' := 56) (ls' := [(0, .ref 64), (1, .int x1), (2, .int x2), (3, .int (M9.1 89 (Int32.toNatClampNeg x1)))]) (st' := []) rfl rfl ?_
          refine y_pure (pc' := 57) (st' := [.int (M9.1 89 (Int32.toNatClampNeg x1))]) rfl rfl ?_
          refine y_pure (pc' := 58) (st' := [.int x2, .int (M9.1 89 (Int32.toNatClampNeg x1))]) rfl rfl ?_
          rcases zif_inv h with ⟨hc12, h⟩ | ⟨hc12, h⟩
          · refine y_cmp (pc' := 61) rfl rfl (zc_neF hc12) rfl ?_
            refine y_pure (pc' := 63) (st' := [.int (-2 : Int32)]) rfl rfl ?_
            exact y_ret rfl rfl rfl rfl h
          · refine y_cmp (pc' := 64) rfl rfl (zc_neT hc12) rfl ?_
            refine y_pure (pc' := 65) (st' := [.ref 64]) rfl rfl ?_
            obtain ⟨M14, he13, h⟩ := zC0_inv h
            refine y_callV (pc' := 68) (y := zmC_remember) (a' := []) (st' := []) rfl rfl rfl rfl rfl (zrecv_o (o := 9) zc_64 rfl) rfl he13 rfl rfl ?_
            refine y_pure (pc' := 69) (st' := [.ref 64]) rfl rfl ?_
            refine y_getf (pc' := 72) (v := .ref 86) rfl rfl rfl zc_64 rfl rfl ?_
            refine y_getf (pc' := 75) (v := .ref 89) rfl rfl rfl zc_86 rfl rfl ?_
            refine y_pure (pc' := 76) (st' := [.int x1, .ref 89]) rfl rfl ?_
            refine y_pure (pc' := 77) (st' := [.int x2, .int x1, .ref 89]) rfl rfl ?_
            refine y_iast (pc' := 78) rfl zc_89 hi5 rfl ?_
            refine y_pure (pc' := 79) (st' := [.int (M9.1 89 (Int32.toNatClampNeg x1))]) rfl rfl ?_
            exact y_ret rfl rfl rfl rfl h
theorem e_C_step {d : Nat}  {M : ZM} {r : ZR}  (h : zC1 (zEv d zmB_isTold [.ref 86] M) (fun v3 M2 => (if v3 = (nI 0) then some (some (.int (-1 : Int32)), M2) else zC0 (zEv d zmL_find [.ref 262, .ref 86] M2) (fun M6 => zC1 (zEv d zmL_isBroken [.ref 262] M6) (fun v9 M8 => (if v9 = (nI 0) then (if (M8.1 262 5) = (nI 0) then some (some (.int (M8.1 262 5)), M8) else zC0 (zEv d zmC_remember [.ref 64] M8) (fun M13 => zC0 (zEv d zmL_apply [.ref 262, .ref 86] M13) (fun M15 => some (some (.int (M15.1 262 5)), M15)))) else some (some (.int (-2 : Int32)), M8)))))) = some r) : zEv (d + 1) zmC_step [.ref 64] M = some r := by
  rw [zEv_succ]
  show zEx0 (zEv d) zmC_step (0, [(0, .ref 64)], [], M) = some r
  refine y_pure (pc' := 1) (st' := [.ref 64]) rfl rfl ?_
  refine y_getf (pc' := 4) (v := .ref 86) rfl rfl rfl zc_64 rfl rfl ?_
  obtain ⟨v3, M2, he1, h⟩ := zC1_inv h
  refine y_callV (pc' := 7) (y := zmB_isTold) (a' := []) (st' := []) rfl rfl rfl rfl rfl (zrecv_o (o := 0) zc_86 rfl) rfl he1 rfl rfl ?_
  rcases zif_inv h with ⟨hc4, h⟩ | ⟨hc4, h⟩
  · refine y_cnd (pc' := 10) rfl rfl (zc_neF hc4) rfl ?_
    refine y_pure (pc' := 11) (st' := [.int (-1 : Int32)]) rfl rfl ?_
    exact y_ret rfl rfl rfl rfl h
  · refine y_cnd (pc' := 12) rfl rfl (zc_neT hc4) rfl ?_
    refine y_pure (pc' := 13) (st' := [.ref 64]) rfl rfl ?_
    refine y_getf (pc' := 16) (v := .ref 262) rfl rfl rfl zc_64 rfl rfl ?_
    refine y_pure (pc' := 17) (st' := [.ref 64, .ref 262]) rfl rfl ?_
    refine y_getf (pc' := 20) (v := .ref 86) rfl rfl rfl zc_64 rfl rfl ?_
    obtain ⟨M6, he5, h⟩ := zC0_inv h
    refine y_callV (pc' := 23) (y := zmL_find) (a' := [.ref 86]) (st' := []) rfl rfl rfl rfl rfl (zrecv_o (o := 1) zc_262 rfl) rfl he5 rfl rfl ?_
    refine y_pure (pc' := 24) (st' := [.ref 64]) rfl rfl ?_
    refine y_getf (pc' := 27) (v := .ref 262) rfl rfl rfl zc_64 rfl rfl ?_
    obtain ⟨v9, M8, he7, h⟩ := zC1_inv h
    refine y_callV (pc' := 30) (y := zmL_isBroken) (a' := []) (st' := []) rfl rfl rfl rfl rfl (zrecv_o (o := 1) zc_262 rfl) rfl he7 rfl rfl ?_
    rcases zif_inv h with ⟨hc10, h⟩ | ⟨hc10, h⟩
    · refine y_cnd (pc' := 36) rfl rfl (zc_eqT hc10) rfl ?_
      refine y_pure (pc' := 37) (st' := [.ref 64]) rfl rfl ?_
      refine y_getf (pc' := 40) (v := .ref 262) rfl rfl rfl zc_64 rfl rfl ?_
      refine y_getf (pc' := 43) (v := .int (M8.1 262 5)) rfl rfl rfl zc_262 rfl rfl ?_
      rcases zif_inv h with ⟨hc11, h⟩ | ⟨hc11, h⟩
      · refine y_cnd (pc' := 61) rfl rfl (zc_eqT hc11) rfl ?_
        refine y_pure (pc' := 62) (st' := [.ref 64]) rfl rfl ?_
        refine y_getf (pc' := 65) (v := .ref 262) rfl rfl rfl zc_64 rfl rfl ?_
        refine y_getf (pc' := 68) (v := .int (M8.1 262 5)) rfl rfl rfl zc_262 rfl rfl ?_
        exact y_ret rfl rfl rfl rfl h
      · refine y_cnd (pc' := 46) rfl rfl (zc_eqF hc11) rfl ?_
        refine y_pure (pc' := 47) (st' := [.ref 64]) rfl rfl ?_
        obtain ⟨M13, he12, h⟩ := zC0_inv h
        refine y_callV (pc' := 50) (y := zmC_remember) (a' := []) (st' := []) rfl rfl rfl rfl rfl (zrecv_o (o := 9) zc_64 rfl) rfl he12 rfl rfl ?_
        refine y_pure (pc' := 51) (st' := [.ref 64]) rfl rfl ?_
        refine y_getf (pc' := 54) (v := .ref 262) rfl rfl rfl zc_64 rfl rfl ?_
        refine y_pure (pc' := 55) (st' := [.ref 64, .ref 262]) rfl rfl ?_
        refine y_getf (pc' := 58) (v := .ref 86) rfl rfl rfl zc_64 rfl rfl ?_
        obtain ⟨M15, he14, h⟩ := zC0_inv h
        refine y_callV (pc' := 61) (y := zmL_apply) (a' := [.ref 86]) (st' := []) rfl rfl rfl rfl rfl (zrecv_o (o := 1) zc_262 rfl) rfl he14 rfl rfl ?_
        refine y_pure (pc' := 62) (st' := [.ref 64]) rfl rfl ?_
        refine y_getf (pc' := 65) (v := .ref 262) rfl rfl rfl zc_64 rfl rfl ?_
        refine y_getf (pc' := 68) (v := .int (M15.1 262 5)) rfl rfl rfl zc_262 rfl rfl ?_
        exact y_ret rfl rfl rfl rfl h
    · refine y_cnd (pc' := 33) rfl rfl (zc_eqF hc10) rfl ?_
      refine y_pure (pc' := 35) (st' := [.int (-2 : Int32)]) rfl rfl ?_
      exact y_ret rfl rfl rfl rfl h
theorem e_C_run {d : Nat}  {M : ZM} {r : ZR}  (h : zC1 (zEv d zmB_isTold [.ref 86] M) (fun v3 M2 => (if v3 = (nI 0) then some (some (.int (-1 : Int32)), M2) else zC0 (zEv d zmL_find [.ref 262, .ref 86] M2) (fun M6 => zC1 (zEv d zmL_isBroken [.ref 262] M6) (fun v9 M8 => (if v9 = (nI 0) then (if (M8.1 262 5) = (nI 0) then some (some (.int (nI 0)), M8) else zC0 (zEv d zmC_remember [.ref 64] M8) (fun M13 => zC0 (zEv d zmL_applyAll [.ref 262, .ref 86] M13) (fun M15 => some (some (.int (M15.1 262 10)), M15)))) else some (some (.int (-2 : Int32)), M8)))))) = some r) : zEv (d + 1) zmC_run [.ref 64] M = some r := by
  rw [zEv_succ]
  show zEx0 (zEv d) zmC_run (0, [(0, .ref 64)], [], M) = some r
  refine y_pure (pc' := 1) (st' := [.ref 64]) rfl rfl ?_
  refine y_getf (pc' := 4) (v := .ref 86) rfl rfl rfl zc_64 rfl rfl ?_
  obtain ⟨v3, M2, he1, h⟩ := zC1_inv h
  refine y_callV (pc' := 7) (y := zmB_isTold) (a' := []) (st' := []) rfl rfl rfl rfl rfl (zrecv_o (o := 0) zc_86 rfl) rfl he1 rfl rfl ?_
  rcases zif_inv h with ⟨hc4, h⟩ | ⟨hc4, h⟩
  · refine y_cnd (pc' := 10) rfl rfl (zc_neF hc4) rfl ?_
    refine y_pure (pc' := 11) (st' := [.int (-1 : Int32)]) rfl rfl ?_
    exact y_ret rfl rfl rfl rfl h
  · refine y_cnd (pc' := 12) rfl rfl (zc_neT hc4) rfl ?_
    refine y_pure (pc' := 13) (st' := [.ref 64]) rfl rfl ?_
    refine y_getf (pc' := 16) (v := .ref 262) rfl rfl rfl zc_64 rfl rfl ?_
    refine y_pure (pc' := 17) (st' := [.ref 64, .ref 262]) rfl rfl ?_
    refine y_getf (pc' := 20) (v := .ref 86) rfl rfl rfl zc_64 rfl rfl ?_
    obtain ⟨M6, he5, h⟩ := zC0_inv h
    refine y_callV (pc' := 23) (y := zmL_find) (a' := [.ref 86]) (st' := []) rfl rfl rfl rfl rfl (zrecv_o (o := 1) zc_262 rfl) rfl he5 rfl rfl ?_
    refine y_pure (pc' := 24) (st' := [.ref 64]) rfl rfl ?_
    refine y_getf (pc' := 27) (v := .ref 262) rfl rfl rfl zc_64 rfl rfl ?_
    obtain ⟨v9, M8, he7, h⟩ := zC1_inv h
    refine y_callV (pc' := 30) (y := zmL_isBroken) (a' := []) (st' := []) rfl rfl rfl rfl rfl (zrecv_o (o := 1) zc_262 rfl) rfl he7 rfl rfl ?_
    rcases zif_inv h with ⟨hc10, h⟩ | ⟨hc10, h⟩
    · refine y_cnd (pc' := 36) rfl rfl (zc_eqT hc10) rfl ?_
      refine y_pure (pc' := 37) (st' := [.ref 64]) rfl rfl ?_
      refine y_getf (pc' := 40) (v := .ref 262) rfl rfl rfl zc_64 rfl rfl ?_
      refine y_getf (pc' := 43) (v := .int (M8.1 262 5)) rfl rfl rfl zc_262 rfl rfl ?_
      rcases zif_inv h with ⟨hc11, h⟩ | ⟨hc11, h⟩
      · refine y_cnd (pc' := 46) rfl rfl (zc_neF hc11) rfl ?_
        refine y_pure (pc' := 47) (st' := [.int (nI 0)]) rfl rfl ?_
        exact y_ret rfl rfl rfl rfl h
      · refine y_cnd (pc' := 48) rfl rfl (zc_neT hc11) rfl ?_
        refine y_pure (pc' := 49) (st' := [.ref 64]) rfl rfl ?_
        obtain ⟨M13, he12, h⟩ := zC0_inv h
        refine y_callV (pc' := 52) (y := zmC_remember) (a' := []) (st' := []) rfl rfl rfl rfl rfl (zrecv_o (o := 9) zc_64 rfl) rfl he12 rfl rfl ?_
        refine y_pure (pc' := 53) (st' := [.ref 64]) rfl rfl ?_
        refine y_getf (pc' := 56) (v := .ref 262) rfl rfl rfl zc_64 rfl rfl ?_
        refine y_pure (pc' := 57) (st' := [.ref 64, .ref 262]) rfl rfl ?_
        refine y_getf (pc' := 60) (v := .ref 86) rfl rfl rfl zc_64 rfl rfl ?_
        obtain ⟨M15, he14, h⟩ := zC0_inv h
        refine y_callV (pc' := 63) (y := zmL_applyAll) (a' := [.ref 86]) (st' := []) rfl rfl rfl rfl rfl (zrecv_o (o := 1) zc_262 rfl) rfl he14 rfl rfl ?_
        refine y_pure (pc' := 64) (st' := [.ref 64]) rfl rfl ?_
        refine y_getf (pc' := 67) (v := .ref 262) rfl rfl rfl zc_64 rfl rfl ?_
        refine y_getf (pc' := 70) (v := .int (M15.1 262 10)) rfl rfl rfl zc_262 rfl rfl ?_
        exact y_ret rfl rfl rfl rfl h
    · refine y_cnd (pc' := 33) rfl rfl (zc_eqF hc10) rfl ?_
      refine y_pure (pc' := 35) (st' := [.int (-2 : Int32)]) rfl rfl ?_
      exact y_ret rfl rfl rfl rfl h
theorem e_C_make {d : Nat} {x1 : Int32} {M : ZM} {r : ZR}  (h : zC1 (zEv d zmB_isTold [.ref 86] M) (fun v3 M2 => (if v3 = (nI 0) then some (some (.int (-1 : Int32)), M2) else zC0 (zEv d zmB_copyFrom [.ref 105, .ref 86] M2) (fun M6 => zC1 (zEv d zmK_drawDigits [.ref 632, .ref 105, .int x1] M6) (fun v9 M8 => (if v9 = (nI 0) then some (some (.int (-2 : Int32)), M8) else zC0 (zEv d zmK_tellTotals [.ref 632, .ref 105] M8) (fun M12 => zC0 (zEv d zmC_giveUntilOneIsLeft [.ref 64] M12) (fun M14 => zC0 (zEv d zmC_remember [.ref 64] M14) (fun M16 => zC0 (zEv d zmB_copyFrom [.ref 86, .ref 105] M16) (fun M18 => zC1 (zEv d zmJL_bitCount [.long (M18.2 86 5)] M18) (fun v21 M20 => some (some (.int v21), M20))))))))))) = some r) : zEv (d + 1) zmC_make [.ref 64, .int x1] M = some r := by
  rw [zEv_succ]
  show zEx0 (zEv d) zmC_make (0, [(0, .ref 64), (1, .int x1)], [], M) = some r
  refine y_pure (pc' := 1) (st' := [.ref 64]) rfl rfl ?_
  refine y_getf (pc' := 4) (v := .ref 86) rfl rfl rfl zc_64 rfl rfl ?_
  obtain ⟨v3, M2, he1, h⟩ := zC1_inv h
  refine y_callV (pc' := 7) (y := zmB_isTold) (a' := []) (st' := []) rfl rfl rfl rfl rfl (zrecv_o (o := 0) zc_86 rfl) rfl he1 rfl rfl ?_
  rcases zif_inv h with ⟨hc4, h⟩ | ⟨hc4, h⟩
  · refine y_cnd (pc' := 10) rfl rfl (zc_neF hc4) rfl ?_
    refine y_pure (pc' := 11) (st' := [.int (-1 : Int32)]) rfl rfl ?_
    exact y_ret rfl rfl rfl rfl h
  · refine y_cnd (pc' := 12) rfl rfl (zc_neT hc4) rfl ?_
    refine y_pure (pc' := 13) (st' := [.ref 64]) rfl rfl ?_
    refine y_getf (pc' := 16) (v := .ref 105) rfl rfl rfl zc_64 rfl rfl ?_
    refine y_pure (pc' := 17) (st' := [.ref 64, .ref 105]) rfl rfl ?_
    refine y_getf (pc' := 20) (v := .ref 86) rfl rfl rfl zc_64 rfl rfl ?_
    obtain ⟨M6, he5, h⟩ := zC0_inv h
    refine y_callV (pc' := 23) (y := zmB_copyFrom) (a' := [.ref 86]) (st' := []) rfl rfl rfl rfl rfl (zrecv_o (o := 0) zc_105 rfl) rfl he5 rfl rfl ?_
    refine y_pure (pc' := 24) (st' := [.ref 64]) rfl rfl ?_
    refine y_getf (pc' := 27) (v := .ref 632) rfl rfl rfl zc_64 rfl rfl ?_
    refine y_pure (pc' := 28) (st' := [.ref 64, .ref 632]) rfl rfl ?_
    refine y_getf (pc' := 31) (v := .ref 105) rfl rfl rfl zc_64 rfl rfl ?_
    refine y_pure (pc' := 32) (st' := [.int x1, .ref 105, .ref 632]) rfl rfl ?_
    obtain ⟨v9, M8, he7, h⟩ := zC1_inv h
    refine y_callV (pc' := 35) (y := zmK_drawDigits) (a' := [.ref 105, .int x1]) (st' := []) rfl rfl rfl rfl rfl (zrecv_o (o := 2) zc_632 rfl) rfl he7 rfl rfl ?_
    rcases zif_inv h with ⟨hc10, h⟩ | ⟨hc10, h⟩
    · refine y_cnd (pc' := 38) rfl rfl (zc_neF hc10) rfl ?_
      refine y_pure (pc' := 40) (st' := [.int (-2 : Int32)]) rfl rfl ?_
      exact y_ret rfl rfl rfl rfl h
    · refine y_cnd (pc' := 41) rfl rfl (zc_neT hc10) rfl ?_
      refine y_pure (pc' := 42) (st' := [.ref 64]) rfl rfl ?_
      refine y_getf (pc' := 45) (v := .ref 632) rfl rfl rfl zc_64 rfl rfl ?_
      refine y_pure (pc' := 46) (st' := [.ref 64, .ref 632]) rfl rfl ?_
      refine y_getf (pc' := 49) (v := .ref 105) rfl rfl rfl zc_64 rfl rfl ?_
      obtain ⟨M12, he11, h⟩ := zC0_inv h
      refine y_callV (pc' := 52) (y := zmK_tellTotals) (a' := [.ref 105]) (st' := []) rfl rfl rfl rfl rfl (zrecv_o (o := 2) zc_632 rfl) rfl he11 rfl rfl ?_
      refine y_pure (pc' := 53) (st' := [.ref 64]) rfl rfl ?_
      obtain ⟨M14, he13, h⟩ := zC0_inv h
      refine y_callV (pc' := 56) (y := zmC_giveUntilOneIsLeft) (a' := []) (st' := []) rfl rfl rfl rfl rfl (zrecv_o (o := 9) zc_64 rfl) rfl he13 rfl rfl ?_
      refine y_pure (pc' := 57) (st' := [.ref 64]) rfl rfl ?_
      obtain ⟨M16, he15, h⟩ := zC0_inv h
      refine y_callV (pc' := 60) (y := zmC_remember) (a' := []) (st' := []) rfl rfl rfl rfl rfl (zrecv_o (o := 9) zc_64 rfl) rfl he15 rfl rfl ?_
      refine y_pure (pc' := 61) (st' := [.ref 64]) rfl rfl ?_
      refine y_getf (pc' := 64) (v := .ref 86) rfl rfl rfl zc_64 rfl rfl ?_
      refine y_pure (pc' := 65) (st' := [.ref 64, .ref 86]) rfl rfl ?_
      refine y_getf (pc' := 68) (v := .ref 105) rfl rfl rfl zc_64 rfl rfl ?_
      obtain ⟨M18, he17, h⟩ := zC0_inv h
      refine y_callV (pc' := 71) (y := zmB_copyFrom) (a' := [.ref 105]) (st' := []) rfl rfl rfl rfl rfl (zrecv_o (o := 0) zc_86 rfl) rfl he17 rfl rfl ?_
      refine y_pure (pc' := 72) (st' := [.ref 64]) rfl rfl ?_
      refine y_getf (pc' := 75) (v := .ref 86) rfl rfl rfl zc_64 rfl rfl ?_
      refine y_getf (pc' := 78) (v := .long (M18.2 86 5)) rfl rfl rfl zc_86 rfl rfl ?_
      obtain ⟨v21, M20, he19, h⟩ := zC1_inv h
      refine y_callS (pc' := 81) (y := zmJL_bitCount) (a := [.long (M18.2 86 5)]) (st' := []) rfl rfl rfl rfl rfl rfl he19 rfl rfl ?_
      exact y_ret rfl rfl rfl rfl h
noncomputable def h_C_giveUntilOneIsLeft_2 (d : Nat) (x1 : Int32) (M : ZM) : Option ZR := zEx0 (zEv d) zmC_giveUntilOneIsLeft (2, [(0, .ref 64), (1, .int x1)], [], M)
theorem e_C_giveUntilOneIsLeft_2 {d : Nat} {x1 : Int32} {M : ZM} {r : ZR}  (h : (if x1 < (nI 16) then zC1 (zEv d zmS_look [.ref 411, .ref 105, .ref 106, .int (nI 2)] M) (fun v4 M3 => (if v4 < (nI 2) then some (none, M3) else zC1 (zEv d zmS_firstUnlike [.ref 411] M3) (fun v8 M7 => (if v8 = (-1 : Int32) then some (none, M7) else zC1 (zEv d zmS_cellAt [.ref 411, .int v8] M7) (fun v12 M11 => zC1 (zEv d zmK_digitAt [.ref 632, .int v8] M11) (fun v15 M14 => zC0 (zEv d zmB_giveDigit [.ref 105, .int v12, .int v15] M14) (fun M17 => h_C_giveUntilOneIsLeft_2 d (x1 + (nI 1)) M17))))))) else some (none, M)) = some r) : h_C_giveUntilOneIsLeft_2 d x1 M = some r := by
  show zEx0 (zEv d) zmC_giveUntilOneIsLeft (2, [(0, .ref 64), (1, .int x1)], [], M) = some r
  refine y_pure (pc' := 3) (st' := [.int x1]) rfl rfl ?_
  refine y_pure (pc' := 5) (st' := [.int (nI 16), .int x1]) rfl rfl ?_
  rcases zif_inv h with ⟨hc1, h⟩ | ⟨hc1, h⟩
  · refine y_cmp (pc' := 8) rfl rfl (zc_geF hc1) rfl ?_
    refine y_pure (pc' := 9) (st' := [.ref 64]) rfl rfl ?_
    refine y_getf (pc' := 12) (v := .ref 411) rfl rfl rfl zc_64 rfl rfl ?_
    refine y_pure (pc' := 13) (st' := [.ref 64, .ref 411]) rfl rfl ?_
    refine y_getf (pc' := 16) (v := .ref 105) rfl rfl rfl zc_64 rfl rfl ?_
    refine y_pure (pc' := 17) (st' := [.ref 64, .ref 105, .ref 411]) rfl rfl ?_
    refine y_getf (pc' := 20) (v := .ref 105) rfl rfl rfl zc_64 rfl rfl ?_
    refine y_getf (pc' := 23) (v := .ref 106) rfl rfl rfl zc_105 rfl rfl ?_
    refine y_pure (pc' := 24) (st' := [.int (nI 2), .ref 106, .ref 105, .ref 411]) rfl rfl ?_
    obtain ⟨v4, M3, he2, h⟩ := zC1_inv h
    refine y_callV (pc' := 27) (y := zmS_look) (a' := [.ref 105, .ref 106, .int (nI 2)]) (st' := []) rfl rfl rfl rfl rfl (zrecv_o (o := 5) zc_411 rfl) rfl he2 rfl rfl ?_
    refine y_pure (pc' := 28) (st' := [.int (nI 2), .int v4]) rfl rfl ?_
    rcases zif_inv h with ⟨hc5, h⟩ | ⟨hc5, h⟩
    · refine y_cmp (pc' := 31) rfl rfl (zc_geF hc5) rfl ?_
      exact y_ret rfl rfl rfl rfl h
    · refine y_cmp (pc' := 32) rfl rfl (zc_geT hc5) rfl ?_
      refine y_pure (pc' := 33) (st' := [.ref 64]) rfl rfl ?_
      refine y_getf (pc' := 36) (v := .ref 411) rfl rfl rfl zc_64 rfl rfl ?_
      obtain ⟨v8, M7, he6, h⟩ := zC1_inv h
      refine y_callV (pc' := 39) (y := zmS_firstUnlike) (a' := []) (st' := []) rfl rfl rfl rfl rfl (zrecv_o (o := 5) zc_411 rfl) rfl he6 rfl rfl ?_
      refine y_pure (pc' := 40) (ls' := [(0, .ref 64), (1, .int x1), (2, .int v8)]) (st' := []) rfl rfl ?_
      refine y_pure (pc' := 41) (st' := [.int v8]) rfl rfl ?_
      refine y_pure (pc' := 42) (st' := [.int (-1 : Int32), .int v8]) rfl rfl ?_
      rcases zif_inv h with ⟨hc9, h⟩ | ⟨hc9, h⟩
      · refine y_cmp (pc' := 45) rfl rfl (zc_neF hc9) rfl ?_
        exact y_ret rfl rfl rfl rfl h
      · refine y_cmp (pc' := 46) rfl rfl (zc_neT hc9) rfl ?_
        refine y_pure (pc' := 47) (st' := [.ref 64]) rfl rfl ?_
        refine y_getf (pc' := 50) (v := .ref 105) rfl rfl rfl zc_64 rfl rfl ?_
        refine y_pure (pc' := 51) (st' := [.ref 64, .ref 105]) rfl rfl ?_
        refine y_getf (pc' := 54) (v := .ref 411) rfl rfl rfl zc_64 rfl rfl ?_
        refine y_pure (pc' := 55) (st' := [.int v8, .ref 411, .ref 105]) rfl rfl ?_
        obtain ⟨v12, M11, he10, h⟩ := zC1_inv h
        refine y_callV (pc' := 58) (y := zmS_cellAt) (a' := [.int v8]) (st' := [.ref 105]) rfl rfl rfl rfl rfl (zrecv_o (o := 5) zc_411 rfl) rfl he10 rfl rfl ?_
        refine y_pure (pc' := 59) (st' := [.ref 64, .int v12, .ref 105]) rfl rfl ?_
        refine y_getf (pc' := 62) (v := .ref 632) rfl rfl rfl zc_64 rfl rfl ?_
        refine y_pure (pc' := 63) (st' := [.int v8, .ref 632, .int v12, .ref 105]) rfl rfl ?_
        obtain ⟨v15, M14, he13, h⟩ := zC1_inv h
        refine y_callV (pc' := 66) (y := zmK_digitAt) (a' := [.int v8]) (st' := [.int v12, .ref 105]) rfl rfl rfl rfl rfl (zrecv_o (o := 2) zc_632 rfl) rfl he13 rfl rfl ?_
        obtain ⟨M17, he16, h⟩ := zC0_inv h
        refine y_callV (pc' := 69) (y := zmB_giveDigit) (a' := [.int v12, .int v15]) (st' := []) rfl rfl rfl rfl rfl (zrecv_o (o := 0) zc_105 rfl) rfl he16 rfl rfl ?_
        refine y_pure (pc' := 72) (ls' := [(0, .ref 64), (1, .int (x1 + (nI 1))), (2, .int v8)]) (st' := []) rfl rfl ?_
        refine y_pure (pc' := 2) rfl rfl ?_
        refine zEx_sub ?_ h
        exact ⟨rfl, rfl, trivial⟩
  · refine y_cmp (pc' := 75) rfl rfl (zc_geT hc1) rfl ?_
    exact y_ret rfl rfl rfl rfl h
theorem e_C_giveUntilOneIsLeft {d : Nat}  {M : ZM} {r : ZR}  (h : h_C_giveUntilOneIsLeft_2 d (nI 0) M = some r) : zEv (d + 1) zmC_giveUntilOneIsLeft [.ref 64] M = some r := by
  rw [zEv_succ]
  show zEx0 (zEv d) zmC_giveUntilOneIsLeft (0, [(0, .ref 64)], [], M) = some r
  refine y_pure (pc' := 1) (st' := [.int (nI 0)]) rfl rfl ?_
  refine y_pure (pc' := 2) (ls' := [(0, .ref 64), (1, .int (nI 0))]) (st' := []) rfl rfl ?_
  refine zEx_sub ?_ h
  exact ⟨rfl, rfl, trivial⟩
theorem e_C_remember {d : Nat}  {M : ZM} {r : ZR}  (h : (if (M.1 64 4) < (nI 0) then some (none, M) else (if (M.1 64 4) < (nI 10) then (if zin (M.1 64 4) 10 = true then zC0 (zEv d zmB_copyFrom [.ref (638 + 19 * (Int32.toNatClampNeg (M.1 64 4))), .ref 86] M) (fun M5 => zC1 (zEv d zmJM_min [.int (((zpi M5 64 4 (((M5.1 64 4) + (nI 1)) - ((M5.1 64 4) + (nI 1)) / (nI 10) * (nI 10))).1 64 5) + (nI 1)), .int (nI 10)] (zpi M5 64 4 (((M5.1 64 4) + (nI 1)) - ((M5.1 64 4) + (nI 1)) / (nI 10) * (nI 10)))) (fun v8 M7 => some (none, (zpi M7 64 5 v8)))) else none) else some (none, M))) = some r) : zEv (d + 1) zmC_remember [.ref 64] M = some r := by
  rw [zEv_succ]
  show zEx0 (zEv d) zmC_remember (0, [(0, .ref 64)], [], M) = some r
  refine y_pure (pc' := 1) (st' := [.ref 64]) rfl rfl ?_
  refine y_getf (pc' := 4) (v := .int (M.1 64 4)) rfl rfl rfl zc_64 rfl rfl ?_
  rcases zif_inv h with ⟨hc1, h⟩ | ⟨hc1, h⟩
  · refine y_cnd (pc' := 60) rfl rfl (zc_ltT hc1) rfl ?_
    exact y_ret rfl rfl rfl rfl h
  · refine y_cnd (pc' := 7) rfl rfl (zc_ltF hc1) rfl ?_
    refine y_pure (pc' := 8) (st' := [.ref 64]) rfl rfl ?_
    refine y_getf (pc' := 11) (v := .int (M.1 64 4)) rfl rfl rfl zc_64 rfl rfl ?_
    refine y_pure (pc' := 13) (st' := [.int (nI 10), .int (M.1 64 4)]) rfl rfl ?_
    rcases zif_inv h with ⟨hc2, h⟩ | ⟨hc2, h⟩
    · refine y_cmp (pc' := 16) rfl rfl (zc_geF hc2) rfl ?_
      refine y_pure (pc' := 17) (st' := [.ref 64]) rfl rfl ?_
      refine y_getf (pc' := 20) (v := .ref 124) rfl rfl rfl zc_64 rfl rfl ?_
      refine y_pure (pc' := 21) (st' := [.ref 64, .ref 124]) rfl rfl ?_
      refine y_getf (pc' := 24) (v := .int (M.1 64 4)) rfl rfl rfl zc_64 rfl rfl ?_
      obtain ⟨hi3, h⟩ := zg_inv h
      refine y_aald (pc' := 25) (q' := 638 + 19 * (Int32.toNatClampNeg (M.1 64 4))) rfl zc_124 hi3 (by show 124 + 514 + 19 * (Int32.toNatClampNeg (M.1 64 4)) = _; omega) rfl ?_
      refine y_pure (pc' := 26) (st' := [.ref 64, .ref (638 + 19 * (Int32.toNatClampNeg (M.1 64 4)))]) rfl rfl ?_
      refine y_getf (pc' := 29) (v := .ref 86) rfl rfl rfl zc_64 rfl rfl ?_
      obtain ⟨M5, he4, h⟩ := zC0_inv h
      refine y_callV (pc' := 32) (y := zmB_copyFrom) (a' := [.ref 86]) (st' := []) rfl rfl rfl rfl rfl (zrecv_o (o := 0) (zl_1 zc_124 hi3) rfl) rfl he4 rfl rfl ?_
      refine y_pure (pc' := 33) (st' := [.ref 64]) rfl rfl ?_
      refine y_pure (pc' := 34) (st' := [.ref 64, .ref 64]) rfl rfl ?_
      refine y_getf (pc' := 37) (v := .int (M5.1 64 4)) rfl rfl rfl zc_64 rfl rfl ?_
      refine y_pure (pc' := 38) (st' := [.int (nI 1), .int (M5.1 64 4), .ref 64]) rfl rfl ?_
      refine y_pure (pc' := 39) (st' := [.int ((M5.1 64 4) + (nI 1)), .ref 64]) rfl rfl ?_
      refine y_pure (pc' := 41) (st' := [.int (nI 10), .int ((M5.1 64 4) + (nI 1)), .ref 64]) rfl rfl ?_
      refine y_irem (pc' := 42) (st := [.ref 64]) rfl (by decide) rfl ?_
      refine y_putI (pc' := 45) rfl rfl zc_64 rfl ?_
      refine y_pure (pc' := 46) (st' := [.ref 64]) rfl rfl ?_
      refine y_pure (pc' := 47) (st' := [.ref 64, .ref 64]) rfl rfl ?_
      refine y_getf (pc' := 50) (v := .int ((zpi M5 64 4 (((M5.1 64 4) + (nI 1)) - ((M5.1 64 4) + (nI 1)) / (nI 10) * (nI 10))).1 64 5)) rfl rfl rfl zc_64 rfl rfl ?_
      refine y_pure (pc' := 51) (st' := [.int (nI 1), .int ((zpi M5 64 4 (((M5.1 64 4) + (nI 1)) - ((M5.1 64 4) + (nI 1)) / (nI 10) * (nI 10))).1 64 5), .ref 64]) rfl rfl ?_
      refine y_pure (pc' := 52) (st' := [.int (((zpi M5 64 4 (((M5.1 64 4) + (nI 1)) - ((M5.1 64 4) + (nI 1)) / (nI 10) * (nI 10))).1 64 5) + (nI 1)), .ref 64]) rfl rfl ?_
      refine y_pure (pc' := 54) (st' := [.int (nI 10), .int (((zpi M5 64 4 (((M5.1 64 4) + (nI 1)) - ((M5.1 64 4) + (nI 1)) / (nI 10) * (nI 10))).1 64 5) + (nI 1)), .ref 64]) rfl rfl ?_
      obtain ⟨v8, M7, he6, h⟩ := zC1_inv h
      refine y_callS (pc' := 57) (y := zmJM_min) (a := [.int (((zpi M5 64 4 (((M5.1 64 4) + (nI 1)) - ((M5.1 64 4) + (nI 1)) / (nI 10) * (nI 10))).1 64 5) + (nI 1)), .int (nI 10)]) (st' := [.ref 64]) rfl rfl rfl rfl rfl rfl he6 rfl rfl ?_
      refine y_putI (pc' := 60) rfl rfl zc_64 rfl ?_
      exact y_ret rfl rfl rfl rfl h
    · refine y_cmp (pc' := 60) rfl rfl (zc_geT hc2) rfl ?_
      exact y_ret rfl rfl rfl rfl h
theorem e_C_undo {d : Nat}  {M : ZM} {r : ZR}  (h : (if (nI 0) < (M.1 64 5) then zC1 (zEv d zmJM_floorMod [.int ((M.1 64 4) - (nI 1)), .int (nI 10)] M) (fun v4 M3 => (if zin ((zpi M3 64 4 v4).1 64 4) 10 = true then zC0 (zEv d zmB_copyFrom [.ref 86, .ref (638 + 19 * (Int32.toNatClampNeg ((zpi M3 64 4 v4).1 64 4)))] (zpi M3 64 4 v4)) (fun M7 => some (some (.int ((zpi M7 64 5 ((M7.1 64 5) - (nI 1))).1 64 5)), (zpi M7 64 5 ((M7.1 64 5) - (nI 1))))) else none)) else some (some (.int (-1 : Int32)), M)) = some r) : zEv (d + 1) zmC_undo [.ref 64] M = some r := by
  rw [zEv_succ]
  show zEx0 (zEv d) zmC_undo (0, [(0, .ref 64)], [], M) = some r
  refine y_pure (pc' := 1) (st' := [.ref 64]) rfl rfl ?_
  refine y_getf (pc' := 4) (v := .int (M.1 64 5)) rfl rfl rfl zc_64 rfl rfl ?_
  rcases zif_inv h with ⟨hc1, h⟩ | ⟨hc1, h⟩
  · refine y_cnd (pc' := 9) rfl rfl (zc_gtT hc1) rfl ?_
    refine y_pure (pc' := 10) (st' := [.ref 64]) rfl rfl ?_
    refine y_pure (pc' := 11) (st' := [.ref 64, .ref 64]) rfl rfl ?_
    refine y_getf (pc' := 14) (v := .int (M.1 64 4)) rfl rfl rfl zc_64 rfl rfl ?_
    refine y_pure (pc' := 15) (st' := [.int (nI 1), .int (M.1 64 4), .ref 64]) rfl rfl ?_
    refine y_pure (pc' := 16) (st' := [.int ((M.1 64 4) - (nI 1)), .ref 64]) rfl rfl ?_
    refine y_pure (pc' := 18) (st' := [.int (nI 10), .int ((M.1 64 4) - (nI 1)), .ref 64]) rfl rfl ?_
    obtain ⟨v4, M3, he2, h⟩ := zC1_inv h
    refine y_callS (pc' := 21) (y := zmJM_floorMod) (a := [.int ((M.1 64 4) - (nI 1)), .int (nI 10)]) (st' := [.ref 64]) rfl rfl rfl rfl rfl rfl he2 rfl rfl ?_
    refine y_putI (pc' := 24) rfl rfl zc_64 rfl ?_
    refine y_pure (pc' := 25) (st' := [.ref 64]) rfl rfl ?_
    refine y_getf (pc' := 28) (v := .ref 86) rfl rfl rfl zc_64 rfl rfl ?_
    refine y_pure (pc' := 29) (st' := [.ref 64, .ref 86]) rfl rfl ?_
    refine y_getf (pc' := 32) (v := .ref 124) rfl rfl rfl zc_64 rfl rfl ?_
    refine y_pure (pc' := 33) (st' := [.ref 64, .ref 124, .ref 86]) rfl rfl ?_
    refine y_getf (pc' := 36) (v := .int ((zpi M3 64 4 v4).1 64 4)) rfl rfl rfl zc_64 rfl rfl ?_
    obtain ⟨hi5, h⟩ := zg_inv h
    refine y_aald (pc' := 37) (q' := 638 + 19 * (Int32.toNatClampNeg ((zpi M3 64 4 v4).1 64 4))) rfl zc_124 hi5 (by show 124 + 514 + 19 * (Int32.toNatClampNeg ((zpi M3 64 4 v4).1 64 4)) = _; omega) rfl ?_
    obtain ⟨M7, he6, h⟩ := zC0_inv h
    refine y_callV (pc' := 40) (y := zmB_copyFrom) (a' := [.ref (638 + 19 * (Int32.toNatClampNeg ((zpi M3 64 4 v4).1 64 4)))]) (st' := []) rfl rfl rfl rfl rfl (zrecv_o (o := 0) zc_86 rfl) rfl he6 rfl rfl ?_
    refine y_pure (pc' := 41) (st' := [.ref 64]) rfl rfl ?_
    refine y_pure (pc' := 42) (st' := [.ref 64, .ref 64]) rfl rfl ?_
    refine y_getf (pc' := 45) (v := .int (M7.1 64 5)) rfl rfl rfl zc_64 rfl rfl ?_
    refine y_pure (pc' := 46) (st' := [.int (nI 1), .int (M7.1 64 5), .ref 64]) rfl rfl ?_
    refine y_pure (pc' := 47) (st' := [.int ((M7.1 64 5) - (nI 1)), .ref 64]) rfl rfl ?_
    refine y_putI (pc' := 50) rfl rfl zc_64 rfl ?_
    refine y_pure (pc' := 51) (st' := [.ref 64]) rfl rfl ?_
    refine y_getf (pc' := 54) (v := .int ((zpi M7 64 5 ((M7.1 64 5) - (nI 1))).1 64 5)) rfl rfl rfl zc_64 rfl rfl ?_
    exact y_ret rfl rfl rfl rfl h
  · refine y_cnd (pc' := 7) rfl rfl (zc_gtF hc1) rfl ?_
    refine y_pure (pc' := 8) (st' := [.int (-1 : Int32)]) rfl rfl ?_
    exact y_ret rfl rfl rfl rfl h
theorem e_C_keep {d : Nat} {x1 : Int32} {M : ZM} {r : ZR}  (h : (if x1 < (nI 0) then some (some (.int (-1 : Int32)), M) else (if x1 < (nI 2) then (if zin x1 2 = true then zC0 (zEv d zmB_copyFrom [.ref (828 + 19 * (Int32.toNatClampNeg x1)), .ref 86] M) (fun M5 => some (some (.int ((zpi M5 64 7 ((M5.1 64 7) ||| ((nI 1) <<< (x1 &&& 31)))).1 86 3)), (zpi M5 64 7 ((M5.1 64 7) ||| ((nI 1) <<< (x1 &&& 31)))))) else none) else some (some (.int (-1 : Int32)), M))) = some r) : zEv (d + 1) zmC_keep [.ref 64, .int x1] M = some r := by
  rw [zEv_succ]
  show zEx0 (zEv d) zmC_keep (0, [(0, .ref 64), (1, .int x1)], [], M) = some r
  refine y_pure (pc' := 1) (st' := [.int x1]) rfl rfl ?_
  rcases zif_inv h with ⟨hc1, h⟩ | ⟨hc1, h⟩
  · refine y_cnd (pc' := 9) rfl rfl (zc_ltT hc1) rfl ?_
    refine y_pure (pc' := 10) (st' := [.int (-1 : Int32)]) rfl rfl ?_
    exact y_ret rfl rfl rfl rfl h
  · refine y_cnd (pc' := 4) rfl rfl (zc_ltF hc1) rfl ?_
    refine y_pure (pc' := 5) (st' := [.int x1]) rfl rfl ?_
    refine y_pure (pc' := 6) (st' := [.int (nI 2), .int x1]) rfl rfl ?_
    rcases zif_inv h with ⟨hc2, h⟩ | ⟨hc2, h⟩
    · refine y_cmp (pc' := 11) rfl rfl (zc_ltT hc2) rfl ?_
      refine y_pure (pc' := 12) (st' := [.ref 64]) rfl rfl ?_
      refine y_getf (pc' := 15) (v := .ref 125) rfl rfl rfl zc_64 rfl rfl ?_
      refine y_pure (pc' := 16) (st' := [.int x1, .ref 125]) rfl rfl ?_
      obtain ⟨hi3, h⟩ := zg_inv h
      refine y_aald (pc' := 17) (q' := 828 + 19 * (Int32.toNatClampNeg x1)) rfl zc_125 hi3 (by show 125 + 703 + 19 * (Int32.toNatClampNeg x1) = _; omega) rfl ?_
      refine y_pure (pc' := 18) (st' := [.ref 64, .ref (828 + 19 * (Int32.toNatClampNeg x1))]) rfl rfl ?_
      refine y_getf (pc' := 21) (v := .ref 86) rfl rfl rfl zc_64 rfl rfl ?_
      obtain ⟨M5, he4, h⟩ := zC0_inv h
      refine y_callV (pc' := 24) (y := zmB_copyFrom) (a' := [.ref 86]) (st' := []) rfl rfl rfl rfl rfl (zrecv_o (o := 0) (zl_2 zc_125 hi3) rfl) rfl he4 rfl rfl ?_
      refine y_pure (pc' := 25) (st' := [.ref 64]) rfl rfl ?_
      refine y_pure (pc' := 26) (st' := [.ref 64, .ref 64]) rfl rfl ?_
      refine y_getf (pc' := 29) (v := .int (M5.1 64 7)) rfl rfl rfl zc_64 rfl rfl ?_
      refine y_pure (pc' := 30) (st' := [.int (nI 1), .int (M5.1 64 7), .ref 64]) rfl rfl ?_
      refine y_pure (pc' := 31) (st' := [.int x1, .int (nI 1), .int (M5.1 64 7), .ref 64]) rfl rfl ?_
      refine y_pure (pc' := 32) (st' := [.int ((nI 1) <<< (x1 &&& 31)), .int (M5.1 64 7), .ref 64]) rfl rfl ?_
      refine y_pure (pc' := 33) (st' := [.int ((M5.1 64 7) ||| ((nI 1) <<< (x1 &&& 31))), .ref 64]) rfl rfl ?_
      refine y_putI (pc' := 36) rfl rfl zc_64 rfl ?_
      refine y_pure (pc' := 37) (st' := [.ref 64]) rfl rfl ?_
      refine y_getf (pc' := 40) (v := .ref 86) rfl rfl rfl zc_64 rfl rfl ?_
      refine y_getf (pc' := 43) (v := .int ((zpi M5 64 7 ((M5.1 64 7) ||| ((nI 1) <<< (x1 &&& 31)))).1 86 3)) rfl rfl rfl zc_86 rfl rfl ?_
      exact y_ret rfl rfl rfl rfl h
    · refine y_cmp (pc' := 9) rfl rfl (zc_ltF hc2) rfl ?_
      refine y_pure (pc' := 10) (st' := [.int (-1 : Int32)]) rfl rfl ?_
      exact y_ret rfl rfl rfl rfl h
theorem e_C_back {d : Nat} {x1 : Int32} {M : ZM} {r : ZR}  (h : (if x1 < (nI 0) then some (some (.int (-1 : Int32)), M) else (if x1 < (nI 2) then (if (((M.1 64 7) >>> (x1 &&& 31)) &&& (nI 1)) = (nI 0) then some (some (.int (-2 : Int32)), M) else (if zin x1 2 = true then zC0 (zEv d zmB_copyFrom [.ref 86, .ref (828 + 19 * (Int32.toNatClampNeg x1))] M) (fun M6 => some (some (.int ((zpi M6 64 5 (nI 0)).1 86 3)), (zpi M6 64 5 (nI 0)))) else none)) else some (some (.int (-1 : Int32)), M))) = some r) : zEv (d + 1) zmC_back [.ref 64, .int x1] M = some r := by
  rw [zEv_succ]
  show zEx0 (zEv d) zmC_back (0, [(0, .ref 64), (1, .int x1)], [], M) = some r
  refine y_pure (pc' := 1) (st' := [.int x1]) rfl rfl ?_
  rcases zif_inv h with ⟨hc1, h⟩ | ⟨hc1, h⟩
  · refine y_cnd (pc' := 9) rfl rfl (zc_ltT hc1) rfl ?_
    refine y_pure (pc' := 10) (st' := [.int (-1 : Int32)]) rfl rfl ?_
    exact y_ret rfl rfl rfl rfl h
  · refine y_cnd (pc' := 4) rfl rfl (zc_ltF hc1) rfl ?_
    refine y_pure (pc' := 5) (st' := [.int x1]) rfl rfl ?_
    refine y_pure (pc' := 6) (st' := [.int (nI 2), .int x1]) rfl rfl ?_
    rcases zif_inv h with ⟨hc2, h⟩ | ⟨hc2, h⟩
    · refine y_cmp (pc' := 11) rfl rfl (zc_ltT hc2) rfl ?_
      refine y_pure (pc' := 12) (st' := [.ref 64]) rfl rfl ?_
      refine y_getf (pc' := 15) (v := .int (M.1 64 7)) rfl rfl rfl zc_64 rfl rfl ?_
      refine y_pure (pc' := 16) (st' := [.int x1, .int (M.1 64 7)]) rfl rfl ?_
      refine y_pure (pc' := 17) (st' := [.int ((M.1 64 7) >>> (x1 &&& 31))]) rfl rfl ?_
      refine y_pure (pc' := 18) (st' := [.int (nI 1), .int ((M.1 64 7) >>> (x1 &&& 31))]) rfl rfl ?_
      refine y_pure (pc' := 19) (st' := [.int (((M.1 64 7) >>> (x1 &&& 31)) &&& (nI 1))]) rfl rfl ?_
      rcases zif_inv h with ⟨hc3, h⟩ | ⟨hc3, h⟩
      · refine y_cnd (pc' := 22) rfl rfl (zc_neF hc3) rfl ?_
        refine y_pure (pc' := 24) (st' := [.int (-2 : Int32)]) rfl rfl ?_
        exact y_ret rfl rfl rfl rfl h
      · refine y_cnd (pc' := 25) rfl rfl (zc_neT hc3) rfl ?_
        refine y_pure (pc' := 26) (st' := [.ref 64]) rfl rfl ?_
        refine y_getf (pc' := 29) (v := .ref 86) rfl rfl rfl zc_64 rfl rfl ?_
        refine y_pure (pc' := 30) (st' := [.ref 64, .ref 86]) rfl rfl ?_
        refine y_getf (pc' := 33) (v := .ref 125) rfl rfl rfl zc_64 rfl rfl ?_
        refine y_pure (pc' := 34) (st' := [.int x1, .ref 125, .ref 86]) rfl rfl ?_
        obtain ⟨hi4, h⟩ := zg_inv h
        refine y_aald (pc' := 35) (q' := 828 + 19 * (Int32.toNatClampNeg x1)) rfl zc_125 hi4 (by show 125 + 703 + 19 * (Int32.toNatClampNeg x1) = _; omega) rfl ?_
        obtain ⟨M6, he5, h⟩ := zC0_inv h
        refine y_callV (pc' := 38) (y := zmB_copyFrom) (a' := [.ref (828 + 19 * (Int32.toNatClampNeg x1))]) (st' := []) rfl rfl rfl rfl rfl (zrecv_o (o := 0) zc_86 rfl) rfl he5 rfl rfl ?_
        refine y_pure (pc' := 39) (st' := [.ref 64]) rfl rfl ?_
        refine y_pure (pc' := 40) (st' := [.int (nI 0), .ref 64]) rfl rfl ?_
        refine y_putI (pc' := 43) rfl rfl zc_64 rfl ?_
        refine y_pure (pc' := 44) (st' := [.ref 64]) rfl rfl ?_
        refine y_getf (pc' := 47) (v := .ref 86) rfl rfl rfl zc_64 rfl rfl ?_
        refine y_getf (pc' := 50) (v := .int ((zpi M6 64 5 (nI 0)).1 86 3)) rfl rfl rfl zc_86 rfl rfl ?_
        exact y_ret rfl rfl rfl rfl h
    · refine y_cmp (pc' := 9) rfl rfl (zc_ltF hc2) rfl ?_
      refine y_pure (pc' := 10) (st' := [.int (-1 : Int32)]) rfl rfl ?_
      exact y_ret rfl rfl rfl rfl h
theorem e_C_cell {d : Nat} {x1 : Int32} {x2 : Int32} {M : ZM} {r : ZR}  (h : zC1 (zEv d zmB_isCell [.ref 86, .int x1] M) (fun v3 M2 => (if v3 = (nI 0) then some (some (.int (-1 : Int32)), M2) else (if x2 = (nI 0) then zC1 (zEv d zmB_isOpen [.ref 86, .int x1] M2) (fun v12 M11 => (if v12 = (nI 0) then some (some (.int (nI 0)), M11) else some (some (.int (nI 1)), M11))) else (if x2 = (nI 1) then zC1 (zEv d zmB_isDone [.ref 86, .int x1] M2) (fun v16 M15 => (if v16 = (nI 0) then some (some (.int (nI 0)), M15) else zC1 (zEv d zmB_digitOf [.ref 86, .int x1] M15) (fun v20 M19 => some (some (.int v20), M19)))) else (if x2 = (nI 2) then zC1 (zEv d zmB_isGiven [.ref 86, .int x1] M2) (fun v23 M22 => (if v23 = (nI 0) then some (some (.int (nI 0)), M22) else some (some (.int (nI 1)), M22))) else (if x2 = (nI 3) then (if zin x1 36 = true then some (some (.int (M2.1 87 (Int32.toNatClampNeg x1))), M2) else none) else (if x2 = (nI 4) then zC1 (zEv d zmB_cagesOf [.ref 86, .int x1] M2) (fun v28 M27 => some (some (.int v28), M27)) else some (some (.int (-1 : Int32)), M2)))))))) = some r) : zEv (d + 1) zmC_cell [.ref 64, .int x1, .int x2] M = some r := by
  rw [zEv_succ]
  show zEx0 (zEv d) zmC_cell (0, [(0, .ref 64), (1, .int x1), (2, .int x2)], [], M) = some r
  refine y_pure (pc' := 1) (st' := [.ref 64]) rfl rfl ?_
  refine y_getf (pc' := 4) (v := .ref 86) rfl rfl rfl zc_64 rfl rfl ?_
  refine y_pure (pc' := 5) (st' := [.int x1, .ref 86]) rfl rfl ?_
  obtain ⟨v3, M2, he1, h⟩ := zC1_inv h
  refine y_callV (pc' := 8) (y := zmB_isCell) (a' := [.int x1]) (st' := []) rfl rfl rfl rfl rfl (zrecv_o (o := 0) zc_86 rfl) rfl he1 rfl rfl ?_
  rcases zif_inv h with ⟨hc4, h⟩ | ⟨hc4, h⟩
  · refine y_cnd (pc' := 11) rfl rfl (zc_neF hc4) rfl ?_
    refine y_pure (pc' := 12) (st' := [.int (-1 : Int32)]) rfl rfl ?_
    exact y_ret rfl rfl rfl rfl h
  · refine y_cnd (pc' := 13) rfl rfl (zc_neT hc4) rfl ?_
    refine y_pure (pc' := 14) (st' := [.int x2]) rfl rfl ?_
    rcases zif_inv h with ⟨hc5, h⟩ | ⟨hc5, h⟩
    · refine y_sw (k := 0) (t := 48) rfl (by rw [hc5]; decide) (by decide) rfl rfl ?_
      refine y_pure (pc' := 49) (st' := [.ref 64]) rfl rfl ?_
      refine y_getf (pc' := 52) (v := .ref 86) rfl rfl rfl zc_64 rfl rfl ?_
      refine y_pure (pc' := 53) (st' := [.int x1, .ref 86]) rfl rfl ?_
      obtain ⟨v12, M11, he10, h⟩ := zC1_inv h
      refine y_callV (pc' := 56) (y := zmB_isOpen) (a' := [.int x1]) (st' := []) rfl rfl rfl rfl rfl (zrecv_o (o := 0) zc_86 rfl) rfl he10 rfl rfl ?_
      rcases zif_inv h with ⟨hc13, h⟩ | ⟨hc13, h⟩
      · refine y_cnd (pc' := 63) rfl rfl (zc_eqT hc13) rfl ?_
        refine y_pure (pc' := 64) (st' := [.int (nI 0)]) rfl rfl ?_
        exact y_ret rfl rfl rfl rfl h
      · refine y_cnd (pc' := 59) rfl rfl (zc_eqF hc13) rfl ?_
        refine y_pure (pc' := 60) (st' := [.int (nI 1)]) rfl rfl ?_
        refine y_pure (pc' := 64) rfl rfl ?_
        exact y_ret rfl rfl rfl rfl h
    · rcases zif_inv h with ⟨hc6, h⟩ | ⟨hc6, h⟩
      · refine y_sw (k := 1) (t := 65) rfl (by rw [hc6]; decide) (by decide) rfl rfl ?_
        refine y_pure (pc' := 66) (st' := [.ref 64]) rfl rfl ?_
        refine y_getf (pc' := 69) (v := .ref 86) rfl rfl rfl zc_64 rfl rfl ?_
        refine y_pure (pc' := 70) (st' := [.int x1, .ref 86]) rfl rfl ?_
        obtain ⟨v16, M15, he14, h⟩ := zC1_inv h
        refine y_callV (pc' := 73) (y := zmB_isDone) (a' := [.int x1]) (st' := []) rfl rfl rfl rfl rfl (zrecv_o (o := 0) zc_86 rfl) rfl he14 rfl rfl ?_
        rcases zif_inv h with ⟨hc17, h⟩ | ⟨hc17, h⟩
        · refine y_cnd (pc' := 87) rfl rfl (zc_eqT hc17) rfl ?_
          refine y_pure (pc' := 88) (st' := [.int (nI 0)]) rfl rfl ?_
          exact y_ret rfl rfl rfl rfl h
        · refine y_cnd (pc' := 76) rfl rfl (zc_eqF hc17) rfl ?_
          refine y_pure (pc' := 77) (st' := [.ref 64]) rfl rfl ?_
          refine y_getf (pc' := 80) (v := .ref 86) rfl rfl rfl zc_64 rfl rfl ?_
          refine y_pure (pc' := 81) (st' := [.int x1, .ref 86]) rfl rfl ?_
          obtain ⟨v20, M19, he18, h⟩ := zC1_inv h
          refine y_callV (pc' := 84) (y := zmB_digitOf) (a' := [.int x1]) (st' := []) rfl rfl rfl rfl rfl (zrecv_o (o := 0) zc_86 rfl) rfl he18 rfl rfl ?_
          refine y_pure (pc' := 88) rfl rfl ?_
          exact y_ret rfl rfl rfl rfl h
      · rcases zif_inv h with ⟨hc7, h⟩ | ⟨hc7, h⟩
        · refine y_sw (k := 2) (t := 89) rfl (by rw [hc7]; decide) (by decide) rfl rfl ?_
          refine y_pure (pc' := 90) (st' := [.ref 64]) rfl rfl ?_
          refine y_getf (pc' := 93) (v := .ref 86) rfl rfl rfl zc_64 rfl rfl ?_
          refine y_pure (pc' := 94) (st' := [.int x1, .ref 86]) rfl rfl ?_
          obtain ⟨v23, M22, he21, h⟩ := zC1_inv h
          refine y_callV (pc' := 97) (y := zmB_isGiven) (a' := [.int x1]) (st' := []) rfl rfl rfl rfl rfl (zrecv_o (o := 0) zc_86 rfl) rfl he21 rfl rfl ?_
          rcases zif_inv h with ⟨hc24, h⟩ | ⟨hc24, h⟩
          · refine y_cnd (pc' := 104) rfl rfl (zc_eqT hc24) rfl ?_
            refine y_pure (pc' := 105) (st' := [.int (nI 0)]) rfl rfl ?_
            exact y_ret rfl rfl rfl rfl h
          · refine y_cnd (pc' := 100) rfl rfl (zc_eqF hc24) rfl ?_
            refine y_pure (pc' := 101) (st' := [.int (nI 1)]) rfl rfl ?_
            refine y_pure (pc' := 105) rfl rfl ?_
            exact y_ret rfl rfl rfl rfl h
        · rcases zif_inv h with ⟨hc8, h⟩ | ⟨hc8, h⟩
          · refine y_sw (k := 3) (t := 106) rfl (by rw [hc8]; decide) (by decide) rfl rfl ?_
            refine y_pure (pc' := 107) (st' := [.ref 64]) rfl rfl ?_
            refine y_getf (pc' := 110) (v := .ref 86) rfl rfl rfl zc_64 rfl rfl ?_
            refine y_getf (pc' := 113) (v := .ref 87) rfl rfl rfl zc_86 rfl rfl ?_
            refine y_pure (pc' := 114) (st' := [.int x1, .ref 87]) rfl rfl ?_
            obtain ⟨hi25, h⟩ := zg_inv h
            refine y_iald (pc' := 115) rfl zc_87 hi25 rfl ?_
            exact y_ret rfl rfl rfl rfl h
          · rcases zif_inv h with ⟨hc9, h⟩ | ⟨hc9, h⟩
            · refine y_sw (k := 4) (t := 116) rfl (by rw [hc9]; decide) (by decide) rfl rfl ?_
              refine y_pure (pc' := 117) (st' := [.ref 64]) rfl rfl ?_
              refine y_getf (pc' := 120) (v := .ref 86) rfl rfl rfl zc_64 rfl rfl ?_
              refine y_pure (pc' := 121) (st' := [.int x1, .ref 86]) rfl rfl ?_
              obtain ⟨v28, M27, he26, h⟩ := zC1_inv h
              refine y_callV (pc' := 124) (y := zmB_cagesOf) (a' := [.int x1]) (st' := []) rfl rfl rfl rfl rfl (zrecv_o (o := 0) zc_86 rfl) rfl he26 rfl rfl ?_
              exact y_ret rfl rfl rfl rfl h
            · refine y_swD (t := 125) rfl (by have q0 := zsw_ne (k := 0) (by decide) hc5; have q1 := zsw_ne (k := 1) (by decide) hc6; have q2 := zsw_ne (k := 2) (by decide) hc7; have q3 := zsw_ne (k := 3) (by decide) hc8; have q4 := zsw_ne (k := 4) (by decide) hc9; omega) rfl ?_
              refine y_pure (pc' := 126) (st' := [.int (-1 : Int32)]) rfl rfl ?_
              exact y_ret rfl rfl rfl rfl h
theorem e_C_cage {d : Nat} {x1 : Int32} {x2 : Int32} {M : ZM} {r : ZR}  (h : zC1 (zEv d zmB_isCage [.ref 86, .int x1] M) (fun v3 M2 => (if v3 = (nI 0) then some (some (.int (-1 : Int32)), M2) else (if x2 = (nI 0) then (if zin x1 12 = true then some (some (.int (M2.1 88 (Int32.toNatClampNeg x1))), M2) else none) else (if x2 = (nI 1) then (if zin x1 12 = true then some (some (.int (M2.1 89 (Int32.toNatClampNeg x1))), M2) else none) else (if x2 = (nI 2) then (if zin x1 12 = true then some (some (.int (M2.1 90 (Int32.toNatClampNeg x1))), M2) else none) else (if x2 = (nI 3) then zC1 (zEv d zmB_isAlike [.ref 86, .int x1] M2) (fun v16 M15 => (if v16 = (nI 0) then some (some (.int (nI 1)), M15) else some (some (.int (nI 0)), M15))) else (if x2 = (nI 4) then zC1 (zEv d zmB_doneIn [.ref 86, .int x1] M2) (fun v20 M19 => some (some (.int v20), M19)) else (if x2 = (nI 5) then zC0 (zEv d zmC_tallyNow [.ref 64, .int x1] M2) (fun M22 => zC1 (zEv d zmY_many [.ref 259] M22) (fun v25 M24 => some (some (.int v25), M24))) else (if x2 < (nI 10) then some (some (.int (-1 : Int32)), M2) else (if zin x1 12 = true then (if (x2 - (nI 10)) < (M2.1 90 (Int32.toNatClampNeg x1)) then (if zin (x2 - (nI 10)) 6 = true then some (some (.int (M2.1 (93 + (Int32.toNatClampNeg x1)) (Int32.toNatClampNeg (x2 - (nI 10))))), M2) else none) else some (some (.int (-1 : Int32)), M2)) else none)))))))))) = some r) : zEv (d + 1) zmC_cage [.ref 64, .int x1, .int x2] M = some r := by
  rw [zEv_succ]
  show zEx0 (zEv d) zmC_cage (0, [(0, .ref 64), (1, .int x1), (2, .int x2)], [], M) = some r
  refine y_pure (pc' := 1) (st' := [.ref 64]) rfl rfl ?_
  refine y_getf (pc' := 4) (v := .ref 86) rfl rfl rfl zc_64 rfl rfl ?_
  refine y_pure (pc' := 5) (st' := [.int x1, .ref 86]) rfl rfl ?_
  obtain ⟨v3, M2, he1, h⟩ := zC1_inv h
  refine y_callV (pc' := 8) (y := zmB_isCage) (a' := [.int x1]) (st' := []) rfl rfl rfl rfl rfl (zrecv_o (o := 0) zc_86 rfl) rfl he1 rfl rfl ?_
  rcases zif_inv h with ⟨hc4, h⟩ | ⟨hc4, h⟩
  · refine y_cnd (pc' := 11) rfl rfl (zc_neF hc4) rfl ?_
    refine y_pure (pc' := 12) (st' := [.int (-1 : Int32)]) rfl rfl ?_
    exact y_ret rfl rfl rfl rfl h
  · refine y_cnd (pc' := 13) rfl rfl (zc_neT hc4) rfl ?_
    refine y_pure (pc' := 14) (st' := [.int x2]) rfl rfl ?_
    rcases zif_inv h with ⟨hc5, h⟩ | ⟨hc5, h⟩
    · refine y_sw (k := 0) (t := 52) rfl (by rw [hc5]; decide) (by decide) rfl rfl ?_
      refine y_pure (pc' := 53) (st' := [.ref 64]) rfl rfl ?_
      refine y_getf (pc' := 56) (v := .ref 86) rfl rfl rfl zc_64 rfl rfl ?_
      refine y_getf (pc' := 59) (v := .ref 88) rfl rfl rfl zc_86 rfl rfl ?_
      refine y_pure (pc' := 60) (st' := [.int x1, .ref 88]) rfl rfl ?_
      obtain ⟨hi11, h⟩ := zg_inv h
      refine y_iald (pc' := 61) rfl zc_88 hi11 rfl ?_
      exact y_ret rfl rfl rfl rfl h
    · rcases zif_inv h with ⟨hc6, h⟩ | ⟨hc6, h⟩
      · refine y_sw (k := 1) (t := 62) rfl (by rw [hc6]; decide) (by decide) rfl rfl ?_
        refine y_pure (pc' := 63) (st' := [.ref 64]) rfl rfl ?_
        refine y_getf (pc' := 66) (v := .ref 86) rfl rfl rfl zc_64 rfl rfl ?_
        refine y_getf (pc' := 69) (v := .ref 89) rfl rfl rfl zc_86 rfl rfl ?_
        refine y_pure (pc' := 70) (st' := [.int x1, .ref 89]) rfl rfl ?_
        obtain ⟨hi12, h⟩ := zg_inv h
        refine y_iald (pc' := 71) rfl zc_89 hi12 rfl ?_
        exact y_ret rfl rfl rfl rfl h
      · rcases zif_inv h with ⟨hc7, h⟩ | ⟨hc7, h⟩
        · refine y_sw (k := 2) (t := 72) rfl (by rw [hc7]; decide) (by decide) rfl rfl ?_
          refine y_pure (pc' := 73) (st' := [.ref 64]) rfl rfl ?_
          refine y_getf (pc' := 76) (v := .ref 86) rfl rfl rfl zc_64 rfl rfl ?_
          refine y_getf (pc' := 79) (v := .ref 90) rfl rfl rfl zc_86 rfl rfl ?_
          refine y_pure (pc' := 80) (st' := [.int x1, .ref 90]) rfl rfl ?_
          obtain ⟨hi13, h⟩ := zg_inv h
          refine y_iald (pc' := 81) rfl zc_90 hi13 rfl ?_
          exact y_ret rfl rfl rfl rfl h
        · rcases zif_inv h with ⟨hc8, h⟩ | ⟨hc8, h⟩
          · refine y_sw (k := 3) (t := 82) rfl (by rw [hc8]; decide) (by decide) rfl rfl ?_
            refine y_pure (pc' := 83) (st' := [.ref 64]) rfl rfl ?_
            refine y_getf (pc' := 86) (v := .ref 86) rfl rfl rfl zc_64 rfl rfl ?_
            refine y_pure (pc' := 87) (st' := [.int x1, .ref 86]) rfl rfl ?_
            obtain ⟨v16, M15, he14, h⟩ := zC1_inv h
            refine y_callV (pc' := 90) (y := zmB_isAlike) (a' := [.int x1]) (st' := []) rfl rfl rfl rfl rfl (zrecv_o (o := 0) zc_86 rfl) rfl he14 rfl rfl ?_
            rcases zif_inv h with ⟨hc17, h⟩ | ⟨hc17, h⟩
            · refine y_cnd (pc' := 97) rfl rfl (zc_eqT hc17) rfl ?_
              refine y_pure (pc' := 98) (st' := [.int (nI 1)]) rfl rfl ?_
              exact y_ret rfl rfl rfl rfl h
            · refine y_cnd (pc' := 93) rfl rfl (zc_eqF hc17) rfl ?_
              refine y_pure (pc' := 94) (st' := [.int (nI 0)]) rfl rfl ?_
              refine y_pure (pc' := 98) rfl rfl ?_
              exact y_ret rfl rfl rfl rfl h
          · rcases zif_inv h with ⟨hc9, h⟩ | ⟨hc9, h⟩
            · refine y_sw (k := 4) (t := 99) rfl (by rw [hc9]; decide) (by decide) rfl rfl ?_
              refine y_pure (pc' := 100) (st' := [.ref 64]) rfl rfl ?_
              refine y_getf (pc' := 103) (v := .ref 86) rfl rfl rfl zc_64 rfl rfl ?_
              refine y_pure (pc' := 104) (st' := [.int x1, .ref 86]) rfl rfl ?_
              obtain ⟨v20, M19, he18, h⟩ := zC1_inv h
              refine y_callV (pc' := 107) (y := zmB_doneIn) (a' := [.int x1]) (st' := []) rfl rfl rfl rfl rfl (zrecv_o (o := 0) zc_86 rfl) rfl he18 rfl rfl ?_
              exact y_ret rfl rfl rfl rfl h
            · rcases zif_inv h with ⟨hc10, h⟩ | ⟨hc10, h⟩
              · refine y_sw (k := 5) (t := 108) rfl (by rw [hc10]; decide) (by decide) rfl rfl ?_
                refine y_pure (pc' := 109) (st' := [.ref 64]) rfl rfl ?_
                refine y_pure (pc' := 110) (st' := [.int x1, .ref 64]) rfl rfl ?_
                obtain ⟨M22, he21, h⟩ := zC0_inv h
                refine y_callV (pc' := 113) (y := zmC_tallyNow) (a' := [.int x1]) (st' := []) rfl rfl rfl rfl rfl (zrecv_o (o := 9) zc_64 rfl) rfl he21 rfl rfl ?_
                refine y_pure (pc' := 114) (st' := [.ref 64]) rfl rfl ?_
                refine y_getf (pc' := 117) (v := .ref 259) rfl rfl rfl zc_64 rfl rfl ?_
                obtain ⟨v25, M24, he23, h⟩ := zC1_inv h
                refine y_callV (pc' := 120) (y := zmY_many) (a' := []) (st' := []) rfl rfl rfl rfl rfl (zrecv_o (o := 7) zc_259 rfl) rfl he23 rfl rfl ?_
                exact y_ret rfl rfl rfl rfl h
              · refine y_swD (t := 121) rfl (by have q0 := zsw_ne (k := 0) (by decide) hc5; have q1 := zsw_ne (k := 1) (by decide) hc6; have q2 := zsw_ne (k := 2) (by decide) hc7; have q3 := zsw_ne (k := 3) (by decide) hc8; have q4 := zsw_ne (k := 4) (by decide) hc9; have q5 := zsw_ne (k := 5) (by decide) hc10; omega) rfl ?_
                refine y_pure (pc' := 122) (st' := [.int x2]) rfl rfl ?_
                refine y_pure (pc' := 124) (st' := [.int (nI 10), .int x2]) rfl rfl ?_
                rcases zif_inv h with ⟨hc26, h⟩ | ⟨hc26, h⟩
                · refine y_cmp (pc' := 143) rfl rfl (zc_ltT hc26) rfl ?_
                  refine y_pure (pc' := 144) (st' := [.int (-1 : Int32)]) rfl rfl ?_
                  refine y_pure (pc' := 161) rfl rfl ?_
                  exact y_ret rfl rfl rfl rfl h
                · refine y_cmp (pc' := 127) rfl rfl (zc_ltF hc26) rfl ?_
                  refine y_pure (pc' := 128) (st' := [.int x2]) rfl rfl ?_
                  refine y_pure (pc' := 130) (st' := [.int (nI 10), .int x2]) rfl rfl ?_
                  refine y_pure (pc' := 131) (st' := [.int (x2 - (nI 10))]) rfl rfl ?_
                  refine y_pure (pc' := 132) (st' := [.ref 64, .int (x2 - (nI 10))]) rfl rfl ?_
                  refine y_getf (pc' := 135) (v := .ref 86) rfl rfl rfl zc_64 rfl rfl ?_
                  refine y_getf (pc' := 138) (v := .ref 90) rfl rfl rfl zc_86 rfl rfl ?_
                  refine y_pure (pc' := 139) (st' := [.int x1, .ref 90, .int (x2 - (nI 10))]) rfl rfl ?_
                  obtain ⟨hi27, h⟩ := zg_inv h
                  refine y_iald (pc' := 140) rfl zc_90 hi27 rfl ?_
                  rcases zif_inv h with ⟨hc28, h⟩ | ⟨hc28, h⟩
                  · refine y_cmp (pc' := 147) rfl rfl (zc_ltT hc28) rfl ?_
                    refine y_pure (pc' := 148) (st' := [.ref 64]) rfl rfl ?_
                    refine y_getf (pc' := 151) (v := .ref 86) rfl rfl rfl zc_64 rfl rfl ?_
                    refine y_getf (pc' := 154) (v := .ref 92) rfl rfl rfl zc_86 rfl rfl ?_
                    refine y_pure (pc' := 155) (st' := [.int x1, .ref 92]) rfl rfl ?_
                    refine y_aald (pc' := 156) (q' := 93 + (Int32.toNatClampNeg x1)) rfl zc_92 hi27 (congrArg (HAdd.hAdd (93)) (Nat.one_mul _)) rfl ?_
                    refine y_pure (pc' := 157) (st' := [.int x2, .ref (93 + (Int32.toNatClampNeg x1))]) rfl rfl ?_
                    refine y_pure (pc' := 159) (st' := [.int (nI 10), .int x2, .ref (93 + (Int32.toNatClampNeg x1))]) rfl rfl ?_
                    refine y_pure (pc' := 160) (st' := [.int (x2 - (nI 10)), .ref (93 + (Int32.toNatClampNeg x1))]) rfl rfl ?_
                    obtain ⟨hi29, h⟩ := zg_inv h
                    refine y_iald (pc' := 161) rfl (zl_0 zc_92 hi27) hi29 rfl ?_
                    exact y_ret rfl rfl rfl rfl h
                  · refine y_cmp (pc' := 143) rfl rfl (zc_ltF hc28) rfl ?_
                    refine y_pure (pc' := 144) (st' := [.int (-1 : Int32)]) rfl rfl ?_
                    refine y_pure (pc' := 161) rfl rfl ?_
                    exact y_ret rfl rfl rfl rfl h
theorem e_C_has {d : Nat} {x1 : Int32} {x2 : Int32} {M : ZM} {r : ZR}  (h : zC1 (zEv d zmB_isCage [.ref 86, .int x1] M) (fun v3 M2 => (if v3 = (nI 0) then some (some (.int (-1 : Int32)), M2) else zC1 (zEv d zmB_isDigit [.ref 86, .int x2] M2) (fun v7 M6 => (if v7 = (nI 0) then some (some (.int (-1 : Int32)), M6) else zC0 (zEv d zmC_tallyNow [.ref 64, .int x1] M6) (fun M10 => zC1 (zEv d zmY_manyWith [.ref 259, .int x2] M10) (fun v13 M12 => some (some (.int v13), M12))))))) = some r) : zEv (d + 1) zmC_has [.ref 64, .int x1, .int x2] M = some r := by
  rw [zEv_succ]
  show zEx0 (zEv d) zmC_has (0, [(0, .ref 64), (1, .int x1), (2, .int x2)], [], M) = some r
  refine y_pure (pc' := 1) (st' := [.ref 64]) rfl rfl ?_
  refine y_getf (pc' := 4) (v := .ref 86) rfl rfl rfl zc_64 rfl rfl ?_
  refine y_pure (pc' := 5) (st' := [.int x1, .ref 86]) rfl rfl ?_
  obtain ⟨v3, M2, he1, h⟩ := zC1_inv h
  refine y_callV (pc' := 8) (y := zmB_isCage) (a' := [.int x1]) (st' := []) rfl rfl rfl rfl rfl (zrecv_o (o := 0) zc_86 rfl) rfl he1 rfl rfl ?_
  rcases zif_inv h with ⟨hc4, h⟩ | ⟨hc4, h⟩
  · refine y_cnd (pc' := 22) rfl rfl (zc_eqT hc4) rfl ?_
    refine y_pure (pc' := 23) (st' := [.int (-1 : Int32)]) rfl rfl ?_
    exact y_ret rfl rfl rfl rfl h
  · refine y_cnd (pc' := 11) rfl rfl (zc_eqF hc4) rfl ?_
    refine y_pure (pc' := 12) (st' := [.ref 64]) rfl rfl ?_
    refine y_getf (pc' := 15) (v := .ref 86) rfl rfl rfl zc_64 rfl rfl ?_
    refine y_pure (pc' := 16) (st' := [.int x2, .ref 86]) rfl rfl ?_
    obtain ⟨v7, M6, he5, h⟩ := zC1_inv h
    refine y_callV (pc' := 19) (y := zmB_isDigit) (a' := [.int x2]) (st' := []) rfl rfl rfl rfl rfl (zrecv_o (o := 0) zc_86 rfl) rfl he5 rfl rfl ?_
    rcases zif_inv h with ⟨hc8, h⟩ | ⟨hc8, h⟩
    · refine y_cnd (pc' := 22) rfl rfl (zc_neF hc8) rfl ?_
      refine y_pure (pc' := 23) (st' := [.int (-1 : Int32)]) rfl rfl ?_
      exact y_ret rfl rfl rfl rfl h
    · refine y_cnd (pc' := 24) rfl rfl (zc_neT hc8) rfl ?_
      refine y_pure (pc' := 25) (st' := [.ref 64]) rfl rfl ?_
      refine y_pure (pc' := 26) (st' := [.int x1, .ref 64]) rfl rfl ?_
      obtain ⟨M10, he9, h⟩ := zC0_inv h
      refine y_callV (pc' := 29) (y := zmC_tallyNow) (a' := [.int x1]) (st' := []) rfl rfl rfl rfl rfl (zrecv_o (o := 9) zc_64 rfl) rfl he9 rfl rfl ?_
      refine y_pure (pc' := 30) (st' := [.ref 64]) rfl rfl ?_
      refine y_getf (pc' := 33) (v := .ref 259) rfl rfl rfl zc_64 rfl rfl ?_
      refine y_pure (pc' := 34) (st' := [.int x2, .ref 259]) rfl rfl ?_
      obtain ⟨v13, M12, he11, h⟩ := zC1_inv h
      refine y_callV (pc' := 37) (y := zmY_manyWith) (a' := [.int x2]) (st' := []) rfl rfl rfl rfl rfl (zrecv_o (o := 7) zc_259 rfl) rfl he11 rfl rfl ?_
      exact y_ret rfl rfl rfl rfl h
theorem e_C_could {d : Nat} {x1 : Int32} {x2 : Int32} {M : ZM} {r : ZR}  (h : zC1 (zEv d zmB_isCage [.ref 86, .int x1] M) (fun v3 M2 => (if v3 = (nI 0) then some (some (.int (-1 : Int32)), M2) else zC1 (zEv d zmB_placeIn [.ref 86, .int x1, .int x2] M2) (fun v7 M6 => (if v7 = (-1 : Int32) then some (some (.int (-1 : Int32)), M6) else zC3 (zEv d zmRS_ready [.ref 127, .ref 86, .int x1] M6) (fun v11 M10 => (if zkd v11 = (13, 0) then (if zin x1 12 = true then zC1 (zEv d zmR_weigh [.ref v11, .ref 87, .ref (93 + (Int32.toNatClampNeg x1))] M10) (fun v16 M15 => (if zin x2 36 = true then zC1 (zEv d zmR_digitsAt [.ref v11, .int v7, .int (M15.1 87 (Int32.toNatClampNeg x2))] M15) (fun v20 M19 => some (some (.int v20), M19)) else none)) else none) else none)))))) = some r) : zEv (d + 1) zmC_could [.ref 64, .int x1, .int x2] M = some r := by
  rw [zEv_succ]
  show zEx0 (zEv d) zmC_could (0, [(0, .ref 64), (1, .int x1), (2, .int x2)], [], M) = some r
  refine y_pure (pc' := 1) (st' := [.ref 64]) rfl rfl ?_
  refine y_getf (pc' := 4) (v := .ref 86) rfl rfl rfl zc_64 rfl rfl ?_
  refine y_pure (pc' := 5) (st' := [.int x1, .ref 86]) rfl rfl ?_
  obtain ⟨v3, M2, he1, h⟩ := zC1_inv h
  refine y_callV (pc' := 8) (y := zmB_isCage) (a' := [.int x1]) (st' := []) rfl rfl rfl rfl rfl (zrecv_o (o := 0) zc_86 rfl) rfl he1 rfl rfl ?_
  rcases zif_inv h with ⟨hc4, h⟩ | ⟨hc4, h⟩
  · refine y_cnd (pc' := 11) rfl rfl (zc_neF hc4) rfl ?_
    refine y_pure (pc' := 12) (st' := [.int (-1 : Int32)]) rfl rfl ?_
    exact y_ret rfl rfl rfl rfl h
  · refine y_cnd (pc' := 13) rfl rfl (zc_neT hc4) rfl ?_
    refine y_pure (pc' := 14) (st' := [.ref 64]) rfl rfl ?_
    refine y_getf (pc' := 17) (v := .ref 86) rfl rfl rfl zc_64 rfl rfl ?_
    refine y_pure (pc' := 18) (st' := [.int x1, .ref 86]) rfl rfl ?_
    refine y_pure (pc' := 19) (st' := [.int x2, .int x1, .ref 86]) rfl rfl ?_
    obtain ⟨v7, M6, he5, h⟩ := zC1_inv h
    refine y_callV (pc' := 22) (y := zmB_placeIn) (a' := [.int x1, .int x2]) (st' := []) rfl rfl rfl rfl rfl (zrecv_o (o := 0) zc_86 rfl) rfl he5 rfl rfl ?_
    refine y_pure (pc' := 23) (ls' := [(0, .ref 64), (1, .int x1), (2, .int x2), (3, .int v7)]) (st' := []) rfl rfl ?_
    refine y_pure (pc' := 24) (st' := [.int v7]) rfl rfl ?_
    refine y_pure (pc' := 25) (st' := [.int (-1 : Int32), .int v7]) rfl rfl ?_
    rcases zif_inv h with ⟨hc8, h⟩ | ⟨hc8, h⟩
    · refine y_cmp (pc' := 28) rfl rfl (zc_neF hc8) rfl ?_
      refine y_pure (pc' := 29) (st' := [.int (-1 : Int32)]) rfl rfl ?_
      exact y_ret rfl rfl rfl rfl h
    · refine y_cmp (pc' := 30) rfl rfl (zc_neT hc8) rfl ?_
      refine y_pure (pc' := 31) (st' := [.ref 64]) rfl rfl ?_
      refine y_getf (pc' := 34) (v := .ref 127) rfl rfl rfl zc_64 rfl rfl ?_
      refine y_pure (pc' := 35) (st' := [.ref 64, .ref 127]) rfl rfl ?_
      refine y_getf (pc' := 38) (v := .ref 86) rfl rfl rfl zc_64 rfl rfl ?_
      refine y_pure (pc' := 39) (st' := [.int x1, .ref 86, .ref 127]) rfl rfl ?_
      obtain ⟨v11, M10, he9, h⟩ := zC3_inv h
      obtain ⟨hk12, h⟩ := zg_inv h
      refine y_callV (pc' := 42) (y := zmRS_ready) (a' := [.ref 86, .int x1]) (st' := []) rfl rfl rfl rfl rfl (zrecv_o (o := 4) zc_127 rfl) rfl he9 rfl rfl ?_
      refine y_pure (pc' := 44) (ls' := [(0, .ref 64), (1, .int x1), (2, .int x2), (3, .int v7), (4, .ref v11)]) (st' := []) rfl rfl ?_
      refine y_pure (pc' := 46) (st' := [.ref v11]) rfl rfl ?_
      refine y_pure (pc' := 47) (st' := [.ref 64, .ref v11]) rfl rfl ?_
      refine y_getf (pc' := 50) (v := .ref 86) rfl rfl rfl zc_64 rfl rfl ?_
      refine y_getf (pc' := 53) (v := .ref 87) rfl rfl rfl zc_86 rfl rfl ?_
      refine y_pure (pc' := 54) (st' := [.ref 64, .ref 87, .ref v11]) rfl rfl ?_
      refine y_getf (pc' := 57) (v := .ref 86) rfl rfl rfl zc_64 rfl rfl ?_
      refine y_getf (pc' := 60) (v := .ref 92) rfl rfl rfl zc_86 rfl rfl ?_
      refine y_pure (pc' := 61) (st' := [.int x1, .ref 92, .ref 87, .ref v11]) rfl rfl ?_
      obtain ⟨hi13, h⟩ := zg_inv h
      refine y_aald (pc' := 62) (q' := 93 + (Int32.toNatClampNeg x1)) rfl zc_92 hi13 (congrArg (HAdd.hAdd (93)) (Nat.one_mul _)) rfl ?_
      obtain ⟨v16, M15, he14, h⟩ := zC1_inv h
      refine y_callV (pc' := 65) (y := zmR_weigh) (a' := [.ref 87, .ref (93 + (Int32.toNatClampNeg x1))]) (st' := []) rfl rfl rfl rfl rfl (zrecv_o (o := 3) hk12 rfl) rfl he14 rfl rfl ?_
      refine y_pure (pc' := 66) (st' := []) rfl rfl ?_
      refine y_pure (pc' := 68) (st' := [.ref v11]) rfl rfl ?_
      refine y_pure (pc' := 69) (st' := [.int v7, .ref v11]) rfl rfl ?_
      refine y_pure (pc' := 70) (st' := [.ref 64, .int v7, .ref v11]) rfl rfl ?_
      refine y_getf (pc' := 73) (v := .ref 86) rfl rfl rfl zc_64 rfl rfl ?_
      refine y_getf (pc' := 76) (v := .ref 87) rfl rfl rfl zc_86 rfl rfl ?_
      refine y_pure (pc' := 77) (st' := [.int x2, .ref 87, .int v7, .ref v11]) rfl rfl ?_
      obtain ⟨hi17, h⟩ := zg_inv h
      refine y_iald (pc' := 78) rfl zc_87 hi17 rfl ?_
      obtain ⟨v20, M19, he18, h⟩ := zC1_inv h
      refine y_callV (pc' := 81) (y := zmR_digitsAt) (a' := [.int v7, .int (M15.1 87 (Int32.toNatClampNeg x2))]) (st' := []) rfl rfl rfl rfl rfl (zrecv_o (o := 3) hk12 rfl) rfl he18 rfl rfl ?_
      exact y_ret rfl rfl rfl rfl h
theorem e_C_must {d : Nat} {x1 : Int32} {M : ZM} {r : ZR}  (h : zC1 (zEv d zmB_isCage [.ref 86, .int x1] M) (fun v3 M2 => (if v3 = (nI 0) then some (some (.int (-1 : Int32)), M2) else zC0 (zEv d zmC_tallyNow [.ref 64, .int x1] M2) (fun M6 => zC1 (zEv d zmY_inAll [.ref 259] M6) (fun v9 M8 => some (some (.int v9), M8))))) = some r) : zEv (d + 1) zmC_must [.ref 64, .int x1] M = some r := by
  rw [zEv_succ]
  show zEx0 (zEv d) zmC_must (0, [(0, .ref 64), (1, .int x1)], [], M) = some r
  refine y_pure (pc' := 1) (st' := [.ref 64]) rfl rfl ?_
  refine y_getf (pc' := 4) (v := .ref 86) rfl rfl rfl zc_64 rfl rfl ?_
  refine y_pure (pc' := 5) (st' := [.int x1, .ref 86]) rfl rfl ?_
  obtain ⟨v3, M2, he1, h⟩ := zC1_inv h
  refine y_callV (pc' := 8) (y := zmB_isCage) (a' := [.int x1]) (st' := []) rfl rfl rfl rfl rfl (zrecv_o (o := 0) zc_86 rfl) rfl he1 rfl rfl ?_
  rcases zif_inv h with ⟨hc4, h⟩ | ⟨hc4, h⟩
  · refine y_cnd (pc' := 11) rfl rfl (zc_neF hc4) rfl ?_
    refine y_pure (pc' := 12) (st' := [.int (-1 : Int32)]) rfl rfl ?_
    exact y_ret rfl rfl rfl rfl h
  · refine y_cnd (pc' := 13) rfl rfl (zc_neT hc4) rfl ?_
    refine y_pure (pc' := 14) (st' := [.ref 64]) rfl rfl ?_
    refine y_pure (pc' := 15) (st' := [.int x1, .ref 64]) rfl rfl ?_
    obtain ⟨M6, he5, h⟩ := zC0_inv h
    refine y_callV (pc' := 18) (y := zmC_tallyNow) (a' := [.int x1]) (st' := []) rfl rfl rfl rfl rfl (zrecv_o (o := 9) zc_64 rfl) rfl he5 rfl rfl ?_
    refine y_pure (pc' := 19) (st' := [.ref 64]) rfl rfl ?_
    refine y_getf (pc' := 22) (v := .ref 259) rfl rfl rfl zc_64 rfl rfl ?_
    obtain ⟨v9, M8, he7, h⟩ := zC1_inv h
    refine y_callV (pc' := 25) (y := zmY_inAll) (a' := []) (st' := []) rfl rfl rfl rfl rfl (zrecv_o (o := 7) zc_259 rfl) rfl he7 rfl rfl ?_
    exact y_ret rfl rfl rfl rfl h
theorem e_C_sets {d : Nat} {x1 : Int32} {x2 : Int32} {M : ZM} {r : ZR}  (h : zC1 (zEv d zmB_isCage [.ref 86, .int x1] M) (fun v3 M2 => (if v3 = (nI 0) then some (some (.int (-1 : Int32)), M2) else (if x2 < (-1 : Int32) then some (some (.int (-1 : Int32)), M2) else zC0 (zEv d zmC_tallyNow [.ref 64, .int x1] M2) (fun M7 => (if x2 = (-1 : Int32) then zC1 (zEv d zmY_manySets [.ref 259] M7) (fun v11 M10 => some (some (.int v11), M10)) else zC1 (zEv d zmY_setAt [.ref 259, .int x2] M7) (fun v14 M13 => some (some (.int v14), M13))))))) = some r) : zEv (d + 1) zmC_sets [.ref 64, .int x1, .int x2] M = some r := by
  rw [zEv_succ]
  show zEx0 (zEv d) zmC_sets (0, [(0, .ref 64), (1, .int x1), (2, .int x2)], [], M) = some r
  refine y_pure (pc' := 1) (st' := [.ref 64]) rfl rfl ?_
  refine y_getf (pc' := 4) (v := .ref 86) rfl rfl rfl zc_64 rfl rfl ?_
  refine y_pure (pc' := 5) (st' := [.int x1, .ref 86]) rfl rfl ?_
  obtain ⟨v3, M2, he1, h⟩ := zC1_inv h
  refine y_callV (pc' := 8) (y := zmB_isCage) (a' := [.int x1]) (st' := []) rfl rfl rfl rfl rfl (zrecv_o (o := 0) zc_86 rfl) rfl he1 rfl rfl ?_
  rcases zif_inv h with ⟨hc4, h⟩ | ⟨hc4, h⟩
  · refine y_cnd (pc' := 16) rfl rfl (zc_eqT hc4) rfl ?_
    refine y_pure (pc' := 17) (st' := [.int (-1 : Int32)]) rfl rfl ?_
    exact y_ret rfl rfl rfl rfl h
  · refine y_cnd (pc' := 11) rfl rfl (zc_eqF hc4) rfl ?_
    refine y_pure (pc' := 12) (st' := [.int x2]) rfl rfl ?_
    refine y_pure (pc' := 13) (st' := [.int (-1 : Int32), .int x2]) rfl rfl ?_
    rcases zif_inv h with ⟨hc5, h⟩ | ⟨hc5, h⟩
    · refine y_cmp (pc' := 16) rfl rfl (zc_geF hc5) rfl ?_
      refine y_pure (pc' := 17) (st' := [.int (-1 : Int32)]) rfl rfl ?_
      exact y_ret rfl rfl rfl rfl h
    · refine y_cmp (pc' := 18) rfl rfl (zc_geT hc5) rfl ?_
      refine y_pure (pc' := 19) (st' := [.ref 64]) rfl rfl ?_
      refine y_pure (pc' := 20) (st' := [.int x1, .ref 64]) rfl rfl ?_
      obtain ⟨M7, he6, h⟩ := zC0_inv h
      refine y_callV (pc' := 23) (y := zmC_tallyNow) (a' := [.int x1]) (st' := []) rfl rfl rfl rfl rfl (zrecv_o (o := 9) zc_64 rfl) rfl he6 rfl rfl ?_
      refine y_pure (pc' := 24) (st' := [.int x2]) rfl rfl ?_
      refine y_pure (pc' := 25) (st' := [.int (-1 : Int32), .int x2]) rfl rfl ?_
      rcases zif_inv h with ⟨hc8, h⟩ | ⟨hc8, h⟩
      · refine y_cmp (pc' := 28) rfl rfl (zc_neF hc8) rfl ?_
        refine y_pure (pc' := 29) (st' := [.ref 64]) rfl rfl ?_
        refine y_getf (pc' := 32) (v := .ref 259) rfl rfl rfl zc_64 rfl rfl ?_
        obtain ⟨v11, M10, he9, h⟩ := zC1_inv h
        refine y_callV (pc' := 35) (y := zmY_manySets) (a' := []) (st' := []) rfl rfl rfl rfl rfl (zrecv_o (o := 7) zc_259 rfl) rfl he9 rfl rfl ?_
        refine y_pure (pc' := 46) rfl rfl ?_
        exact y_ret rfl rfl rfl rfl h
      · refine y_cmp (pc' := 38) rfl rfl (zc_neT hc8) rfl ?_
        refine y_pure (pc' := 39) (st' := [.ref 64]) rfl rfl ?_
        refine y_getf (pc' := 42) (v := .ref 259) rfl rfl rfl zc_64 rfl rfl ?_
        refine y_pure (pc' := 43) (st' := [.int x2, .ref 259]) rfl rfl ?_
        obtain ⟨v14, M13, he12, h⟩ := zC1_inv h
        refine y_callV (pc' := 46) (y := zmY_setAt) (a' := [.int x2]) (st' := []) rfl rfl rfl rfl rfl (zrecv_o (o := 7) zc_259 rfl) rfl he12 rfl rfl ?_
        exact y_ret rfl rfl rfl rfl h
theorem e_C_tallyNow {d : Nat} {x1 : Int32} {M : ZM} {r : ZR}  (h : zC3 (zEv d zmRS_ready [.ref 127, .ref 86, .int x1] M) (fun v3 M2 => (if zkd v3 = (13, 0) then (if zin x1 12 = true then zC0 (zEv d zmY_tally [.ref 259, .ref v3, .ref 87, .ref (93 + (Int32.toNatClampNeg x1))] M2) (fun M7 => some (none, M7)) else none) else none)) = some r) : zEv (d + 1) zmC_tallyNow [.ref 64, .int x1] M = some r := by
  rw [zEv_succ]
  show zEx0 (zEv d) zmC_tallyNow (0, [(0, .ref 64), (1, .int x1)], [], M) = some r
  refine y_pure (pc' := 1) (st' := [.ref 64]) rfl rfl ?_
  refine y_getf (pc' := 4) (v := .ref 259) rfl rfl rfl zc_64 rfl rfl ?_
  refine y_pure (pc' := 5) (st' := [.ref 64, .ref 259]) rfl rfl ?_
  refine y_getf (pc' := 8) (v := .ref 127) rfl rfl rfl zc_64 rfl rfl ?_
  refine y_pure (pc' := 9) (st' := [.ref 64, .ref 127, .ref 259]) rfl rfl ?_
  refine y_getf (pc' := 12) (v := .ref 86) rfl rfl rfl zc_64 rfl rfl ?_
  refine y_pure (pc' := 13) (st' := [.int x1, .ref 86, .ref 127, .ref 259]) rfl rfl ?_
  obtain ⟨v3, M2, he1, h⟩ := zC3_inv h
  obtain ⟨hk4, h⟩ := zg_inv h
  refine y_callV (pc' := 16) (y := zmRS_ready) (a' := [.ref 86, .int x1]) (st' := [.ref 259]) rfl rfl rfl rfl rfl (zrecv_o (o := 4) zc_127 rfl) rfl he1 rfl rfl ?_
  refine y_pure (pc' := 17) (st' := [.ref 64, .ref v3, .ref 259]) rfl rfl ?_
  refine y_getf (pc' := 20) (v := .ref 86) rfl rfl rfl zc_64 rfl rfl ?_
  refine y_getf (pc' := 23) (v := .ref 87) rfl rfl rfl zc_86 rfl rfl ?_
  refine y_pure (pc' := 24) (st' := [.ref 64, .ref 87, .ref v3, .ref 259]) rfl rfl ?_
  refine y_getf (pc' := 27) (v := .ref 86) rfl rfl rfl zc_64 rfl rfl ?_
  refine y_getf (pc' := 30) (v := .ref 92) rfl rfl rfl zc_86 rfl rfl ?_
  refine y_pure (pc' := 31) (st' := [.int x1, .ref 92, .ref 87, .ref v3, .ref 259]) rfl rfl ?_
  obtain ⟨hi5, h⟩ := zg_inv h
  refine y_aald (pc' := 32) (q' := 93 + (Int32.toNatClampNeg x1)) rfl zc_92 hi5 (congrArg (HAdd.hAdd (93)) (Nat.one_mul _)) rfl ?_
  obtain ⟨M7, he6, h⟩ := zC0_inv h
  refine y_callV (pc' := 35) (y := zmY_tally) (a' := [.ref v3, .ref 87, .ref (93 + (Int32.toNatClampNeg x1))]) (st' := []) rfl rfl rfl rfl rfl (zrecv_o (o := 7) zc_259 rfl) rfl he6 rfl rfl ?_
  exact y_ret rfl rfl rfl rfl h
theorem e_C_next {d : Nat} {x1 : Int32} {M : ZM} {r : ZR}  (h : zC1 (zEv d zmB_isTold [.ref 86] M) (fun v3 M2 => (if v3 = (nI 0) then some (some (.int (-1 : Int32)), M2) else (if x1 < (nI 0) then some (some (.int (-1 : Int32)), M2) else (if (nI 3) < x1 then some (some (.int (-1 : Int32)), M2) else zC0 (zEv d zmL_find [.ref 262, .ref 86] M2) (fun M8 => (if x1 = (nI 0) then some (some (.int (M8.1 262 5)), M8) else (if (M8.1 262 5) = (nI 0) then some (some (.int (-2 : Int32)), M8) else (if x1 = (nI 1) then some (some (.int (M8.1 262 6)), M8) else (if x1 = (nI 2) then some (some (.int (M8.1 262 7)), M8) else some (some (.int (M8.1 262 8)), M8)))))))))) = some r) : zEv (d + 1) zmC_next [.ref 64, .int x1] M = some r := by
  rw [zEv_succ]
  show zEx0 (zEv d) zmC_next (0, [(0, .ref 64), (1, .int x1)], [], M) = some r
  refine y_pure (pc' := 1) (st' := [.ref 64]) rfl rfl ?_
  refine y_getf (pc' := 4) (v := .ref 86) rfl rfl rfl zc_64 rfl rfl ?_
  obtain ⟨v3, M2, he1, h⟩ := zC1_inv h
  refine y_callV (pc' := 7) (y := zmB_isTold) (a' := []) (st' := []) rfl rfl rfl rfl rfl (zrecv_o (o := 0) zc_86 rfl) rfl he1 rfl rfl ?_
  rcases zif_inv h with ⟨hc4, h⟩ | ⟨hc4, h⟩
  · refine y_cnd (pc' := 19) rfl rfl (zc_eqT hc4) rfl ?_
    refine y_pure (pc' := 20) (st' := [.int (-1 : Int32)]) rfl rfl ?_
    exact y_ret rfl rfl rfl rfl h
  · refine y_cnd (pc' := 10) rfl rfl (zc_eqF hc4) rfl ?_
    refine y_pure (pc' := 11) (st' := [.int x1]) rfl rfl ?_
    rcases zif_inv h with ⟨hc5, h⟩ | ⟨hc5, h⟩
    · refine y_cnd (pc' := 19) rfl rfl (zc_ltT hc5) rfl ?_
      refine y_pure (pc' := 20) (st' := [.int (-1 : Int32)]) rfl rfl ?_
      exact y_ret rfl rfl rfl rfl h
    · refine y_cnd (pc' := 14) rfl rfl (zc_ltF hc5) rfl ?_
      refine y_pure (pc' := 15) (st' := [.int x1]) rfl rfl ?_
      refine y_pure (pc' := 16) (st' := [.int (nI 3), .int x1]) rfl rfl ?_
      rcases zif_inv h with ⟨hc6, h⟩ | ⟨hc6, h⟩
      · refine y_cmp (pc' := 19) rfl rfl (zc_leF hc6) rfl ?_
        refine y_pure (pc' := 20) (st' := [.int (-1 : Int32)]) rfl rfl ?_
        exact y_ret rfl rfl rfl rfl h
      · refine y_cmp (pc' := 21) rfl rfl (zc_leT hc6) rfl ?_
        refine y_pure (pc' := 22) (st' := [.ref 64]) rfl rfl ?_
        refine y_getf (pc' := 25) (v := .ref 262) rfl rfl rfl zc_64 rfl rfl ?_
        refine y_pure (pc' := 26) (st' := [.ref 64, .ref 262]) rfl rfl ?_
        refine y_getf (pc' := 29) (v := .ref 86) rfl rfl rfl zc_64 rfl rfl ?_
        obtain ⟨M8, he7, h⟩ := zC0_inv h
        refine y_callV (pc' := 32) (y := zmL_find) (a' := [.ref 86]) (st' := []) rfl rfl rfl rfl rfl (zrecv_o (o := 1) zc_262 rfl) rfl he7 rfl rfl ?_
        refine y_pure (pc' := 33) (st' := [.int x1]) rfl rfl ?_
        rcases zif_inv h with ⟨hc9, h⟩ | ⟨hc9, h⟩
        · refine y_cnd (pc' := 36) rfl rfl (zc_neF hc9) rfl ?_
          refine y_pure (pc' := 37) (st' := [.ref 64]) rfl rfl ?_
          refine y_getf (pc' := 40) (v := .ref 262) rfl rfl rfl zc_64 rfl rfl ?_
          refine y_getf (pc' := 43) (v := .int (M8.1 262 5)) rfl rfl rfl zc_262 rfl rfl ?_
          exact y_ret rfl rfl rfl rfl h
        · refine y_cnd (pc' := 44) rfl rfl (zc_neT hc9) rfl ?_
          refine y_pure (pc' := 45) (st' := [.ref 64]) rfl rfl ?_
          refine y_getf (pc' := 48) (v := .ref 262) rfl rfl rfl zc_64 rfl rfl ?_
          refine y_getf (pc' := 51) (v := .int (M8.1 262 5)) rfl rfl rfl zc_262 rfl rfl ?_
          rcases zif_inv h with ⟨hc10, h⟩ | ⟨hc10, h⟩
          · refine y_cnd (pc' := 54) rfl rfl (zc_neF hc10) rfl ?_
            refine y_pure (pc' := 56) (st' := [.int (-2 : Int32)]) rfl rfl ?_
            exact y_ret rfl rfl rfl rfl h
          · refine y_cnd (pc' := 57) rfl rfl (zc_neT hc10) rfl ?_
            refine y_pure (pc' := 58) (st' := [.int x1]) rfl rfl ?_
            refine y_pure (pc' := 59) (st' := [.int (nI 1), .int x1]) rfl rfl ?_
            rcases zif_inv h with ⟨hc11, h⟩ | ⟨hc11, h⟩
            · refine y_cmp (pc' := 62) rfl rfl (zc_neF hc11) rfl ?_
              refine y_pure (pc' := 63) (st' := [.ref 64]) rfl rfl ?_
              refine y_getf (pc' := 66) (v := .ref 262) rfl rfl rfl zc_64 rfl rfl ?_
              refine y_getf (pc' := 69) (v := .int (M8.1 262 6)) rfl rfl rfl zc_262 rfl rfl ?_
              refine y_pure (pc' := 94) rfl rfl ?_
              exact y_ret rfl rfl rfl rfl h
            · refine y_cmp (pc' := 72) rfl rfl (zc_neT hc11) rfl ?_
              refine y_pure (pc' := 73) (st' := [.int x1]) rfl rfl ?_
              refine y_pure (pc' := 74) (st' := [.int (nI 2), .int x1]) rfl rfl ?_
              rcases zif_inv h with ⟨hc12, h⟩ | ⟨hc12, h⟩
              · refine y_cmp (pc' := 77) rfl rfl (zc_neF hc12) rfl ?_
                refine y_pure (pc' := 78) (st' := [.ref 64]) rfl rfl ?_
                refine y_getf (pc' := 81) (v := .ref 262) rfl rfl rfl zc_64 rfl rfl ?_
                refine y_getf (pc' := 84) (v := .int (M8.1 262 7)) rfl rfl rfl zc_262 rfl rfl ?_
                refine y_pure (pc' := 94) rfl rfl ?_
                exact y_ret rfl rfl rfl rfl h
              · refine y_cmp (pc' := 87) rfl rfl (zc_neT hc12) rfl ?_
                refine y_pure (pc' := 88) (st' := [.ref 64]) rfl rfl ?_
                refine y_getf (pc' := 91) (v := .ref 262) rfl rfl rfl zc_64 rfl rfl ?_
                refine y_getf (pc' := 94) (v := .int (M8.1 262 8)) rfl rfl rfl zc_262 rfl rfl ?_
                exact y_ret rfl rfl rfl rfl h
noncomputable def h_C_weight_51 (d : Nat) (x1 : Int32) (x2 : Int32) (M : ZM) : Option ZR := zEx0 (zEv d) zmC_weight (51, [(0, .ref 64), (1, .int x1), (2, .int x2)], [], M)
theorem e_C_weight_51 {d : Nat} {x1 : Int32} {x2 : Int32} {M : ZM} {r : ZR}  (h : zC0 (zEv d zmB_copyFrom [.ref 105, .ref 86] M) (fun M2 => zC0 (zEv d zmL_find [.ref 262, .ref 105] M2) (fun M4 => zC0 (zEv d zmL_applyAll [.ref 262, .ref 105] M4) (fun M6 => (if x1 = (nI 0) then some (some (.int (M6.1 262 10)), M6) else (if x1 = (nI 1) then some (some (.int (M6.1 262 11)), M6) else (if x1 = (nI 2) then zC1 (zEv d zmJL_bitCount [.long (((M6.2 105 4) &&& ((M6.2 105 5) ^^^ (-1 : Int64))) &&& ((M6.2 105 6) ^^^ (-1 : Int64)))] M6) (fun v13 M12 => some (some (.int v13), M12)) else (if x1 = (nI 3) then zC1 (zEv d zmL_isBroken [.ref 262] M6) (fun v16 M15 => (if v16 = (nI 0) then some (some (.int (nI 0)), M15) else some (some (.int (nI 1)), M15))) else (if x2 = (nI 0) then some (some (.int (-1 : Int32)), M6) else (if zin (x1 - (nI 10)) 36 = true then some (some (.int (M6.1 106 (Int32.toNatClampNeg (x1 - (nI 10))))), M6) else none))))))))) = some r) : h_C_weight_51 d x1 x2 M = some r := by
  show zEx0 (zEv d) zmC_weight (51, [(0, .ref 64), (1, .int x1), (2, .int x2)], [], M) = some r
  refine y_pure (pc' := 52) (st' := [.ref 64]) rfl rfl ?_
  refine y_getf (pc' := 55) (v := .ref 105) rfl rfl rfl zc_64 rfl rfl ?_
  refine y_pure (pc' := 56) (st' := [.ref 64, .ref 105]) rfl rfl ?_
  refine y_getf (pc' := 59) (v := .ref 86) rfl rfl rfl zc_64 rfl rfl ?_
  obtain ⟨M2, he1, h⟩ := zC0_inv h
  refine y_callV (pc' := 62) (y := zmB_copyFrom) (a' := [.ref 86]) (st' := []) rfl rfl rfl rfl rfl (zrecv_o (o := 0) zc_105 rfl) rfl he1 rfl rfl ?_
  refine y_pure (pc' := 63) (st' := [.ref 64]) rfl rfl ?_
  refine y_getf (pc' := 66) (v := .ref 262) rfl rfl rfl zc_64 rfl rfl ?_
  refine y_pure (pc' := 67) (st' := [.ref 64, .ref 262]) rfl rfl ?_
  refine y_getf (pc' := 70) (v := .ref 105) rfl rfl rfl zc_64 rfl rfl ?_
  obtain ⟨M4, he3, h⟩ := zC0_inv h
  refine y_callV (pc' := 73) (y := zmL_find) (a' := [.ref 105]) (st' := []) rfl rfl rfl rfl rfl (zrecv_o (o := 1) zc_262 rfl) rfl he3 rfl rfl ?_
  refine y_pure (pc' := 74) (st' := [.ref 64]) rfl rfl ?_
  refine y_getf (pc' := 77) (v := .ref 262) rfl rfl rfl zc_64 rfl rfl ?_
  refine y_pure (pc' := 78) (st' := [.ref 64, .ref 262]) rfl rfl ?_
  refine y_getf (pc' := 81) (v := .ref 105) rfl rfl rfl zc_64 rfl rfl ?_
  obtain ⟨M6, he5, h⟩ := zC0_inv h
  refine y_callV (pc' := 84) (y := zmL_applyAll) (a' := [.ref 105]) (st' := []) rfl rfl rfl rfl rfl (zrecv_o (o := 1) zc_262 rfl) rfl he5 rfl rfl ?_
  refine y_pure (pc' := 85) (st' := [.int x1]) rfl rfl ?_
  rcases zif_inv h with ⟨hc7, h⟩ | ⟨hc7, h⟩
  · refine y_sw (k := 0) (t := 116) rfl (by rw [hc7]; decide) (by decide) rfl rfl ?_
    refine y_pure (pc' := 117) (st' := [.ref 64]) rfl rfl ?_
    refine y_getf (pc' := 120) (v := .ref 262) rfl rfl rfl zc_64 rfl rfl ?_
    refine y_getf (pc' := 123) (v := .int (M6.1 262 10)) rfl rfl rfl zc_262 rfl rfl ?_
    exact y_ret rfl rfl rfl rfl h
  · rcases zif_inv h with ⟨hc8, h⟩ | ⟨hc8, h⟩
    · refine y_sw (k := 1) (t := 124) rfl (by rw [hc8]; decide) (by decide) rfl rfl ?_
      refine y_pure (pc' := 125) (st' := [.ref 64]) rfl rfl ?_
      refine y_getf (pc' := 128) (v := .ref 262) rfl rfl rfl zc_64 rfl rfl ?_
      refine y_getf (pc' := 131) (v := .int (M6.1 262 11)) rfl rfl rfl zc_262 rfl rfl ?_
      exact y_ret rfl rfl rfl rfl h
    · rcases zif_inv h with ⟨hc9, h⟩ | ⟨hc9, h⟩
      · refine y_sw (k := 2) (t := 132) rfl (by rw [hc9]; decide) (by decide) rfl rfl ?_
        refine y_pure (pc' := 133) (st' := [.ref 64]) rfl rfl ?_
        refine y_getf (pc' := 136) (v := .ref 105) rfl rfl rfl zc_64 rfl rfl ?_
        refine y_getf (pc' := 139) (v := .long (M6.2 105 4)) rfl rfl rfl zc_105 rfl rfl ?_
        refine y_pure (pc' := 140) (st' := [.ref 64, .long (M6.2 105 4)]) rfl rfl ?_
        refine y_getf (pc' := 143) (v := .ref 105) rfl rfl rfl zc_64 rfl rfl ?_
        refine y_getf (pc' := 146) (v := .long (M6.2 105 5)) rfl rfl rfl zc_105 rfl rfl ?_
        refine y_pure (pc' := 149) (st' := [.long (-1 : Int64), .long (M6.2 105 5), .long (M6.2 105 4)]) rfl rfl ?_
        refine y_pure (pc' := 150) (st' := [.long ((M6.2 105 5) ^^^ (-1 : Int64)), .long (M6.2 105 4)]) rfl rfl ?_
        refine y_pure (pc' := 151) (st' := [.long ((M6.2 105 4) &&& ((M6.2 105 5) ^^^ (-1 : Int64)))]) rfl rfl ?_
        refine y_pure (pc' := 152) (st' := [.ref 64, .long ((M6.2 105 4) &&& ((M6.2 105 5) ^^^ (-1 : Int64)))]) rfl rfl ?_
        refine y_getf (pc' := 155) (v := .ref 105) rfl rfl rfl zc_64 rfl rfl ?_
        refine y_getf (pc' := 158) (v := .long (M6.2 105 6)) rfl rfl rfl zc_105 rfl rfl ?_
        refine y_pure (pc' := 161) (st' := [.long (-1 : Int64), .long (M6.2 105 6), .long ((M6.2 105 4) &&& ((M6.2 105 5) ^^^ (-1 : Int64)))]) rfl rfl ?_
        refine y_pure (pc' := 162) (st' := [.long ((M6.2 105 6) ^^^ (-1 : Int64)), .long ((M6.2 105 4) &&& ((M6.2 105 5) ^^^ (-1 : Int64)))]) rfl rfl ?_
        refine y_pure (pc' := 163) (st' := [.long (((M6.2 105 4) &&& ((M6.2 105 5) ^^^ (-1 : Int64))) &&& ((M6.2 105 6) ^^^ (-1 : Int64)))]) rfl rfl ?_
        obtain ⟨v13, M12, he11, h⟩ := zC1_inv h
        refine y_callS (pc' := 166) (y := zmJL_bitCount) (a := [.long (((M6.2 105 4) &&& ((M6.2 105 5) ^^^ (-1 : Int64))) &&& ((M6.2 105 6) ^^^ (-1 : Int64)))]) (st' := []) rfl rfl rfl rfl rfl rfl he11 rfl rfl ?_
        exact y_ret rfl rfl rfl rfl h
      · rcases zif_inv h with ⟨hc10, h⟩ | ⟨hc10, h⟩
        · refine y_sw (k := 3) (t := 167) rfl (by rw [hc10]; decide) (by decide) rfl rfl ?_
          refine y_pure (pc' := 168) (st' := [.ref 64]) rfl rfl ?_
          refine y_getf (pc' := 171) (v := .ref 262) rfl rfl rfl zc_64 rfl rfl ?_
          obtain ⟨v16, M15, he14, h⟩ := zC1_inv h
          refine y_callV (pc' := 174) (y := zmL_isBroken) (a' := []) (st' := []) rfl rfl rfl rfl rfl (zrecv_o (o := 1) zc_262 rfl) rfl he14 rfl rfl ?_
          rcases zif_inv h with ⟨hc17, h⟩ | ⟨hc17, h⟩
          · refine y_cnd (pc' := 181) rfl rfl (zc_eqT hc17) rfl ?_
            refine y_pure (pc' := 182) (st' := [.int (nI 0)]) rfl rfl ?_
            exact y_ret rfl rfl rfl rfl h
          · refine y_cnd (pc' := 177) rfl rfl (zc_eqF hc17) rfl ?_
            refine y_pure (pc' := 178) (st' := [.int (nI 1)]) rfl rfl ?_
            refine y_pure (pc' := 182) rfl rfl ?_
            exact y_ret rfl rfl rfl rfl h
        · refine y_swD (t := 183) rfl (by have q0 := zsw_ne (k := 0) (by decide) hc7; have q1 := zsw_ne (k := 1) (by decide) hc8; have q2 := zsw_ne (k := 2) (by decide) hc9; have q3 := zsw_ne (k := 3) (by decide) hc10; omega) rfl ?_
          refine y_pure (pc' := 184) (st' := [.int x2]) rfl rfl ?_
          rcases zif_inv h with ⟨hc18, h⟩ | ⟨hc18, h⟩
          · refine y_cnd (pc' := 202) rfl rfl (zc_eqT hc18) rfl ?_
            refine y_pure (pc' := 203) (st' := [.int (-1 : Int32)]) rfl rfl ?_
            exact y_ret rfl rfl rfl rfl h
          · refine y_cnd (pc' := 187) rfl rfl (zc_eqF hc18) rfl ?_
            refine y_pure (pc' := 188) (st' := [.ref 64]) rfl rfl ?_
            refine y_getf (pc' := 191) (v := .ref 105) rfl rfl rfl zc_64 rfl rfl ?_
            refine y_getf (pc' := 194) (v := .ref 106) rfl rfl rfl zc_105 rfl rfl ?_
            refine y_pure (pc' := 195) (st' := [.int x1, .ref 106]) rfl rfl ?_
            refine y_pure (pc' := 197) (st' := [.int (nI 10), .int x1, .ref 106]) rfl rfl ?_
            refine y_pure (pc' := 198) (st' := [.int (x1 - (nI 10)), .ref 106]) rfl rfl ?_
            obtain ⟨hi19, h⟩ := zg_inv h
            refine y_iald (pc' := 199) rfl zc_106 hi19 rfl ?_
            refine y_pure (pc' := 203) rfl rfl ?_
            exact y_ret rfl rfl rfl rfl h
theorem e_C_weight {d : Nat} {x1 : Int32} {M : ZM} {r : ZR}  (h : (if x1 < (nI 10) then zC1 (zEv d zmB_isTold [.ref 86] M) (fun v4 M3 => (if v4 = (nI 0) then some (some (.int (-1 : Int32)), M3) else (if x1 < (nI 0) then some (some (.int (-1 : Int32)), M3) else (if (nI 3) < x1 then some (some (.int (-1 : Int32)), M3) else h_C_weight_51 d x1 (nI 0) M3)))) else zC1 (zEv d zmB_isCell [.ref 86, .int (x1 - (nI 10))] M) (fun v11 M10 => (if v11 = (nI 0) then zC1 (zEv d zmB_isTold [.ref 86] M10) (fun v15 M14 => (if v15 = (nI 0) then some (some (.int (-1 : Int32)), M14) else (if x1 < (nI 0) then some (some (.int (-1 : Int32)), M14) else (if (nI 3) < x1 then some (some (.int (-1 : Int32)), M14) else h_C_weight_51 d x1 (nI 0) M14)))) else zC1 (zEv d zmB_isTold [.ref 86] M10) (fun v22 M21 => (if v22 = (nI 0) then some (some (.int (-1 : Int32)), M21) else h_C_weight_51 d x1 (nI 1) M21))))) = some r) : zEv (d + 1) zmC_weight [.ref 64, .int x1] M = some r := by
  rw [zEv_succ]
  show zEx0 (zEv d) zmC_weight (0, [(0, .ref 64), (1, .int x1)], [], M) = some r
  refine y_pure (pc' := 1) (st' := [.int x1]) rfl rfl ?_
  refine y_pure (pc' := 3) (st' := [.int (nI 10), .int x1]) rfl rfl ?_
  rcases zif_inv h with ⟨hc1, h⟩ | ⟨hc1, h⟩
  · refine y_cmp (pc' := 24) rfl rfl (zc_ltT hc1) rfl ?_
    refine y_pure (pc' := 25) (st' := [.int (nI 0)]) rfl rfl ?_
    refine y_pure (pc' := 26) (ls' := [(0, .ref 64), (1, .int x1), (2, .int (nI 0))]) (st' := []) rfl rfl ?_
    refine y_pure (pc' := 27) (st' := [.ref 64]) rfl rfl ?_
    refine y_getf (pc' := 30) (v := .ref 86) rfl rfl rfl zc_64 rfl rfl ?_
    obtain ⟨v4, M3, he2, h⟩ := zC1_inv h
    refine y_callV (pc' := 33) (y := zmB_isTold) (a' := []) (st' := []) rfl rfl rfl rfl rfl (zrecv_o (o := 0) zc_86 rfl) rfl he2 rfl rfl ?_
    rcases zif_inv h with ⟨hc5, h⟩ | ⟨hc5, h⟩
    · refine y_cnd (pc' := 49) rfl rfl (zc_eqT hc5) rfl ?_
      refine y_pure (pc' := 50) (st' := [.int (-1 : Int32)]) rfl rfl ?_
      exact y_ret rfl rfl rfl rfl h
    · refine y_cnd (pc' := 36) rfl rfl (zc_eqF hc5) rfl ?_
      refine y_pure (pc' := 37) (st' := [.int (nI 0)]) rfl rfl ?_
      refine y_cnd (pc' := 40) rfl rfl (zc_neF (by decide)) rfl ?_
      refine y_pure (pc' := 41) (st' := [.int x1]) rfl rfl ?_
      rcases zif_inv h with ⟨hc7, h⟩ | ⟨hc7, h⟩
      · refine y_cnd (pc' := 49) rfl rfl (zc_ltT hc7) rfl ?_
        refine y_pure (pc' := 50) (st' := [.int (-1 : Int32)]) rfl rfl ?_
        exact y_ret rfl rfl rfl rfl h
      · refine y_cnd (pc' := 44) rfl rfl (zc_ltF hc7) rfl ?_
        refine y_pure (pc' := 45) (st' := [.int x1]) rfl rfl ?_
        refine y_pure (pc' := 46) (st' := [.int (nI 3), .int x1]) rfl rfl ?_
        rcases zif_inv h with ⟨hc8, h⟩ | ⟨hc8, h⟩
        · refine y_cmp (pc' := 49) rfl rfl (zc_leF hc8) rfl ?_
          refine y_pure (pc' := 50) (st' := [.int (-1 : Int32)]) rfl rfl ?_
          exact y_ret rfl rfl rfl rfl h
        · refine y_cmp (pc' := 51) rfl rfl (zc_leT hc8) rfl ?_
          refine zEx_sub ?_ h
          exact ⟨rfl, rfl, rfl, trivial⟩
  · refine y_cmp (pc' := 6) rfl rfl (zc_ltF hc1) rfl ?_
    refine y_pure (pc' := 7) (st' := [.ref 64]) rfl rfl ?_
    refine y_getf (pc' := 10) (v := .ref 86) rfl rfl rfl zc_64 rfl rfl ?_
    refine y_pure (pc' := 11) (st' := [.int x1, .ref 86]) rfl rfl ?_
    refine y_pure (pc' := 13) (st' := [.int (nI 10), .int x1, .ref 86]) rfl rfl ?_
    refine y_pure (pc' := 14) (st' := [.int (x1 - (nI 10)), .ref 86]) rfl rfl ?_
    obtain ⟨v11, M10, he9, h⟩ := zC1_inv h
    refine y_callV (pc' := 17) (y := zmB_isCell) (a' := [.int (x1 - (nI 10))]) (st' := []) rfl rfl rfl rfl rfl (zrecv_o (o := 0) zc_86 rfl) rfl he9 rfl rfl ?_
    rcases zif_inv h with ⟨hc12, h⟩ | ⟨hc12, h⟩
    · refine y_cnd (pc' := 24) rfl rfl (zc_eqT hc12) rfl ?_
      refine y_pure (pc' := 25) (st' := [.int (nI 0)]) rfl rfl ?_
      refine y_pure (pc' := 26) (ls' := [(0, .ref 64), (1, .int x1), (2, .int (nI 0))]) (st' := []) rfl rfl ?_
      refine y_pure (pc' := 27) (st' := [.ref 64]) rfl rfl ?_
      refine y_getf (pc' := 30) (v := .ref 86) rfl rfl rfl zc_64 rfl rfl ?_
      obtain ⟨v15, M14, he13, h⟩ := zC1_inv h
      refine y_callV (pc' := 33) (y := zmB_isTold) (a' := []) (st' := []) rfl rfl rfl rfl rfl (zrecv_o (o := 0) zc_86 rfl) rfl he13 rfl rfl ?_
      rcases zif_inv h with ⟨hc16, h⟩ | ⟨hc16, h⟩
      · refine y_cnd (pc' := 49) rfl rfl (zc_eqT hc16) rfl ?_
        refine y_pure (pc' := 50) (st' := [.int (-1 : Int32)]) rfl rfl ?_
        exact y_ret rfl rfl rfl rfl h
      · refine y_cnd (pc' := 36) rfl rfl (zc_eqF hc16) rfl ?_
        refine y_pure (pc' := 37) (st' := [.int (nI 0)]) rfl rfl ?_
        refine y_cnd (pc' := 40) rfl rfl (zc_neF (by decide)) rfl ?_
        refine y_pure (pc' := 41) (st' := [.int x1]) rfl rfl ?_
        rcases zif_inv h with ⟨hc18, h⟩ | ⟨hc18, h⟩
        · refine y_cnd (pc' := 49) rfl rfl (zc_ltT hc18) rfl ?_
          refine y_pure (pc' := 50) (st' := [.int (-1 : Int32)]) rfl rfl ?_
          exact y_ret rfl rfl rfl rfl h
        · refine y_cnd (pc' := 44) rfl rfl (zc_ltF hc18) rfl ?_
          refine y_pure (pc' := 45) (st' := [.int x1]) rfl rfl ?_
          refine y_pure (pc' := 46) (st' := [.int (nI 3), .int x1]) rfl rfl ?_
          rcases zif_inv h with ⟨hc19, h⟩ | ⟨hc19, h⟩
          · refine y_cmp (pc' := 49) rfl rfl (zc_leF hc19) rfl ?_
            refine y_pure (pc' := 50) (st' := [.int (-1 : Int32)]) rfl rfl ?_
            exact y_ret rfl rfl rfl rfl h
          · refine y_cmp (pc' := 51) rfl rfl (zc_leT hc19) rfl ?_
            refine zEx_sub ?_ h
            exact ⟨rfl, rfl, rfl, trivial⟩
    · refine y_cnd (pc' := 20) rfl rfl (zc_eqF hc12) rfl ?_
      refine y_pure (pc' := 21) (st' := [.int (nI 1)]) rfl rfl ?_
      refine y_pure (pc' := 25) rfl rfl ?_
      refine y_pure (pc' := 26) (ls' := [(0, .ref 64), (1, .int x1), (2, .int (nI 1))]) (st' := []) rfl rfl ?_
      refine y_pure (pc' := 27) (st' := [.ref 64]) rfl rfl ?_
      refine y_getf (pc' := 30) (v := .ref 86) rfl rfl rfl zc_64 rfl rfl ?_
      obtain ⟨v22, M21, he20, h⟩ := zC1_inv h
      refine y_callV (pc' := 33) (y := zmB_isTold) (a' := []) (st' := []) rfl rfl rfl rfl rfl (zrecv_o (o := 0) zc_86 rfl) rfl he20 rfl rfl ?_
      rcases zif_inv h with ⟨hc23, h⟩ | ⟨hc23, h⟩
      · refine y_cnd (pc' := 49) rfl rfl (zc_eqT hc23) rfl ?_
        refine y_pure (pc' := 50) (st' := [.int (-1 : Int32)]) rfl rfl ?_
        exact y_ret rfl rfl rfl rfl h
      · refine y_cnd (pc' := 36) rfl rfl (zc_eqF hc23) rfl ?_
        refine y_pure (pc' := 37) (st' := [.int (nI 1)]) rfl rfl ?_
        refine y_cnd (pc' := 51) rfl rfl (zc_neT (by decide)) rfl ?_
        refine zEx_sub ?_ h
        exact ⟨rfl, rfl, rfl, trivial⟩
theorem e_C_solve {d : Nat} {x1 : Int32} {M : ZM} {r : ZR}  (h : zC1 (zEv d zmB_isTold [.ref 86] M) (fun v3 M2 => (if v3 = (nI 0) then some (some (.int (-1 : Int32)), M2) else (if x1 < (nI 1) then some (some (.int (-1 : Int32)), M2) else (if (nI 50) < x1 then some (some (.int (-1 : Int32)), M2) else zC1 (zEv d zmS_look [.ref 411, .ref 86, .ref 87, .int x1] M2) (fun v9 M8 => some (some (.int v9), M8)))))) = some r) : zEv (d + 1) zmC_solve [.ref 64, .int x1] M = some r := by
  rw [zEv_succ]
  show zEx0 (zEv d) zmC_solve (0, [(0, .ref 64), (1, .int x1)], [], M) = some r
  refine y_pure (pc' := 1) (st' := [.ref 64]) rfl rfl ?_
  refine y_getf (pc' := 4) (v := .ref 86) rfl rfl rfl zc_64 rfl rfl ?_
  obtain ⟨v3, M2, he1, h⟩ := zC1_inv h
  refine y_callV (pc' := 7) (y := zmB_isTold) (a' := []) (st' := []) rfl rfl rfl rfl rfl (zrecv_o (o := 0) zc_86 rfl) rfl he1 rfl rfl ?_
  rcases zif_inv h with ⟨hc4, h⟩ | ⟨hc4, h⟩
  · refine y_cnd (pc' := 21) rfl rfl (zc_eqT hc4) rfl ?_
    refine y_pure (pc' := 22) (st' := [.int (-1 : Int32)]) rfl rfl ?_
    exact y_ret rfl rfl rfl rfl h
  · refine y_cnd (pc' := 10) rfl rfl (zc_eqF hc4) rfl ?_
    refine y_pure (pc' := 11) (st' := [.int x1]) rfl rfl ?_
    refine y_pure (pc' := 12) (st' := [.int (nI 1), .int x1]) rfl rfl ?_
    rcases zif_inv h with ⟨hc5, h⟩ | ⟨hc5, h⟩
    · refine y_cmp (pc' := 21) rfl rfl (zc_ltT hc5) rfl ?_
      refine y_pure (pc' := 22) (st' := [.int (-1 : Int32)]) rfl rfl ?_
      exact y_ret rfl rfl rfl rfl h
    · refine y_cmp (pc' := 15) rfl rfl (zc_ltF hc5) rfl ?_
      refine y_pure (pc' := 16) (st' := [.int x1]) rfl rfl ?_
      refine y_pure (pc' := 18) (st' := [.int (nI 50), .int x1]) rfl rfl ?_
      rcases zif_inv h with ⟨hc6, h⟩ | ⟨hc6, h⟩
      · refine y_cmp (pc' := 21) rfl rfl (zc_leF hc6) rfl ?_
        refine y_pure (pc' := 22) (st' := [.int (-1 : Int32)]) rfl rfl ?_
        exact y_ret rfl rfl rfl rfl h
      · refine y_cmp (pc' := 23) rfl rfl (zc_leT hc6) rfl ?_
        refine y_pure (pc' := 24) (st' := [.ref 64]) rfl rfl ?_
        refine y_getf (pc' := 27) (v := .ref 411) rfl rfl rfl zc_64 rfl rfl ?_
        refine y_pure (pc' := 28) (st' := [.ref 64, .ref 411]) rfl rfl ?_
        refine y_getf (pc' := 31) (v := .ref 86) rfl rfl rfl zc_64 rfl rfl ?_
        refine y_pure (pc' := 32) (st' := [.ref 64, .ref 86, .ref 411]) rfl rfl ?_
        refine y_getf (pc' := 35) (v := .ref 86) rfl rfl rfl zc_64 rfl rfl ?_
        refine y_getf (pc' := 38) (v := .ref 87) rfl rfl rfl zc_86 rfl rfl ?_
        refine y_pure (pc' := 39) (st' := [.int x1, .ref 87, .ref 86, .ref 411]) rfl rfl ?_
        obtain ⟨v9, M8, he7, h⟩ := zC1_inv h
        refine y_callV (pc' := 42) (y := zmS_look) (a' := [.ref 86, .ref 87, .int x1]) (st' := []) rfl rfl rfl rfl rfl (zrecv_o (o := 5) zc_411 rfl) rfl he7 rfl rfl ?_
        exact y_ret rfl rfl rfl rfl h
theorem e_C_solution {d : Nat} {x1 : Int32} {x2 : Int32} {M : ZM} {r : ZR}  (h : zC1 (zEv d zmB_isOpen [.ref 86, .int x2] M) (fun v3 M2 => (if v3 = (nI 0) then some (some (.int (-1 : Int32)), M2) else (if x1 < (nI 0) then some (some (.int (-1 : Int32)), M2) else (if x1 < (nI 10) then zC1 (zEv d zmS_look [.ref 411, .ref 86, .ref 87, .int (x1 + (nI 1))] M2) (fun v9 M8 => (if x1 < v9 then zC1 (zEv d zmB_placeOf [.ref 86, .int x2] M8) (fun v13 M12 => zC1 (zEv d zmS_digitAt [.ref 411, .int x1, .int v13] M12) (fun v16 M15 => some (some (.int v16), M15))) else some (some (.int (-2 : Int32)), M8))) else some (some (.int (-1 : Int32)), M2))))) = some r) : zEv (d + 1) zmC_solution [.ref 64, .int x1, .int x2] M = some r := by
  rw [zEv_succ]
  show zEx0 (zEv d) zmC_solution (0, [(0, .ref 64), (1, .int x1), (2, .int x2)], [], M) = some r
  refine y_pure (pc' := 1) (st' := [.ref 64]) rfl rfl ?_
  refine y_getf (pc' := 4) (v := .ref 86) rfl rfl rfl zc_64 rfl rfl ?_
  refine y_pure (pc' := 5) (st' := [.int x2, .ref 86]) rfl rfl ?_
  obtain ⟨v3, M2, he1, h⟩ := zC1_inv h
  refine y_callV (pc' := 8) (y := zmB_isOpen) (a' := [.int x2]) (st' := []) rfl rfl rfl rfl rfl (zrecv_o (o := 0) zc_86 rfl) rfl he1 rfl rfl ?_
  rcases zif_inv h with ⟨hc4, h⟩ | ⟨hc4, h⟩
  · refine y_cnd (pc' := 21) rfl rfl (zc_eqT hc4) rfl ?_
    refine y_pure (pc' := 22) (st' := [.int (-1 : Int32)]) rfl rfl ?_
    exact y_ret rfl rfl rfl rfl h
  · refine y_cnd (pc' := 11) rfl rfl (zc_eqF hc4) rfl ?_
    refine y_pure (pc' := 12) (st' := [.int x1]) rfl rfl ?_
    rcases zif_inv h with ⟨hc5, h⟩ | ⟨hc5, h⟩
    · refine y_cnd (pc' := 21) rfl rfl (zc_ltT hc5) rfl ?_
      refine y_pure (pc' := 22) (st' := [.int (-1 : Int32)]) rfl rfl ?_
      exact y_ret rfl rfl rfl rfl h
    · refine y_cnd (pc' := 15) rfl rfl (zc_ltF hc5) rfl ?_
      refine y_pure (pc' := 16) (st' := [.int x1]) rfl rfl ?_
      refine y_pure (pc' := 18) (st' := [.int (nI 10), .int x1]) rfl rfl ?_
      rcases zif_inv h with ⟨hc6, h⟩ | ⟨hc6, h⟩
      · refine y_cmp (pc' := 23) rfl rfl (zc_ltT hc6) rfl ?_
        refine y_pure (pc' := 24) (st' := [.ref 64]) rfl rfl ?_
        refine y_getf (pc' := 27) (v := .ref 411) rfl rfl rfl zc_64 rfl rfl ?_
        refine y_pure (pc' := 28) (st' := [.ref 64, .ref 411]) rfl rfl ?_
        refine y_getf (pc' := 31) (v := .ref 86) rfl rfl rfl zc_64 rfl rfl ?_
        refine y_pure (pc' := 32) (st' := [.ref 64, .ref 86, .ref 411]) rfl rfl ?_
        refine y_getf (pc' := 35) (v := .ref 86) rfl rfl rfl zc_64 rfl rfl ?_
        refine y_getf (pc' := 38) (v := .ref 87) rfl rfl rfl zc_86 rfl rfl ?_
        refine y_pure (pc' := 39) (st' := [.int x1, .ref 87, .ref 86, .ref 411]) rfl rfl ?_
        refine y_pure (pc' := 40) (st' := [.int (nI 1), .int x1, .ref 87, .ref 86, .ref 411]) rfl rfl ?_
        refine y_pure (pc' := 41) (st' := [.int (x1 + (nI 1)), .ref 87, .ref 86, .ref 411]) rfl rfl ?_
        obtain ⟨v9, M8, he7, h⟩ := zC1_inv h
        refine y_callV (pc' := 44) (y := zmS_look) (a' := [.ref 86, .ref 87, .int (x1 + (nI 1))]) (st' := []) rfl rfl rfl rfl rfl (zrecv_o (o := 5) zc_411 rfl) rfl he7 rfl rfl ?_
        refine y_pure (pc' := 45) (st' := [.int x1, .int v9]) rfl rfl ?_
        rcases zif_inv h with ⟨hc10, h⟩ | ⟨hc10, h⟩
        · refine y_cmp (pc' := 51) rfl rfl (zc_gtT hc10) rfl ?_
          refine y_pure (pc' := 52) (st' := [.ref 64]) rfl rfl ?_
          refine y_getf (pc' := 55) (v := .ref 411) rfl rfl rfl zc_64 rfl rfl ?_
          refine y_pure (pc' := 56) (st' := [.int x1, .ref 411]) rfl rfl ?_
          refine y_pure (pc' := 57) (st' := [.ref 64, .int x1, .ref 411]) rfl rfl ?_
          refine y_getf (pc' := 60) (v := .ref 86) rfl rfl rfl zc_64 rfl rfl ?_
          refine y_pure (pc' := 61) (st' := [.int x2, .ref 86, .int x1, .ref 411]) rfl rfl ?_
          obtain ⟨v13, M12, he11, h⟩ := zC1_inv h
          refine y_callV (pc' := 64) (y := zmB_placeOf) (a' := [.int x2]) (st' := [.int x1, .ref 411]) rfl rfl rfl rfl rfl (zrecv_o (o := 0) zc_86 rfl) rfl he11 rfl rfl ?_
          obtain ⟨v16, M15, he14, h⟩ := zC1_inv h
          refine y_callV (pc' := 67) (y := zmS_digitAt) (a' := [.int x1, .int v13]) (st' := []) rfl rfl rfl rfl rfl (zrecv_o (o := 5) zc_411 rfl) rfl he14 rfl rfl ?_
          exact y_ret rfl rfl rfl rfl h
        · refine y_cmp (pc' := 48) rfl rfl (zc_gtF hc10) rfl ?_
          refine y_pure (pc' := 50) (st' := [.int (-2 : Int32)]) rfl rfl ?_
          exact y_ret rfl rfl rfl rfl h
      · refine y_cmp (pc' := 21) rfl rfl (zc_ltF hc6) rfl ?_
        refine y_pure (pc' := 22) (st' := [.int (-1 : Int32)]) rfl rfl ?_
        exact y_ret rfl rfl rfl rfl h
noncomputable def h_C_agree_17 (d : Nat) (x1 : Int32) (x2 : Int32) (x3 : Int32) (M : ZM) : Option ZR := zEx0 (zEv d) zmC_agree (17, [(0, .ref 64), (1, .int x1), (2, .int x2), (3, .int x3)], [], M)
theorem e_C_agree_17 {d : Nat} {x1 : Int32} {x2 : Int32} {x3 : Int32} {M : ZM} {r : ZR}  (h : (if (M.1 86 2) < x3 then some (some (.int x2), M) else zC1 (zEv d zmB_hasMark [.ref 86, .int x1, .int x3] M) (fun v4 M3 => (if v4 = (nI 0) then h_C_agree_17 d x1 x2 (x3 + (nI 1)) M3 else zC1 (zEv d zmC_solvableWith [.ref 64, .int x1, .int ((nI 1) <<< (x3 &&& 31))] M3) (fun v8 M7 => (if v8 = (nI 0) then h_C_agree_17 d x1 x2 (x3 + (nI 1)) M7 else h_C_agree_17 d x1 (x2 ||| ((nI 1) <<< (x3 &&& 31))) (x3 + (nI 1)) M7))))) = some r) : h_C_agree_17 d x1 x2 x3 M = some r := by
  show zEx0 (zEv d) zmC_agree (17, [(0, .ref 64), (1, .int x1), (2, .int x2), (3, .int x3)], [], M) = some r
  refine y_pure (pc' := 18) (st' := [.int x3]) rfl rfl ?_
  refine y_pure (pc' := 19) (st' := [.ref 64, .int x3]) rfl rfl ?_
  refine y_getf (pc' := 22) (v := .ref 86) rfl rfl rfl zc_64 rfl rfl ?_
  refine y_getf (pc' := 25) (v := .int (M.1 86 2)) rfl rfl rfl zc_86 rfl rfl ?_
  rcases zif_inv h with ⟨hc1, h⟩ | ⟨hc1, h⟩
  · refine y_cmp (pc' := 63) rfl rfl (zc_gtT hc1) rfl ?_
    refine y_pure (pc' := 64) (st' := [.int x2]) rfl rfl ?_
    exact y_ret rfl rfl rfl rfl h
  · refine y_cmp (pc' := 28) rfl rfl (zc_gtF hc1) rfl ?_
    refine y_pure (pc' := 29) (st' := [.ref 64]) rfl rfl ?_
    refine y_getf (pc' := 32) (v := .ref 86) rfl rfl rfl zc_64 rfl rfl ?_
    refine y_pure (pc' := 33) (st' := [.int x1, .ref 86]) rfl rfl ?_
    refine y_pure (pc' := 34) (st' := [.int x3, .int x1, .ref 86]) rfl rfl ?_
    obtain ⟨v4, M3, he2, h⟩ := zC1_inv h
    refine y_callV (pc' := 37) (y := zmB_hasMark) (a' := [.int x1, .int x3]) (st' := []) rfl rfl rfl rfl rfl (zrecv_o (o := 0) zc_86 rfl) rfl he2 rfl rfl ?_
    rcases zif_inv h with ⟨hc5, h⟩ | ⟨hc5, h⟩
    · refine y_cnd (pc' := 57) rfl rfl (zc_eqT hc5) rfl ?_
      refine y_pure (pc' := 60) (ls' := [(0, .ref 64), (1, .int x1), (2, .int x2), (3, .int (x3 + (nI 1)))]) (st' := []) rfl rfl ?_
      refine y_pure (pc' := 17) rfl rfl ?_
      refine zEx_sub ?_ h
      exact ⟨rfl, rfl, rfl, rfl, trivial⟩
    · refine y_cnd (pc' := 40) rfl rfl (zc_eqF hc5) rfl ?_
      refine y_pure (pc' := 41) (st' := [.ref 64]) rfl rfl ?_
      refine y_pure (pc' := 42) (st' := [.int x1, .ref 64]) rfl rfl ?_
      refine y_pure (pc' := 43) (st' := [.int (nI 1), .int x1, .ref 64]) rfl rfl ?_
      refine y_pure (pc' := 44) (st' := [.int x3, .int (nI 1), .int x1, .ref 64]) rfl rfl ?_
      refine y_pure (pc' := 45) (st' := [.int ((nI 1) <<< (x3 &&& 31)), .int x1, .ref 64]) rfl rfl ?_
      obtain ⟨v8, M7, he6, h⟩ := zC1_inv h
      refine y_callV (pc' := 48) (y := zmC_solvableWith) (a' := [.int x1, .int ((nI 1) <<< (x3 &&& 31))]) (st' := []) rfl rfl rfl rfl rfl (zrecv_o (o := 9) zc_64 rfl) rfl he6 rfl rfl ?_
      rcases zif_inv h with ⟨hc9, h⟩ | ⟨hc9, h⟩
      · refine y_cnd (pc' := 57) rfl rfl (zc_eqT hc9) rfl ?_
        refine y_pure (pc' := 60) (ls' := [(0, .ref 64), (1, .int x1), (2, .int x2), (3, .int (x3 + (nI 1)))]) (st' := []) rfl rfl ?_
        refine y_pure (pc' := 17) rfl rfl ?_
        refine zEx_sub ?_ h
        exact ⟨rfl, rfl, rfl, rfl, trivial⟩
      · refine y_cnd (pc' := 51) rfl rfl (zc_eqF hc9) rfl ?_
        refine y_pure (pc' := 52) (st' := [.int x2]) rfl rfl ?_
        refine y_pure (pc' := 53) (st' := [.int (nI 1), .int x2]) rfl rfl ?_
        refine y_pure (pc' := 54) (st' := [.int x3, .int (nI 1), .int x2]) rfl rfl ?_
        refine y_pure (pc' := 55) (st' := [.int ((nI 1) <<< (x3 &&& 31)), .int x2]) rfl rfl ?_
        refine y_pure (pc' := 56) (st' := [.int (x2 ||| ((nI 1) <<< (x3 &&& 31)))]) rfl rfl ?_
        refine y_pure (pc' := 57) (ls' := [(0, .ref 64), (1, .int x1), (2, .int (x2 ||| ((nI 1) <<< (x3 &&& 31)))), (3, .int x3)]) (st' := []) rfl rfl ?_
        refine y_pure (pc' := 60) (ls' := [(0, .ref 64), (1, .int x1), (2, .int (x2 ||| ((nI 1) <<< (x3 &&& 31)))), (3, .int (x3 + (nI 1)))]) (st' := []) rfl rfl ?_
        refine y_pure (pc' := 17) rfl rfl ?_
        refine zEx_sub ?_ h
        exact ⟨rfl, rfl, rfl, rfl, trivial⟩
theorem e_C_agree {d : Nat} {x1 : Int32} {M : ZM} {r : ZR}  (h : zC1 (zEv d zmB_isOpen [.ref 86, .int x1] M) (fun v3 M2 => (if v3 = (nI 0) then some (some (.int (-1 : Int32)), M2) else h_C_agree_17 d x1 (nI 0) (nI 1) M2)) = some r) : zEv (d + 1) zmC_agree [.ref 64, .int x1] M = some r := by
  rw [zEv_succ]
  show zEx0 (zEv d) zmC_agree (0, [(0, .ref 64), (1, .int x1)], [], M) = some r
  refine y_pure (pc' := 1) (st' := [.ref 64]) rfl rfl ?_
  refine y_getf (pc' := 4) (v := .ref 86) rfl rfl rfl zc_64 rfl rfl ?_
  refine y_pure (pc' := 5) (st' := [.int x1, .ref 86]) rfl rfl ?_
  obtain ⟨v3, M2, he1, h⟩ := zC1_inv h
  refine y_callV (pc' := 8) (y := zmB_isOpen) (a' := [.int x1]) (st' := []) rfl rfl rfl rfl rfl (zrecv_o (o := 0) zc_86 rfl) rfl he1 rfl rfl ?_
  rcases zif_inv h with ⟨hc4, h⟩ | ⟨hc4, h⟩
  · refine y_cnd (pc' := 11) rfl rfl (zc_neF hc4) rfl ?_
    refine y_pure (pc' := 12) (st' := [.int (-1 : Int32)]) rfl rfl ?_
    exact y_ret rfl rfl rfl rfl h
  · refine y_cnd (pc' := 13) rfl rfl (zc_neT hc4) rfl ?_
    refine y_pure (pc' := 14) (st' := [.int (nI 0)]) rfl rfl ?_
    refine y_pure (pc' := 15) (ls' := [(0, .ref 64), (1, .int x1), (2, .int (nI 0))]) (st' := []) rfl rfl ?_
    refine y_pure (pc' := 16) (st' := [.int (nI 1)]) rfl rfl ?_
    refine y_pure (pc' := 17) (ls' := [(0, .ref 64), (1, .int x1), (2, .int (nI 0)), (3, .int (nI 1))]) (st' := []) rfl rfl ?_
    refine zEx_sub ?_ h
    exact ⟨rfl, rfl, rfl, rfl, trivial⟩
theorem e_C_solvableWith {d : Nat} {x1 : Int32} {x2 : Int32} {M : ZM} {r : ZR}  (h : (if x1 < (nI 0) then zC1 (zEv d zmS_canSolve [.ref 411, .ref 86, .ref 126] (zsi M 126 (va_cpy (M.1 87) (M.1 126) (0) (0) (36)))) (fun v4 M3 => (if v4 = nI 0 ∨ v4 = nI 1 then some (some (.int v4), M3) else none)) else (if x1 < (nI 36) then (if zin x1 36 = true then zC1 (zEv d zmS_canSolve [.ref 411, .ref 86, .ref 126] (zpi (zsi M 126 (va_cpy (M.1 87) (M.1 126) (0) (0) (36))) 126 (Int32.toNatClampNeg x1) x2)) (fun v10 M9 => (if v10 = nI 0 ∨ v10 = nI 1 then some (some (.int v10), M9) else none)) else none) else zC1 (zEv d zmS_canSolve [.ref 411, .ref 86, .ref 126] (zsi M 126 (va_cpy (M.1 87) (M.1 126) (0) (0) (36)))) (fun v14 M13 => (if v14 = nI 0 ∨ v14 = nI 1 then some (some (.int v14), M13) else none)))) = some r) : zEv (d + 1) zmC_solvableWith [.ref 64, .int x1, .int x2] M = some r := by
  rw [zEv_succ]
  show zEx0 (zEv d) zmC_solvableWith (0, [(0, .ref 64), (1, .int x1), (2, .int x2)], [], M) = some r
  refine y_pure (pc' := 1) (st' := [.ref 64]) rfl rfl ?_
  refine y_getf (pc' := 4) (v := .ref 86) rfl rfl rfl zc_64 rfl rfl ?_
  refine y_getf (pc' := 7) (v := .ref 87) rfl rfl rfl zc_86 rfl rfl ?_
  refine y_pure (pc' := 8) (st' := [.int (nI 0), .ref 87]) rfl rfl ?_
  refine y_pure (pc' := 9) (st' := [.ref 64, .int (nI 0), .ref 87]) rfl rfl ?_
  refine y_getf (pc' := 12) (v := .ref 126) rfl rfl rfl zc_64 rfl rfl ?_
  refine y_pure (pc' := 13) (st' := [.int (nI 0), .ref 126, .int (nI 0), .ref 87]) rfl rfl ?_
  refine y_pure (pc' := 15) (st' := [.int (nI 36), .int (nI 0), .ref 126, .int (nI 0), .ref 87]) rfl rfl ?_
  refine y_copyI (pc' := 18) rfl rfl rfl zc_87 zc_126 (by decide) (by decide) rfl ?_
  refine y_pure (pc' := 19) (st' := [.int x1]) rfl rfl ?_
  rcases zif_inv h with ⟨hc1, h⟩ | ⟨hc1, h⟩
  · refine y_cnd (pc' := 35) rfl rfl (zc_ltT hc1) rfl ?_
    refine y_pure (pc' := 36) (st' := [.ref 64]) rfl rfl ?_
    refine y_getf (pc' := 39) (v := .ref 411) rfl rfl rfl zc_64 rfl rfl ?_
    refine y_pure (pc' := 40) (st' := [.ref 64, .ref 411]) rfl rfl ?_
    refine y_getf (pc' := 43) (v := .ref 86) rfl rfl rfl zc_64 rfl rfl ?_
    refine y_pure (pc' := 44) (st' := [.ref 64, .ref 86, .ref 411]) rfl rfl ?_
    refine y_getf (pc' := 47) (v := .ref 126) rfl rfl rfl zc_64 rfl rfl ?_
    obtain ⟨v4, M3, he2, h⟩ := zC1_inv h
    refine y_callV (pc' := 50) (y := zmS_canSolve) (a' := [.ref 86, .ref 126]) (st' := []) rfl rfl rfl rfl rfl (zrecv_o (o := 5) zc_411 rfl) rfl he2 rfl rfl ?_
    obtain ⟨hb5, h⟩ := zg_inv h
    exact y_retZ rfl rfl hb5 h
  · refine y_cnd (pc' := 22) rfl rfl (zc_ltF hc1) rfl ?_
    refine y_pure (pc' := 23) (st' := [.int x1]) rfl rfl ?_
    refine y_pure (pc' := 25) (st' := [.int (nI 36), .int x1]) rfl rfl ?_
    rcases zif_inv h with ⟨hc6, h⟩ | ⟨hc6, h⟩
    · refine y_cmp (pc' := 28) rfl rfl (zc_geF hc6) rfl ?_
      refine y_pure (pc' := 29) (st' := [.ref 64]) rfl rfl ?_
      refine y_getf (pc' := 32) (v := .ref 126) rfl rfl rfl zc_64 rfl rfl ?_
      refine y_pure (pc' := 33) (st' := [.int x1, .ref 126]) rfl rfl ?_
      refine y_pure (pc' := 34) (st' := [.int x2, .int x1, .ref 126]) rfl rfl ?_
      obtain ⟨hi7, h⟩ := zg_inv h
      refine y_iast (pc' := 35) rfl zc_126 hi7 rfl ?_
      refine y_pure (pc' := 36) (st' := [.ref 64]) rfl rfl ?_
      refine y_getf (pc' := 39) (v := .ref 411) rfl rfl rfl zc_64 rfl rfl ?_
      refine y_pure (pc' := 40) (st' := [.ref 64, .ref 411]) rfl rfl ?_
      refine y_getf (pc' := 43) (v := .ref 86) rfl rfl rfl zc_64 rfl rfl ?_
      refine y_pure (pc' := 44) (st' := [.ref 64, .ref 86, .ref 411]) rfl rfl ?_
      refine y_getf (pc' := 47) (v := .ref 126) rfl rfl rfl zc_64 rfl rfl ?_
      obtain ⟨v10, M9, he8, h⟩ := zC1_inv h
      refine y_callV (pc' := 50) (y := zmS_canSolve) (a' := [.ref 86, .ref 126]) (st' := []) rfl rfl rfl rfl rfl (zrecv_o (o := 5) zc_411 rfl) rfl he8 rfl rfl ?_
      obtain ⟨hb11, h⟩ := zg_inv h
      exact y_retZ rfl rfl hb11 h
    · refine y_cmp (pc' := 35) rfl rfl (zc_geT hc6) rfl ?_
      refine y_pure (pc' := 36) (st' := [.ref 64]) rfl rfl ?_
      refine y_getf (pc' := 39) (v := .ref 411) rfl rfl rfl zc_64 rfl rfl ?_
      refine y_pure (pc' := 40) (st' := [.ref 64, .ref 411]) rfl rfl ?_
      refine y_getf (pc' := 43) (v := .ref 86) rfl rfl rfl zc_64 rfl rfl ?_
      refine y_pure (pc' := 44) (st' := [.ref 64, .ref 86, .ref 411]) rfl rfl ?_
      refine y_getf (pc' := 47) (v := .ref 126) rfl rfl rfl zc_64 rfl rfl ?_
      obtain ⟨v14, M13, he12, h⟩ := zC1_inv h
      refine y_callV (pc' := 50) (y := zmS_canSolve) (a' := [.ref 86, .ref 126]) (st' := []) rfl rfl rfl rfl rfl (zrecv_o (o := 5) zc_411 rfl) rfl he12 rfl rfl ?_
      obtain ⟨hb15, h⟩ := zg_inv h
      exact y_retZ rfl rfl hb15 h
noncomputable def h_C_hint_59 (d : Nat) (x1 : Int32) (x2 : Int32) (M : ZM) : Option ZR := zEx0 (zEv d) zmC_hint (59, [(0, .ref 64), (1, .int x1), (2, .int x2)], [], M)
noncomputable def h_C_hint_102 (d : Nat) (x1 : Int32) (x2 : Int32) (M : ZM) : Option ZR := zEx0 (zEv d) zmC_hint (102, [(0, .ref 64), (1, .int x1), (2, .int x2)], [], M)
theorem e_C_hint_59 {d : Nat} {x1 : Int32} {x2 : Int32} {M : ZM} {r : ZR}  (h : zC1 (zEv d zmS_places [.ref 411] M) (fun v3 M2 => (if x2 < v3 then zC1 (zEv d zmS_cellAt [.ref 411, .int x2] M2) (fun v7 M6 => zC1 (zEv d zmS_digitAt [.ref 411, .int (nI 0), .int x2] M6) (fun v10 M9 => zC0 (zEv d zmB_giveDigit [.ref 105, .int v7, .int v10] M9) (fun M12 => h_C_hint_59 d x1 (x2 + (nI 1)) M12))) else h_C_hint_102 d x1 (nI 0) M2)) = some r) : h_C_hint_59 d x1 x2 M = some r := by
  show zEx0 (zEv d) zmC_hint (59, [(0, .ref 64), (1, .int x1), (2, .int x2)], [], M) = some r
  refine y_pure (pc' := 60) (st' := [.int x2]) rfl rfl ?_
  refine y_pure (pc' := 61) (st' := [.ref 64, .int x2]) rfl rfl ?_
  refine y_getf (pc' := 64) (v := .ref 411) rfl rfl rfl zc_64 rfl rfl ?_
  obtain ⟨v3, M2, he1, h⟩ := zC1_inv h
  refine y_callV (pc' := 67) (y := zmS_places) (a' := []) (st' := [.int x2]) rfl rfl rfl rfl rfl (zrecv_o (o := 5) zc_411 rfl) rfl he1 rfl rfl ?_
  rcases zif_inv h with ⟨hc4, h⟩ | ⟨hc4, h⟩
  · refine y_cmp (pc' := 70) rfl rfl (zc_geF hc4) rfl ?_
    refine y_pure (pc' := 71) (st' := [.ref 64]) rfl rfl ?_
    refine y_getf (pc' := 74) (v := .ref 105) rfl rfl rfl zc_64 rfl rfl ?_
    refine y_pure (pc' := 75) (st' := [.ref 64, .ref 105]) rfl rfl ?_
    refine y_getf (pc' := 78) (v := .ref 411) rfl rfl rfl zc_64 rfl rfl ?_
    refine y_pure (pc' := 79) (st' := [.int x2, .ref 411, .ref 105]) rfl rfl ?_
    obtain ⟨v7, M6, he5, h⟩ := zC1_inv h
    refine y_callV (pc' := 82) (y := zmS_cellAt) (a' := [.int x2]) (st' := [.ref 105]) rfl rfl rfl rfl rfl (zrecv_o (o := 5) zc_411 rfl) rfl he5 rfl rfl ?_
    refine y_pure (pc' := 83) (st' := [.ref 64, .int v7, .ref 105]) rfl rfl ?_
    refine y_getf (pc' := 86) (v := .ref 411) rfl rfl rfl zc_64 rfl rfl ?_
    refine y_pure (pc' := 87) (st' := [.int (nI 0), .ref 411, .int v7, .ref 105]) rfl rfl ?_
    refine y_pure (pc' := 88) (st' := [.int x2, .int (nI 0), .ref 411, .int v7, .ref 105]) rfl rfl ?_
    obtain ⟨v10, M9, he8, h⟩ := zC1_inv h
    refine y_callV (pc' := 91) (y := zmS_digitAt) (a' := [.int (nI 0), .int x2]) (st' := [.int v7, .ref 105]) rfl rfl rfl rfl rfl (zrecv_o (o := 5) zc_411 rfl) rfl he8 rfl rfl ?_
    obtain ⟨M12, he11, h⟩ := zC0_inv h
    refine y_callV (pc' := 94) (y := zmB_giveDigit) (a' := [.int v7, .int v10]) (st' := []) rfl rfl rfl rfl rfl (zrecv_o (o := 0) zc_105 rfl) rfl he11 rfl rfl ?_
    refine y_pure (pc' := 97) (ls' := [(0, .ref 64), (1, .int x1), (2, .int (x2 + (nI 1)))]) (st' := []) rfl rfl ?_
    refine y_pure (pc' := 59) rfl rfl ?_
    refine zEx_sub ?_ h
    exact ⟨rfl, rfl, rfl, trivial⟩
  · refine y_cmp (pc' := 100) rfl rfl (zc_geT hc4) rfl ?_
    refine y_pure (pc' := 101) (st' := [.int (nI 0)]) rfl rfl ?_
    refine y_pure (pc' := 102) (ls' := [(0, .ref 64), (1, .int x1), (2, .int (nI 0))]) (st' := []) rfl rfl ?_
    refine zEx_sub ?_ h
    exact ⟨rfl, rfl, rfl, trivial⟩
theorem e_C_hint_102 {d : Nat} {x1 : Int32} {x2 : Int32} {M : ZM} {r : ZR}  (h : (if x2 < (nI 36) then zC1 (zEv d zmB_isOpen [.ref 86, .int x2] M) (fun v4 M3 => (if v4 = (nI 0) then h_C_hint_102 d x1 (x2 + (nI 1)) M3 else zC1 (zEv d zmB_isDone [.ref 86, .int x2] M3) (fun v8 M7 => (if v8 = (nI 0) then (if zin x2 36 = true then zC1 (zEv d zmC_solvableWith [.ref 64, .int x2, .int ((M7.1 87 (Int32.toNatClampNeg x2)) &&& ((M7.1 106 (Int32.toNatClampNeg x2)) ^^^ (-1 : Int32)))] M7) (fun v13 M12 => (if v13 = (nI 0) then (if x1 = (nI 0) then some (some (.int x2), M12) else zC1 (zEv d zmB_digitOf [.ref 105, .int x2] M12) (fun v18 M17 => some (some (.int v18), M17))) else h_C_hint_102 d x1 (x2 + (nI 1)) M12)) else none) else h_C_hint_102 d x1 (x2 + (nI 1)) M7)))) else some (some (.int (-2 : Int32)), M)) = some r) : h_C_hint_102 d x1 x2 M = some r := by
  show zEx0 (zEv d) zmC_hint (102, [(0, .ref 64), (1, .int x1), (2, .int x2)], [], M) = some r
  refine y_pure (pc' := 103) (st' := [.int x2]) rfl rfl ?_
  refine y_pure (pc' := 105) (st' := [.int (nI 36), .int x2]) rfl rfl ?_
  rcases zif_inv h with ⟨hc1, h⟩ | ⟨hc1, h⟩
  · refine y_cmp (pc' := 108) rfl rfl (zc_geF hc1) rfl ?_
    refine y_pure (pc' := 109) (st' := [.ref 64]) rfl rfl ?_
    refine y_getf (pc' := 112) (v := .ref 86) rfl rfl rfl zc_64 rfl rfl ?_
    refine y_pure (pc' := 113) (st' := [.int x2, .ref 86]) rfl rfl ?_
    obtain ⟨v4, M3, he2, h⟩ := zC1_inv h
    refine y_callV (pc' := 116) (y := zmB_isOpen) (a' := [.int x2]) (st' := []) rfl rfl rfl rfl rfl (zrecv_o (o := 0) zc_86 rfl) rfl he2 rfl rfl ?_
    rcases zif_inv h with ⟨hc5, h⟩ | ⟨hc5, h⟩
    · refine y_cnd (pc' := 176) rfl rfl (zc_eqT hc5) rfl ?_
      refine y_pure (pc' := 179) (ls' := [(0, .ref 64), (1, .int x1), (2, .int (x2 + (nI 1)))]) (st' := []) rfl rfl ?_
      refine y_pure (pc' := 102) rfl rfl ?_
      refine zEx_sub ?_ h
      exact ⟨rfl, rfl, rfl, trivial⟩
    · refine y_cnd (pc' := 119) rfl rfl (zc_eqF hc5) rfl ?_
      refine y_pure (pc' := 120) (st' := [.ref 64]) rfl rfl ?_
      refine y_getf (pc' := 123) (v := .ref 86) rfl rfl rfl zc_64 rfl rfl ?_
      refine y_pure (pc' := 124) (st' := [.int x2, .ref 86]) rfl rfl ?_
      obtain ⟨v8, M7, he6, h⟩ := zC1_inv h
      refine y_callV (pc' := 127) (y := zmB_isDone) (a' := [.int x2]) (st' := []) rfl rfl rfl rfl rfl (zrecv_o (o := 0) zc_86 rfl) rfl he6 rfl rfl ?_
      rcases zif_inv h with ⟨hc9, h⟩ | ⟨hc9, h⟩
      · refine y_cnd (pc' := 130) rfl rfl (zc_neF hc9) rfl ?_
        refine y_pure (pc' := 131) (st' := [.ref 64]) rfl rfl ?_
        refine y_pure (pc' := 132) (st' := [.int x2, .ref 64]) rfl rfl ?_
        refine y_pure (pc' := 133) (st' := [.ref 64, .int x2, .ref 64]) rfl rfl ?_
        refine y_getf (pc' := 136) (v := .ref 86) rfl rfl rfl zc_64 rfl rfl ?_
        refine y_getf (pc' := 139) (v := .ref 87) rfl rfl rfl zc_86 rfl rfl ?_
        refine y_pure (pc' := 140) (st' := [.int x2, .ref 87, .int x2, .ref 64]) rfl rfl ?_
        obtain ⟨hi10, h⟩ := zg_inv h
        refine y_iald (pc' := 141) rfl zc_87 hi10 rfl ?_
        refine y_pure (pc' := 142) (st' := [.ref 64, .int (M7.1 87 (Int32.toNatClampNeg x2)), .int x2, .ref 64]) rfl rfl ?_
        refine y_getf (pc' := 145) (v := .ref 105) rfl rfl rfl zc_64 rfl rfl ?_
        refine y_getf (pc' := 148) (v := .ref 106) rfl rfl rfl zc_105 rfl rfl ?_
        refine y_pure (pc' := 149) (st' := [.int x2, .ref 106, .int (M7.1 87 (Int32.toNatClampNeg x2)), .int x2, .ref 64]) rfl rfl ?_
        refine y_iald (pc' := 150) rfl zc_106 hi10 rfl ?_
        refine y_pure (pc' := 151) (st' := [.int (-1 : Int32), .int (M7.1 106 (Int32.toNatClampNeg x2)), .int (M7.1 87 (Int32.toNatClampNeg x2)), .int x2, .ref 64]) rfl rfl ?_
        refine y_pure (pc' := 152) (st' := [.int ((M7.1 106 (Int32.toNatClampNeg x2)) ^^^ (-1 : Int32)), .int (M7.1 87 (Int32.toNatClampNeg x2)), .int x2, .ref 64]) rfl rfl ?_
        refine y_pure (pc' := 153) (st' := [.int ((M7.1 87 (Int32.toNatClampNeg x2)) &&& ((M7.1 106 (Int32.toNatClampNeg x2)) ^^^ (-1 : Int32))), .int x2, .ref 64]) rfl rfl ?_
        obtain ⟨v13, M12, he11, h⟩ := zC1_inv h
        refine y_callV (pc' := 156) (y := zmC_solvableWith) (a' := [.int x2, .int ((M7.1 87 (Int32.toNatClampNeg x2)) &&& ((M7.1 106 (Int32.toNatClampNeg x2)) ^^^ (-1 : Int32)))]) (st' := []) rfl rfl rfl rfl rfl (zrecv_o (o := 9) zc_64 rfl) rfl he11 rfl rfl ?_
        rcases zif_inv h with ⟨hc14, h⟩ | ⟨hc14, h⟩
        · refine y_cnd (pc' := 159) rfl rfl (zc_neF hc14) rfl ?_
          refine y_pure (pc' := 160) (st' := [.int x1]) rfl rfl ?_
          rcases zif_inv h with ⟨hc15, h⟩ | ⟨hc15, h⟩
          · refine y_cnd (pc' := 163) rfl rfl (zc_neF hc15) rfl ?_
            refine y_pure (pc' := 164) (st' := [.int x2]) rfl rfl ?_
            refine y_pure (pc' := 175) rfl rfl ?_
            exact y_ret rfl rfl rfl rfl h
          · refine y_cnd (pc' := 167) rfl rfl (zc_neT hc15) rfl ?_
            refine y_pure (pc' := 168) (st' := [.ref 64]) rfl rfl ?_
            refine y_getf (pc' := 171) (v := .ref 105) rfl rfl rfl zc_64 rfl rfl ?_
            refine y_pure (pc' := 172) (st' := [.int x2, .ref 105]) rfl rfl ?_
            obtain ⟨v18, M17, he16, h⟩ := zC1_inv h
            refine y_callV (pc' := 175) (y := zmB_digitOf) (a' := [.int x2]) (st' := []) rfl rfl rfl rfl rfl (zrecv_o (o := 0) zc_105 rfl) rfl he16 rfl rfl ?_
            exact y_ret rfl rfl rfl rfl h
        · refine y_cnd (pc' := 176) rfl rfl (zc_neT hc14) rfl ?_
          refine y_pure (pc' := 179) (ls' := [(0, .ref 64), (1, .int x1), (2, .int (x2 + (nI 1)))]) (st' := []) rfl rfl ?_
          refine y_pure (pc' := 102) rfl rfl ?_
          refine zEx_sub ?_ h
          exact ⟨rfl, rfl, rfl, trivial⟩
      · refine y_cnd (pc' := 176) rfl rfl (zc_neT hc9) rfl ?_
        refine y_pure (pc' := 179) (ls' := [(0, .ref 64), (1, .int x1), (2, .int (x2 + (nI 1)))]) (st' := []) rfl rfl ?_
        refine y_pure (pc' := 102) rfl rfl ?_
        refine zEx_sub ?_ h
        exact ⟨rfl, rfl, rfl, trivial⟩
  · refine y_cmp (pc' := 182) rfl rfl (zc_geT hc1) rfl ?_
    refine y_pure (pc' := 184) (st' := [.int (-2 : Int32)]) rfl rfl ?_
    exact y_ret rfl rfl rfl rfl h
theorem e_C_hint {d : Nat} {x1 : Int32} {M : ZM} {r : ZR}  (h : zC1 (zEv d zmB_isTold [.ref 86] M) (fun v3 M2 => (if v3 = (nI 0) then some (some (.int (-1 : Int32)), M2) else (if x1 < (nI 0) then some (some (.int (-1 : Int32)), M2) else (if (nI 1) < x1 then some (some (.int (-1 : Int32)), M2) else zC1 (zEv d zmS_look [.ref 411, .ref 86, .ref 87, .int (nI 1)] M2) (fun v9 M8 => (if v9 = (nI 0) then some (some (.int (-2 : Int32)), M8) else zC0 (zEv d zmB_copyFrom [.ref 105, .ref 86] M8) (fun M12 => h_C_hint_59 d x1 (nI 0) M12))))))) = some r) : zEv (d + 1) zmC_hint [.ref 64, .int x1] M = some r := by
  rw [zEv_succ]
  show zEx0 (zEv d) zmC_hint (0, [(0, .ref 64), (1, .int x1)], [], M) = some r
  refine y_pure (pc' := 1) (st' := [.ref 64]) rfl rfl ?_
  refine y_getf (pc' := 4) (v := .ref 86) rfl rfl rfl zc_64 rfl rfl ?_
  obtain ⟨v3, M2, he1, h⟩ := zC1_inv h
  refine y_callV (pc' := 7) (y := zmB_isTold) (a' := []) (st' := []) rfl rfl rfl rfl rfl (zrecv_o (o := 0) zc_86 rfl) rfl he1 rfl rfl ?_
  rcases zif_inv h with ⟨hc4, h⟩ | ⟨hc4, h⟩
  · refine y_cnd (pc' := 19) rfl rfl (zc_eqT hc4) rfl ?_
    refine y_pure (pc' := 20) (st' := [.int (-1 : Int32)]) rfl rfl ?_
    exact y_ret rfl rfl rfl rfl h
  · refine y_cnd (pc' := 10) rfl rfl (zc_eqF hc4) rfl ?_
    refine y_pure (pc' := 11) (st' := [.int x1]) rfl rfl ?_
    rcases zif_inv h with ⟨hc5, h⟩ | ⟨hc5, h⟩
    · refine y_cnd (pc' := 19) rfl rfl (zc_ltT hc5) rfl ?_
      refine y_pure (pc' := 20) (st' := [.int (-1 : Int32)]) rfl rfl ?_
      exact y_ret rfl rfl rfl rfl h
    · refine y_cnd (pc' := 14) rfl rfl (zc_ltF hc5) rfl ?_
      refine y_pure (pc' := 15) (st' := [.int x1]) rfl rfl ?_
      refine y_pure (pc' := 16) (st' := [.int (nI 1), .int x1]) rfl rfl ?_
      rcases zif_inv h with ⟨hc6, h⟩ | ⟨hc6, h⟩
      · refine y_cmp (pc' := 19) rfl rfl (zc_leF hc6) rfl ?_
        refine y_pure (pc' := 20) (st' := [.int (-1 : Int32)]) rfl rfl ?_
        exact y_ret rfl rfl rfl rfl h
      · refine y_cmp (pc' := 21) rfl rfl (zc_leT hc6) rfl ?_
        refine y_pure (pc' := 22) (st' := [.ref 64]) rfl rfl ?_
        refine y_getf (pc' := 25) (v := .ref 411) rfl rfl rfl zc_64 rfl rfl ?_
        refine y_pure (pc' := 26) (st' := [.ref 64, .ref 411]) rfl rfl ?_
        refine y_getf (pc' := 29) (v := .ref 86) rfl rfl rfl zc_64 rfl rfl ?_
        refine y_pure (pc' := 30) (st' := [.ref 64, .ref 86, .ref 411]) rfl rfl ?_
        refine y_getf (pc' := 33) (v := .ref 86) rfl rfl rfl zc_64 rfl rfl ?_
        refine y_getf (pc' := 36) (v := .ref 87) rfl rfl rfl zc_86 rfl rfl ?_
        refine y_pure (pc' := 37) (st' := [.int (nI 1), .ref 87, .ref 86, .ref 411]) rfl rfl ?_
        obtain ⟨v9, M8, he7, h⟩ := zC1_inv h
        refine y_callV (pc' := 40) (y := zmS_look) (a' := [.ref 86, .ref 87, .int (nI 1)]) (st' := []) rfl rfl rfl rfl rfl (zrecv_o (o := 5) zc_411 rfl) rfl he7 rfl rfl ?_
        rcases zif_inv h with ⟨hc10, h⟩ | ⟨hc10, h⟩
        · refine y_cnd (pc' := 43) rfl rfl (zc_neF hc10) rfl ?_
          refine y_pure (pc' := 45) (st' := [.int (-2 : Int32)]) rfl rfl ?_
          exact y_ret rfl rfl rfl rfl h
        · refine y_cnd (pc' := 46) rfl rfl (zc_neT hc10) rfl ?_
          refine y_pure (pc' := 47) (st' := [.ref 64]) rfl rfl ?_
          refine y_getf (pc' := 50) (v := .ref 105) rfl rfl rfl zc_64 rfl rfl ?_
          refine y_pure (pc' := 51) (st' := [.ref 64, .ref 105]) rfl rfl ?_
          refine y_getf (pc' := 54) (v := .ref 86) rfl rfl rfl zc_64 rfl rfl ?_
          obtain ⟨M12, he11, h⟩ := zC0_inv h
          refine y_callV (pc' := 57) (y := zmB_copyFrom) (a' := [.ref 86]) (st' := []) rfl rfl rfl rfl rfl (zrecv_o (o := 0) zc_105 rfl) rfl he11 rfl rfl ?_
          refine y_pure (pc' := 58) (st' := [.int (nI 0)]) rfl rfl ?_
          refine y_pure (pc' := 59) (ls' := [(0, .ref 64), (1, .int x1), (2, .int (nI 0))]) (st' := []) rfl rfl ?_
          refine zEx_sub ?_ h
          exact ⟨rfl, rfl, rfl, trivial⟩
noncomputable def h_C_wrong_64 (d : Nat) (x1 : Int32) (x2 : Int32) (x3 : Int32) (x4 : Int32) (M : ZM) : Option ZR := zEx0 (zEv d) zmC_wrong (64, [(0, .ref 64), (1, .int x1), (2, .int x2), (3, .int x3), (4, .int x4)], [], M)
theorem e_C_wrong_64 {d : Nat} {x1 : Int32} {x2 : Int32} {x3 : Int32} {x4 : Int32} {M : ZM} {r : ZR}  (h : zC1 (zEv d zmS_places [.ref 411] M) (fun v3 M2 => (if x4 < v3 then zC1 (zEv d zmS_cellAt [.ref 411, .int x4] M2) (fun v7 M6 => zC1 (zEv d zmS_digitAt [.ref 411, .int (nI 0), .int x4] M6) (fun v10 M9 => zC1 (zEv d zmB_hasMark [.ref 86, .int v7, .int v10] M9) (fun v13 M12 => (if v13 = (nI 0) then (if x3 = (-2 : Int32) then h_C_wrong_64 d x1 (x2 + (nI 1)) v7 (x4 + (nI 1)) M12 else h_C_wrong_64 d x1 (x2 + (nI 1)) x3 (x4 + (nI 1)) M12) else h_C_wrong_64 d x1 x2 x3 (x4 + (nI 1)) M12)))) else (if x1 = (nI 0) then some (some (.int x2), M2) else some (some (.int x3), M2)))) = some r) : h_C_wrong_64 d x1 x2 x3 x4 M = some r := by
  show zEx0 (zEv d) zmC_wrong (64, [(0, .ref 64), (1, .int x1), (2, .int x2), (3, .int x3), (4, .int x4)], [], M) = some r
  refine y_pure (pc' := 66) (st' := [.int x4]) rfl rfl ?_
  refine y_pure (pc' := 67) (st' := [.ref 64, .int x4]) rfl rfl ?_
  refine y_getf (pc' := 70) (v := .ref 411) rfl rfl rfl zc_64 rfl rfl ?_
  obtain ⟨v3, M2, he1, h⟩ := zC1_inv h
  refine y_callV (pc' := 73) (y := zmS_places) (a' := []) (st' := [.int x4]) rfl rfl rfl rfl rfl (zrecv_o (o := 5) zc_411 rfl) rfl he1 rfl rfl ?_
  rcases zif_inv h with ⟨hc4, h⟩ | ⟨hc4, h⟩
  · refine y_cmp (pc' := 76) rfl rfl (zc_geF hc4) rfl ?_
    refine y_pure (pc' := 77) (st' := [.ref 64]) rfl rfl ?_
    refine y_getf (pc' := 80) (v := .ref 411) rfl rfl rfl zc_64 rfl rfl ?_
    refine y_pure (pc' := 82) (st' := [.int x4, .ref 411]) rfl rfl ?_
    obtain ⟨v7, M6, he5, h⟩ := zC1_inv h
    refine y_callV (pc' := 85) (y := zmS_cellAt) (a' := [.int x4]) (st' := []) rfl rfl rfl rfl rfl (zrecv_o (o := 5) zc_411 rfl) rfl he5 rfl rfl ?_
    refine y_pure (pc' := 87) (ls' := [(0, .ref 64), (1, .int x1), (2, .int x2), (3, .int x3), (4, .int x4), (5, .int v7)]) (st' := []) rfl rfl ?_
    refine y_pure (pc' := 88) (st' := [.ref 64]) rfl rfl ?_
    refine y_getf (pc' := 91) (v := .ref 86) rfl rfl rfl zc_64 rfl rfl ?_
    refine y_pure (pc' := 93) (st' := [.int v7, .ref 86]) rfl rfl ?_
    refine y_pure (pc' := 94) (st' := [.ref 64, .int v7, .ref 86]) rfl rfl ?_
    refine y_getf (pc' := 97) (v := .ref 411) rfl rfl rfl zc_64 rfl rfl ?_
    refine y_pure (pc' := 98) (st' := [.int (nI 0), .ref 411, .int v7, .ref 86]) rfl rfl ?_
    refine y_pure (pc' := 100) (st' := [.int x4, .int (nI 0), .ref 411, .int v7, .ref 86]) rfl rfl ?_
    obtain ⟨v10, M9, he8, h⟩ := zC1_inv h
    refine y_callV (pc' := 103) (y := zmS_digitAt) (a' := [.int (nI 0), .int x4]) (st' := [.int v7, .ref 86]) rfl rfl rfl rfl rfl (zrecv_o (o := 5) zc_411 rfl) rfl he8 rfl rfl ?_
    obtain ⟨v13, M12, he11, h⟩ := zC1_inv h
    refine y_callV (pc' := 106) (y := zmB_hasMark) (a' := [.int v7, .int v10]) (st' := []) rfl rfl rfl rfl rfl (zrecv_o (o := 0) zc_86 rfl) rfl he11 rfl rfl ?_
    rcases zif_inv h with ⟨hc14, h⟩ | ⟨hc14, h⟩
    · refine y_cnd (pc' := 109) rfl rfl (zc_neF hc14) rfl ?_
      refine y_pure (pc' := 112) (ls' := [(0, .ref 64), (1, .int x1), (2, .int (x2 + (nI 1))), (3, .int x3), (4, .int x4), (5, .int v7)]) (st' := []) rfl rfl ?_
      refine y_pure (pc' := 113) (st' := [.int x3]) rfl rfl ?_
      refine y_pure (pc' := 115) (st' := [.int (-2 : Int32), .int x3]) rfl rfl ?_
      rcases zif_inv h with ⟨hc15, h⟩ | ⟨hc15, h⟩
      · refine y_cmp (pc' := 118) rfl rfl (zc_neF hc15) rfl ?_
        refine y_pure (pc' := 120) (st' := [.int v7]) rfl rfl ?_
        refine y_pure (pc' := 124) rfl rfl ?_
        refine y_pure (pc' := 125) (ls' := [(0, .ref 64), (1, .int x1), (2, .int (x2 + (nI 1))), (3, .int v7), (4, .int x4), (5, .int v7)]) (st' := []) rfl rfl ?_
        refine y_pure (pc' := 128) (ls' := [(0, .ref 64), (1, .int x1), (2, .int (x2 + (nI 1))), (3, .int v7), (4, .int (x4 + (nI 1))), (5, .int v7)]) (st' := []) rfl rfl ?_
        refine y_pure (pc' := 64) rfl rfl ?_
        refine zEx_sub ?_ h
        exact ⟨rfl, rfl, rfl, rfl, rfl, trivial⟩
      · refine y_cmp (pc' := 123) rfl rfl (zc_neT hc15) rfl ?_
        refine y_pure (pc' := 124) (st' := [.int x3]) rfl rfl ?_
        refine y_pure (pc' := 125) (ls' := [(0, .ref 64), (1, .int x1), (2, .int (x2 + (nI 1))), (3, .int x3), (4, .int x4), (5, .int v7)]) (st' := []) rfl rfl ?_
        refine y_pure (pc' := 128) (ls' := [(0, .ref 64), (1, .int x1), (2, .int (x2 + (nI 1))), (3, .int x3), (4, .int (x4 + (nI 1))), (5, .int v7)]) (st' := []) rfl rfl ?_
        refine y_pure (pc' := 64) rfl rfl ?_
        refine zEx_sub ?_ h
        exact ⟨rfl, rfl, rfl, rfl, rfl, trivial⟩
    · refine y_cnd (pc' := 125) rfl rfl (zc_neT hc14) rfl ?_
      refine y_pure (pc' := 128) (ls' := [(0, .ref 64), (1, .int x1), (2, .int x2), (3, .int x3), (4, .int (x4 + (nI 1))), (5, .int v7)]) (st' := []) rfl rfl ?_
      refine y_pure (pc' := 64) rfl rfl ?_
      refine zEx_sub ?_ h
      exact ⟨rfl, rfl, rfl, rfl, rfl, trivial⟩
  · refine y_cmp (pc' := 131) rfl rfl (zc_geT hc4) rfl ?_
    refine y_pure (pc' := 132) (st' := [.int x1]) rfl rfl ?_
    rcases zif_inv h with ⟨hc16, h⟩ | ⟨hc16, h⟩
    · refine y_cnd (pc' := 135) rfl rfl (zc_neF hc16) rfl ?_
      refine y_pure (pc' := 136) (st' := [.int x2]) rfl rfl ?_
      refine y_pure (pc' := 140) rfl rfl ?_
      exact y_ret rfl rfl rfl rfl h
    · refine y_cnd (pc' := 139) rfl rfl (zc_neT hc16) rfl ?_
      refine y_pure (pc' := 140) (st' := [.int x3]) rfl rfl ?_
      exact y_ret rfl rfl rfl rfl h
theorem e_C_wrong {d : Nat} {x1 : Int32} {M : ZM} {r : ZR}  (h : zC1 (zEv d zmB_isTold [.ref 86] M) (fun v3 M2 => (if v3 = (nI 0) then some (some (.int (-1 : Int32)), M2) else (if x1 < (nI 0) then some (some (.int (-1 : Int32)), M2) else (if (nI 1) < x1 then some (some (.int (-1 : Int32)), M2) else zC0 (zEv d zmB_marksByGiven [.ref 86, .ref 126, .int (-1 : Int32)] M2) (fun M8 => zC1 (zEv d zmS_look [.ref 411, .ref 86, .ref 126, .int (nI 2)] M8) (fun v11 M10 => (if v11 = (nI 1) then h_C_wrong_64 d x1 (nI 0) (-2 : Int32) (nI 0) M10 else some (some (.int (-2 : Int32)), M10)))))))) = some r) : zEv (d + 1) zmC_wrong [.ref 64, .int x1] M = some r := by
  rw [zEv_succ]
  show zEx0 (zEv d) zmC_wrong (0, [(0, .ref 64), (1, .int x1)], [], M) = some r
  refine y_pure (pc' := 1) (st' := [.ref 64]) rfl rfl ?_
  refine y_getf (pc' := 4) (v := .ref 86) rfl rfl rfl zc_64 rfl rfl ?_
  obtain ⟨v3, M2, he1, h⟩ := zC1_inv h
  refine y_callV (pc' := 7) (y := zmB_isTold) (a' := []) (st' := []) rfl rfl rfl rfl rfl (zrecv_o (o := 0) zc_86 rfl) rfl he1 rfl rfl ?_
  rcases zif_inv h with ⟨hc4, h⟩ | ⟨hc4, h⟩
  · refine y_cnd (pc' := 19) rfl rfl (zc_eqT hc4) rfl ?_
    refine y_pure (pc' := 20) (st' := [.int (-1 : Int32)]) rfl rfl ?_
    exact y_ret rfl rfl rfl rfl h
  · refine y_cnd (pc' := 10) rfl rfl (zc_eqF hc4) rfl ?_
    refine y_pure (pc' := 11) (st' := [.int x1]) rfl rfl ?_
    rcases zif_inv h with ⟨hc5, h⟩ | ⟨hc5, h⟩
    · refine y_cnd (pc' := 19) rfl rfl (zc_ltT hc5) rfl ?_
      refine y_pure (pc' := 20) (st' := [.int (-1 : Int32)]) rfl rfl ?_
      exact y_ret rfl rfl rfl rfl h
    · refine y_cnd (pc' := 14) rfl rfl (zc_ltF hc5) rfl ?_
      refine y_pure (pc' := 15) (st' := [.int x1]) rfl rfl ?_
      refine y_pure (pc' := 16) (st' := [.int (nI 1), .int x1]) rfl rfl ?_
      rcases zif_inv h with ⟨hc6, h⟩ | ⟨hc6, h⟩
      · refine y_cmp (pc' := 19) rfl rfl (zc_leF hc6) rfl ?_
        refine y_pure (pc' := 20) (st' := [.int (-1 : Int32)]) rfl rfl ?_
        exact y_ret rfl rfl rfl rfl h
      · refine y_cmp (pc' := 21) rfl rfl (zc_leT hc6) rfl ?_
        refine y_pure (pc' := 22) (st' := [.ref 64]) rfl rfl ?_
        refine y_getf (pc' := 25) (v := .ref 86) rfl rfl rfl zc_64 rfl rfl ?_
        refine y_pure (pc' := 26) (st' := [.ref 64, .ref 86]) rfl rfl ?_
        refine y_getf (pc' := 29) (v := .ref 126) rfl rfl rfl zc_64 rfl rfl ?_
        refine y_pure (pc' := 30) (st' := [.int (-1 : Int32), .ref 126, .ref 86]) rfl rfl ?_
        obtain ⟨M8, he7, h⟩ := zC0_inv h
        refine y_callV (pc' := 33) (y := zmB_marksByGiven) (a' := [.ref 126, .int (-1 : Int32)]) (st' := []) rfl rfl rfl rfl rfl (zrecv_o (o := 0) zc_86 rfl) rfl he7 rfl rfl ?_
        refine y_pure (pc' := 34) (st' := [.ref 64]) rfl rfl ?_
        refine y_getf (pc' := 37) (v := .ref 411) rfl rfl rfl zc_64 rfl rfl ?_
        refine y_pure (pc' := 38) (st' := [.ref 64, .ref 411]) rfl rfl ?_
        refine y_getf (pc' := 41) (v := .ref 86) rfl rfl rfl zc_64 rfl rfl ?_
        refine y_pure (pc' := 42) (st' := [.ref 64, .ref 86, .ref 411]) rfl rfl ?_
        refine y_getf (pc' := 45) (v := .ref 126) rfl rfl rfl zc_64 rfl rfl ?_
        refine y_pure (pc' := 46) (st' := [.int (nI 2), .ref 126, .ref 86, .ref 411]) rfl rfl ?_
        obtain ⟨v11, M10, he9, h⟩ := zC1_inv h
        refine y_callV (pc' := 49) (y := zmS_look) (a' := [.ref 86, .ref 126, .int (nI 2)]) (st' := []) rfl rfl rfl rfl rfl (zrecv_o (o := 5) zc_411 rfl) rfl he9 rfl rfl ?_
        refine y_pure (pc' := 50) (st' := [.int (nI 1), .int v11]) rfl rfl ?_
        rcases zif_inv h with ⟨hc12, h⟩ | ⟨hc12, h⟩
        · refine y_cmp (pc' := 56) rfl rfl (zc_eqT hc12) rfl ?_
          refine y_pure (pc' := 57) (st' := [.int (nI 0)]) rfl rfl ?_
          refine y_pure (pc' := 58) (ls' := [(0, .ref 64), (1, .int x1), (2, .int (nI 0))]) (st' := []) rfl rfl ?_
          refine y_pure (pc' := 60) (st' := [.int (-2 : Int32)]) rfl rfl ?_
          refine y_pure (pc' := 61) (ls' := [(0, .ref 64), (1, .int x1), (2, .int (nI 0)), (3, .int (-2 : Int32))]) (st' := []) rfl rfl ?_
          refine y_pure (pc' := 62) (st' := [.int (nI 0)]) rfl rfl ?_
          refine y_pure (pc' := 64) (ls' := [(0, .ref 64), (1, .int x1), (2, .int (nI 0)), (3, .int (-2 : Int32)), (4, .int (nI 0))]) (st' := []) rfl rfl ?_
          refine zEx_sub ?_ h
          exact ⟨rfl, rfl, rfl, rfl, rfl, trivial⟩
        · refine y_cmp (pc' := 53) rfl rfl (zc_eqF hc12) rfl ?_
          refine y_pure (pc' := 55) (st' := [.int (-2 : Int32)]) rfl rfl ?_
          exact y_ret rfl rfl rfl rfl h
noncomputable def h_C_idle_18 (d : Nat) (x1 : Int64) (x3 : Int32) (M : ZM) : Option ZR := zEx0 (zEv d) zmC_idle (18, [(0, .ref 64), (1, .long x1), (3, .int x3)], [], M)
theorem e_C_idle_18 {d : Nat} {x1 : Int64} {x3 : Int32} {M : ZM} {r : ZR}  (h : (if x3 < (nI 36) then zC1 (zEv d zmB_isGiven [.ref 86, .int x3] M) (fun v4 M3 => (if v4 = (nI 0) then h_C_idle_18 d x1 (x3 + (nI 1)) M3 else zC0 (zEv d zmB_marksByGiven [.ref 86, .ref 126, .int x3] M3) (fun M7 => zC1 (zEv d zmS_look [.ref 411, .ref 86, .ref 126, .int (nI 2)] M7) (fun v10 M9 => (if v10 = (nI 1) then h_C_idle_18 d (x1 ||| ((nJ 1) <<< (Int32.toInt64 x3 &&& 63))) (x3 + (nI 1)) M9 else h_C_idle_18 d x1 (x3 + (nI 1)) M9))))) else some (some (.long x1), M)) = some r) : h_C_idle_18 d x1 x3 M = some r := by
  show zEx0 (zEv d) zmC_idle (18, [(0, .ref 64), (1, .long x1), (3, .int x3)], [], M) = some r
  refine y_pure (pc' := 19) (st' := [.int x3]) rfl rfl ?_
  refine y_pure (pc' := 21) (st' := [.int (nI 36), .int x3]) rfl rfl ?_
  rcases zif_inv h with ⟨hc1, h⟩ | ⟨hc1, h⟩
  · refine y_cmp (pc' := 24) rfl rfl (zc_geF hc1) rfl ?_
    refine y_pure (pc' := 25) (st' := [.ref 64]) rfl rfl ?_
    refine y_getf (pc' := 28) (v := .ref 86) rfl rfl rfl zc_64 rfl rfl ?_
    refine y_pure (pc' := 29) (st' := [.int x3, .ref 86]) rfl rfl ?_
    obtain ⟨v4, M3, he2, h⟩ := zC1_inv h
    refine y_callV (pc' := 32) (y := zmB_isGiven) (a' := [.int x3]) (st' := []) rfl rfl rfl rfl rfl (zrecv_o (o := 0) zc_86 rfl) rfl he2 rfl rfl ?_
    rcases zif_inv h with ⟨hc5, h⟩ | ⟨hc5, h⟩
    · refine y_cnd (pc' := 73) rfl rfl (zc_eqT hc5) rfl ?_
      refine y_pure (pc' := 76) (ls' := [(0, .ref 64), (1, .long x1), (3, .int (x3 + (nI 1)))]) (st' := []) rfl rfl ?_
      refine y_pure (pc' := 18) rfl rfl ?_
      refine zEx_sub ?_ h
      exact ⟨rfl, rfl, rfl, trivial⟩
    · refine y_cnd (pc' := 35) rfl rfl (zc_eqF hc5) rfl ?_
      refine y_pure (pc' := 36) (st' := [.ref 64]) rfl rfl ?_
      refine y_getf (pc' := 39) (v := .ref 86) rfl rfl rfl zc_64 rfl rfl ?_
      refine y_pure (pc' := 40) (st' := [.ref 64, .ref 86]) rfl rfl ?_
      refine y_getf (pc' := 43) (v := .ref 126) rfl rfl rfl zc_64 rfl rfl ?_
      refine y_pure (pc' := 44) (st' := [.int x3, .ref 126, .ref 86]) rfl rfl ?_
      obtain ⟨M7, he6, h⟩ := zC0_inv h
      refine y_callV (pc' := 47) (y := zmB_marksByGiven) (a' := [.ref 126, .int x3]) (st' := []) rfl rfl rfl rfl rfl (zrecv_o (o := 0) zc_86 rfl) rfl he6 rfl rfl ?_
      refine y_pure (pc' := 48) (st' := [.ref 64]) rfl rfl ?_
      refine y_getf (pc' := 51) (v := .ref 411) rfl rfl rfl zc_64 rfl rfl ?_
      refine y_pure (pc' := 52) (st' := [.ref 64, .ref 411]) rfl rfl ?_
      refine y_getf (pc' := 55) (v := .ref 86) rfl rfl rfl zc_64 rfl rfl ?_
      refine y_pure (pc' := 56) (st' := [.ref 64, .ref 86, .ref 411]) rfl rfl ?_
      refine y_getf (pc' := 59) (v := .ref 126) rfl rfl rfl zc_64 rfl rfl ?_
      refine y_pure (pc' := 60) (st' := [.int (nI 2), .ref 126, .ref 86, .ref 411]) rfl rfl ?_
      obtain ⟨v10, M9, he8, h⟩ := zC1_inv h
      refine y_callV (pc' := 63) (y := zmS_look) (a' := [.ref 86, .ref 126, .int (nI 2)]) (st' := []) rfl rfl rfl rfl rfl (zrecv_o (o := 5) zc_411 rfl) rfl he8 rfl rfl ?_
      refine y_pure (pc' := 64) (st' := [.int (nI 1), .int v10]) rfl rfl ?_
      rcases zif_inv h with ⟨hc11, h⟩ | ⟨hc11, h⟩
      · refine y_cmp (pc' := 67) rfl rfl (zc_neF hc11) rfl ?_
        refine y_pure (pc' := 68) (st' := [.long x1]) rfl rfl ?_
        refine y_pure (pc' := 69) (st' := [.long (nJ 1), .long x1]) rfl rfl ?_
        refine y_pure (pc' := 70) (st' := [.int x3, .long (nJ 1), .long x1]) rfl rfl ?_
        refine y_pure (pc' := 71) (st' := [.long ((nJ 1) <<< (Int32.toInt64 x3 &&& 63)), .long x1]) rfl rfl ?_
        refine y_pure (pc' := 72) (st' := [.long (x1 ||| ((nJ 1) <<< (Int32.toInt64 x3 &&& 63)))]) rfl rfl ?_
        refine y_pure (pc' := 73) (ls' := [(0, .ref 64), (1, .long (x1 ||| ((nJ 1) <<< (Int32.toInt64 x3 &&& 63)))), (3, .int x3)]) (st' := []) rfl rfl ?_
        refine y_pure (pc' := 76) (ls' := [(0, .ref 64), (1, .long (x1 ||| ((nJ 1) <<< (Int32.toInt64 x3 &&& 63)))), (3, .int (x3 + (nI 1)))]) (st' := []) rfl rfl ?_
        refine y_pure (pc' := 18) rfl rfl ?_
        refine zEx_sub ?_ h
        exact ⟨rfl, rfl, rfl, trivial⟩
      · refine y_cmp (pc' := 73) rfl rfl (zc_neT hc11) rfl ?_
        refine y_pure (pc' := 76) (ls' := [(0, .ref 64), (1, .long x1), (3, .int (x3 + (nI 1)))]) (st' := []) rfl rfl ?_
        refine y_pure (pc' := 18) rfl rfl ?_
        refine zEx_sub ?_ h
        exact ⟨rfl, rfl, rfl, trivial⟩
  · refine y_cmp (pc' := 79) rfl rfl (zc_geT hc1) rfl ?_
    refine y_pure (pc' := 80) (st' := [.long x1]) rfl rfl ?_
    exact y_ret rfl rfl rfl rfl h
theorem e_C_idle {d : Nat}  {M : ZM} {r : ZR}  (h : zC1 (zEv d zmB_isTold [.ref 86] M) (fun v3 M2 => (if v3 = (nI 0) then some (some (.long (-1 : Int64)), M2) else h_C_idle_18 d (nJ 0) (nI 0) M2)) = some r) : zEv (d + 1) zmC_idle [.ref 64] M = some r := by
  rw [zEv_succ]
  show zEx0 (zEv d) zmC_idle (0, [(0, .ref 64)], [], M) = some r
  refine y_pure (pc' := 1) (st' := [.ref 64]) rfl rfl ?_
  refine y_getf (pc' := 4) (v := .ref 86) rfl rfl rfl zc_64 rfl rfl ?_
  obtain ⟨v3, M2, he1, h⟩ := zC1_inv h
  refine y_callV (pc' := 7) (y := zmB_isTold) (a' := []) (st' := []) rfl rfl rfl rfl rfl (zrecv_o (o := 0) zc_86 rfl) rfl he1 rfl rfl ?_
  rcases zif_inv h with ⟨hc4, h⟩ | ⟨hc4, h⟩
  · refine y_cnd (pc' := 10) rfl rfl (zc_neF hc4) rfl ?_
    refine y_pure (pc' := 13) (st' := [.long (-1 : Int64)]) rfl rfl ?_
    exact y_ret rfl rfl rfl rfl h
  · refine y_cnd (pc' := 14) rfl rfl (zc_neT hc4) rfl ?_
    refine y_pure (pc' := 15) (st' := [.long (nJ 0)]) rfl rfl ?_
    refine y_pure (pc' := 16) (ls' := [(0, .ref 64), (1, .long (nJ 0))]) (st' := []) rfl rfl ?_
    refine y_pure (pc' := 17) (st' := [.int (nI 0)]) rfl rfl ?_
    refine y_pure (pc' := 18) (ls' := [(0, .ref 64), (1, .long (nJ 0)), (3, .int (nI 0))]) (st' := []) rfl rfl ?_
    refine zEx_sub ?_ h
    exact ⟨rfl, rfl, rfl, trivial⟩
theorem e_C_shared {d : Nat} {x1 : Int32} {x2 : Int32} {M : ZM} {r : ZR}  (h : zC1 (zEv d zmB_isCage [.ref 86, .int x1] M) (fun v3 M2 => (if v3 = (nI 0) then some (some (.long (-1 : Int64)), M2) else zC1 (zEv d zmB_isCage [.ref 86, .int x2] M2) (fun v7 M6 => (if v7 = (nI 0) then some (some (.long (-1 : Int64)), M6) else (if x1 = x2 then some (some (.long (-1 : Int64)), M6) else (if zin x1 12 = true then (if zin x2 12 = true then some (some (.long ((M6.2 91 (Int32.toNatClampNeg x1)) &&& (M6.2 91 (Int32.toNatClampNeg x2)))), M6) else none) else none)))))) = some r) : zEv (d + 1) zmC_shared [.ref 64, .int x1, .int x2] M = some r := by
  rw [zEv_succ]
  show zEx0 (zEv d) zmC_shared (0, [(0, .ref 64), (1, .int x1), (2, .int x2)], [], M) = some r
  refine y_pure (pc' := 1) (st' := [.ref 64]) rfl rfl ?_
  refine y_getf (pc' := 4) (v := .ref 86) rfl rfl rfl zc_64 rfl rfl ?_
  refine y_pure (pc' := 5) (st' := [.int x1, .ref 86]) rfl rfl ?_
  obtain ⟨v3, M2, he1, h⟩ := zC1_inv h
  refine y_callV (pc' := 8) (y := zmB_isCage) (a' := [.int x1]) (st' := []) rfl rfl rfl rfl rfl (zrecv_o (o := 0) zc_86 rfl) rfl he1 rfl rfl ?_
  rcases zif_inv h with ⟨hc4, h⟩ | ⟨hc4, h⟩
  · refine y_cnd (pc' := 27) rfl rfl (zc_eqT hc4) rfl ?_
    refine y_pure (pc' := 30) (st' := [.long (-1 : Int64)]) rfl rfl ?_
    exact y_ret rfl rfl rfl rfl h
  · refine y_cnd (pc' := 11) rfl rfl (zc_eqF hc4) rfl ?_
    refine y_pure (pc' := 12) (st' := [.ref 64]) rfl rfl ?_
    refine y_getf (pc' := 15) (v := .ref 86) rfl rfl rfl zc_64 rfl rfl ?_
    refine y_pure (pc' := 16) (st' := [.int x2, .ref 86]) rfl rfl ?_
    obtain ⟨v7, M6, he5, h⟩ := zC1_inv h
    refine y_callV (pc' := 19) (y := zmB_isCage) (a' := [.int x2]) (st' := []) rfl rfl rfl rfl rfl (zrecv_o (o := 0) zc_86 rfl) rfl he5 rfl rfl ?_
    rcases zif_inv h with ⟨hc8, h⟩ | ⟨hc8, h⟩
    · refine y_cnd (pc' := 27) rfl rfl (zc_eqT hc8) rfl ?_
      refine y_pure (pc' := 30) (st' := [.long (-1 : Int64)]) rfl rfl ?_
      exact y_ret rfl rfl rfl rfl h
    · refine y_cnd (pc' := 22) rfl rfl (zc_eqF hc8) rfl ?_
      refine y_pure (pc' := 23) (st' := [.int x1]) rfl rfl ?_
      refine y_pure (pc' := 24) (st' := [.int x2, .int x1]) rfl rfl ?_
      rcases zif_inv h with ⟨hc9, h⟩ | ⟨hc9, h⟩
      · refine y_cmp (pc' := 27) rfl rfl (zc_neF hc9) rfl ?_
        refine y_pure (pc' := 30) (st' := [.long (-1 : Int64)]) rfl rfl ?_
        exact y_ret rfl rfl rfl rfl h
      · refine y_cmp (pc' := 31) rfl rfl (zc_neT hc9) rfl ?_
        refine y_pure (pc' := 32) (st' := [.ref 64]) rfl rfl ?_
        refine y_getf (pc' := 35) (v := .ref 86) rfl rfl rfl zc_64 rfl rfl ?_
        refine y_getf (pc' := 38) (v := .ref 91) rfl rfl rfl zc_86 rfl rfl ?_
        refine y_pure (pc' := 39) (st' := [.int x1, .ref 91]) rfl rfl ?_
        obtain ⟨hi10, h⟩ := zg_inv h
        refine y_lald (pc' := 40) rfl zc_91 hi10 rfl ?_
        refine y_pure (pc' := 41) (st' := [.ref 64, .long (M6.2 91 (Int32.toNatClampNeg x1))]) rfl rfl ?_
        refine y_getf (pc' := 44) (v := .ref 86) rfl rfl rfl zc_64 rfl rfl ?_
        refine y_getf (pc' := 47) (v := .ref 91) rfl rfl rfl zc_86 rfl rfl ?_
        refine y_pure (pc' := 48) (st' := [.int x2, .ref 91, .long (M6.2 91 (Int32.toNatClampNeg x1))]) rfl rfl ?_
        obtain ⟨hi11, h⟩ := zg_inv h
        refine y_lald (pc' := 49) rfl zc_91 hi11 rfl ?_
        refine y_pure (pc' := 50) (st' := [.long ((M6.2 91 (Int32.toNatClampNeg x1)) &&& (M6.2 91 (Int32.toNatClampNeg x2)))]) rfl rfl ?_
        exact y_ret rfl rfl rfl rfl h
noncomputable def h_C_combos_38 (d : Nat) (x1 : Int32) (x2 : Int32) (x3 : Int32) (x4 : Int32) (x5 : Int32) (M : ZM) : Option ZR := zEx0 (zEv d) zmC_combos (38, [(0, .ref 64), (1, .int x1), (2, .int x2), (3, .int x3), (4, .int x4), (5, .int x5)], [], M)
theorem e_C_combos_38 {d : Nat} {x1 : Int32} {x2 : Int32} {x3 : Int32} {x4 : Int32} {x5 : Int32} {M : ZM} {r : ZR}  (h : zC1 (zEv d zmB_allDigits [.ref 86] M) (fun v3 M2 => (if v3 < x5 then some (some (.int x4), M2) else zC1 (zEv d zmJI_bitCount [.int x5] M2) (fun v7 M6 => (if v7 = x2 then zC1 (zEv d zmC_totalOfSet [.int x1, .int x5] M6) (fun v11 M10 => (if v11 = x3 then h_C_combos_38 d x1 x2 x3 (x4 + (nI 1)) (x5 + (nI 2)) M10 else h_C_combos_38 d x1 x2 x3 x4 (x5 + (nI 2)) M10)) else h_C_combos_38 d x1 x2 x3 x4 (x5 + (nI 2)) M6)))) = some r) : h_C_combos_38 d x1 x2 x3 x4 x5 M = some r := by
  show zEx0 (zEv d) zmC_combos (38, [(0, .ref 64), (1, .int x1), (2, .int x2), (3, .int x3), (4, .int x4), (5, .int x5)], [], M) = some r
  refine y_pure (pc' := 40) (st' := [.int x5]) rfl rfl ?_
  refine y_pure (pc' := 41) (st' := [.ref 64, .int x5]) rfl rfl ?_
  refine y_getf (pc' := 44) (v := .ref 86) rfl rfl rfl zc_64 rfl rfl ?_
  obtain ⟨v3, M2, he1, h⟩ := zC1_inv h
  refine y_callV (pc' := 47) (y := zmB_allDigits) (a' := []) (st' := [.int x5]) rfl rfl rfl rfl rfl (zrecv_o (o := 0) zc_86 rfl) rfl he1 rfl rfl ?_
  rcases zif_inv h with ⟨hc4, h⟩ | ⟨hc4, h⟩
  · refine y_cmp (pc' := 78) rfl rfl (zc_gtT hc4) rfl ?_
    refine y_pure (pc' := 80) (st' := [.int x4]) rfl rfl ?_
    exact y_ret rfl rfl rfl rfl h
  · refine y_cmp (pc' := 50) rfl rfl (zc_gtF hc4) rfl ?_
    refine y_pure (pc' := 52) (st' := [.int x5]) rfl rfl ?_
    obtain ⟨v7, M6, he5, h⟩ := zC1_inv h
    refine y_callS (pc' := 55) (y := zmJI_bitCount) (a := [.int x5]) (st' := []) rfl rfl rfl rfl rfl rfl he5 rfl rfl ?_
    refine y_pure (pc' := 56) (st' := [.int x2, .int v7]) rfl rfl ?_
    rcases zif_inv h with ⟨hc8, h⟩ | ⟨hc8, h⟩
    · refine y_cmp (pc' := 59) rfl rfl (zc_neF hc8) rfl ?_
      refine y_pure (pc' := 60) (st' := [.int x1]) rfl rfl ?_
      refine y_pure (pc' := 62) (st' := [.int x5, .int x1]) rfl rfl ?_
      obtain ⟨v11, M10, he9, h⟩ := zC1_inv h
      refine y_callS (pc' := 65) (y := zmC_totalOfSet) (a := [.int x1, .int x5]) (st' := []) rfl rfl rfl rfl rfl rfl he9 rfl rfl ?_
      refine y_pure (pc' := 66) (st' := [.int x3, .int v11]) rfl rfl ?_
      rcases zif_inv h with ⟨hc12, h⟩ | ⟨hc12, h⟩
      · refine y_cmp (pc' := 69) rfl rfl (zc_neF hc12) rfl ?_
        refine y_pure (pc' := 72) (ls' := [(0, .ref 64), (1, .int x1), (2, .int x2), (3, .int x3), (4, .int (x4 + (nI 1))), (5, .int x5)]) (st' := []) rfl rfl ?_
        refine y_pure (pc' := 75) (ls' := [(0, .ref 64), (1, .int x1), (2, .int x2), (3, .int x3), (4, .int (x4 + (nI 1))), (5, .int (x5 + (nI 2)))]) (st' := []) rfl rfl ?_
        refine y_pure (pc' := 38) rfl rfl ?_
        refine zEx_sub ?_ h
        exact ⟨rfl, rfl, rfl, rfl, rfl, rfl, trivial⟩
      · refine y_cmp (pc' := 72) rfl rfl (zc_neT hc12) rfl ?_
        refine y_pure (pc' := 75) (ls' := [(0, .ref 64), (1, .int x1), (2, .int x2), (3, .int x3), (4, .int x4), (5, .int (x5 + (nI 2)))]) (st' := []) rfl rfl ?_
        refine y_pure (pc' := 38) rfl rfl ?_
        refine zEx_sub ?_ h
        exact ⟨rfl, rfl, rfl, rfl, rfl, rfl, trivial⟩
    · refine y_cmp (pc' := 72) rfl rfl (zc_neT hc8) rfl ?_
      refine y_pure (pc' := 75) (ls' := [(0, .ref 64), (1, .int x1), (2, .int x2), (3, .int x3), (4, .int x4), (5, .int (x5 + (nI 2)))]) (st' := []) rfl rfl ?_
      refine y_pure (pc' := 38) rfl rfl ?_
      refine zEx_sub ?_ h
      exact ⟨rfl, rfl, rfl, rfl, rfl, rfl, trivial⟩
theorem e_C_combos {d : Nat} {x1 : Int32} {x2 : Int32} {x3 : Int32} {M : ZM} {r : ZR}  (h : zC1 (zEv d zmB_isTold [.ref 86] M) (fun v3 M2 => (if v3 = (nI 0) then some (some (.int (-1 : Int32)), M2) else (if x1 < (nI 0) then some (some (.int (-1 : Int32)), M2) else (if (nI 2) < x1 then some (some (.int (-1 : Int32)), M2) else (if x2 < (nI 1) then some (some (.int (-1 : Int32)), M2) else (if (nI 6) < x2 then some (some (.int (-1 : Int32)), M2) else h_C_combos_38 d x1 x2 x3 (nI 0) (nI 2) M2)))))) = some r) : zEv (d + 1) zmC_combos [.ref 64, .int x1, .int x2, .int x3] M = some r := by
  rw [zEv_succ]
  show zEx0 (zEv d) zmC_combos (0, [(0, .ref 64), (1, .int x1), (2, .int x2), (3, .int x3)], [], M) = some r
  refine y_pure (pc' := 1) (st' := [.ref 64]) rfl rfl ?_
  refine y_getf (pc' := 4) (v := .ref 86) rfl rfl rfl zc_64 rfl rfl ?_
  obtain ⟨v3, M2, he1, h⟩ := zC1_inv h
  refine y_callV (pc' := 7) (y := zmB_isTold) (a' := []) (st' := []) rfl rfl rfl rfl rfl (zrecv_o (o := 0) zc_86 rfl) rfl he1 rfl rfl ?_
  rcases zif_inv h with ⟨hc4, h⟩ | ⟨hc4, h⟩
  · refine y_cnd (pc' := 30) rfl rfl (zc_eqT hc4) rfl ?_
    refine y_pure (pc' := 31) (st' := [.int (-1 : Int32)]) rfl rfl ?_
    exact y_ret rfl rfl rfl rfl h
  · refine y_cnd (pc' := 10) rfl rfl (zc_eqF hc4) rfl ?_
    refine y_pure (pc' := 11) (st' := [.int x1]) rfl rfl ?_
    rcases zif_inv h with ⟨hc5, h⟩ | ⟨hc5, h⟩
    · refine y_cnd (pc' := 30) rfl rfl (zc_ltT hc5) rfl ?_
      refine y_pure (pc' := 31) (st' := [.int (-1 : Int32)]) rfl rfl ?_
      exact y_ret rfl rfl rfl rfl h
    · refine y_cnd (pc' := 14) rfl rfl (zc_ltF hc5) rfl ?_
      refine y_pure (pc' := 15) (st' := [.int x1]) rfl rfl ?_
      refine y_pure (pc' := 16) (st' := [.int (nI 2), .int x1]) rfl rfl ?_
      rcases zif_inv h with ⟨hc6, h⟩ | ⟨hc6, h⟩
      · refine y_cmp (pc' := 30) rfl rfl (zc_gtT hc6) rfl ?_
        refine y_pure (pc' := 31) (st' := [.int (-1 : Int32)]) rfl rfl ?_
        exact y_ret rfl rfl rfl rfl h
      · refine y_cmp (pc' := 19) rfl rfl (zc_gtF hc6) rfl ?_
        refine y_pure (pc' := 20) (st' := [.int x2]) rfl rfl ?_
        refine y_pure (pc' := 21) (st' := [.int (nI 1), .int x2]) rfl rfl ?_
        rcases zif_inv h with ⟨hc7, h⟩ | ⟨hc7, h⟩
        · refine y_cmp (pc' := 30) rfl rfl (zc_ltT hc7) rfl ?_
          refine y_pure (pc' := 31) (st' := [.int (-1 : Int32)]) rfl rfl ?_
          exact y_ret rfl rfl rfl rfl h
        · refine y_cmp (pc' := 24) rfl rfl (zc_ltF hc7) rfl ?_
          refine y_pure (pc' := 25) (st' := [.int x2]) rfl rfl ?_
          refine y_pure (pc' := 27) (st' := [.int (nI 6), .int x2]) rfl rfl ?_
          rcases zif_inv h with ⟨hc8, h⟩ | ⟨hc8, h⟩
          · refine y_cmp (pc' := 30) rfl rfl (zc_leF hc8) rfl ?_
            refine y_pure (pc' := 31) (st' := [.int (-1 : Int32)]) rfl rfl ?_
            exact y_ret rfl rfl rfl rfl h
          · refine y_cmp (pc' := 32) rfl rfl (zc_leT hc8) rfl ?_
            refine y_pure (pc' := 33) (st' := [.int (nI 0)]) rfl rfl ?_
            refine y_pure (pc' := 35) (ls' := [(0, .ref 64), (1, .int x1), (2, .int x2), (3, .int x3), (4, .int (nI 0))]) (st' := []) rfl rfl ?_
            refine y_pure (pc' := 36) (st' := [.int (nI 2)]) rfl rfl ?_
            refine y_pure (pc' := 38) (ls' := [(0, .ref 64), (1, .int x1), (2, .int x2), (3, .int x3), (4, .int (nI 0)), (5, .int (nI 2))]) (st' := []) rfl rfl ?_
            refine zEx_sub ?_ h
            exact ⟨rfl, rfl, rfl, rfl, rfl, rfl, trivial⟩
theorem e_C_broken {d : Nat} {x1 : Int32} {M : ZM} {r : ZR}  (h : zC1 (zEv d zmB_isTold [.ref 86] M) (fun v3 M2 => (if v3 = (nI 0) then some (some (.int (-1 : Int32)), M2) else (if x1 < (nI 0) then some (some (.int (-1 : Int32)), M2) else (if (nI 2) < x1 then some (some (.int (-1 : Int32)), M2) else zC0 (zEv d zmL_study [.ref 262, .ref 86] M2) (fun M8 => (if x1 = (nI 0) then zC1 (zEv d zmL_isBroken [.ref 262] M8) (fun v12 M11 => (if v12 = (nI 0) then some (some (.int (nI 0)), M11) else some (some (.int (nI 1)), M11))) else (if x1 = (nI 1) then some (some (.int (M8.1 262 3)), M8) else some (some (.int (M8.1 262 4)), M8)))))))) = some r) : zEv (d + 1) zmC_broken [.ref 64, .int x1] M = some r := by
  rw [zEv_succ]
  show zEx0 (zEv d) zmC_broken (0, [(0, .ref 64), (1, .int x1)], [], M) = some r
  refine y_pure (pc' := 1) (st' := [.ref 64]) rfl rfl ?_
  refine y_getf (pc' := 4) (v := .ref 86) rfl rfl rfl zc_64 rfl rfl ?_
  obtain ⟨v3, M2, he1, h⟩ := zC1_inv h
  refine y_callV (pc' := 7) (y := zmB_isTold) (a' := []) (st' := []) rfl rfl rfl rfl rfl (zrecv_o (o := 0) zc_86 rfl) rfl he1 rfl rfl ?_
  rcases zif_inv h with ⟨hc4, h⟩ | ⟨hc4, h⟩
  · refine y_cnd (pc' := 19) rfl rfl (zc_eqT hc4) rfl ?_
    refine y_pure (pc' := 20) (st' := [.int (-1 : Int32)]) rfl rfl ?_
    exact y_ret rfl rfl rfl rfl h
  · refine y_cnd (pc' := 10) rfl rfl (zc_eqF hc4) rfl ?_
    refine y_pure (pc' := 11) (st' := [.int x1]) rfl rfl ?_
    rcases zif_inv h with ⟨hc5, h⟩ | ⟨hc5, h⟩
    · refine y_cnd (pc' := 19) rfl rfl (zc_ltT hc5) rfl ?_
      refine y_pure (pc' := 20) (st' := [.int (-1 : Int32)]) rfl rfl ?_
      exact y_ret rfl rfl rfl rfl h
    · refine y_cnd (pc' := 14) rfl rfl (zc_ltF hc5) rfl ?_
      refine y_pure (pc' := 15) (st' := [.int x1]) rfl rfl ?_
      refine y_pure (pc' := 16) (st' := [.int (nI 2), .int x1]) rfl rfl ?_
      rcases zif_inv h with ⟨hc6, h⟩ | ⟨hc6, h⟩
      · refine y_cmp (pc' := 19) rfl rfl (zc_leF hc6) rfl ?_
        refine y_pure (pc' := 20) (st' := [.int (-1 : Int32)]) rfl rfl ?_
        exact y_ret rfl rfl rfl rfl h
      · refine y_cmp (pc' := 21) rfl rfl (zc_leT hc6) rfl ?_
        refine y_pure (pc' := 22) (st' := [.ref 64]) rfl rfl ?_
        refine y_getf (pc' := 25) (v := .ref 262) rfl rfl rfl zc_64 rfl rfl ?_
        refine y_pure (pc' := 26) (st' := [.ref 64, .ref 262]) rfl rfl ?_
        refine y_getf (pc' := 29) (v := .ref 86) rfl rfl rfl zc_64 rfl rfl ?_
        obtain ⟨M8, he7, h⟩ := zC0_inv h
        refine y_callV (pc' := 32) (y := zmL_study) (a' := [.ref 86]) (st' := []) rfl rfl rfl rfl rfl (zrecv_o (o := 1) zc_262 rfl) rfl he7 rfl rfl ?_
        refine y_pure (pc' := 33) (st' := [.int x1]) rfl rfl ?_
        rcases zif_inv h with ⟨hc9, h⟩ | ⟨hc9, h⟩
        · refine y_cnd (pc' := 36) rfl rfl (zc_neF hc9) rfl ?_
          refine y_pure (pc' := 37) (st' := [.ref 64]) rfl rfl ?_
          refine y_getf (pc' := 40) (v := .ref 262) rfl rfl rfl zc_64 rfl rfl ?_
          obtain ⟨v12, M11, he10, h⟩ := zC1_inv h
          refine y_callV (pc' := 43) (y := zmL_isBroken) (a' := []) (st' := []) rfl rfl rfl rfl rfl (zrecv_o (o := 1) zc_262 rfl) rfl he10 rfl rfl ?_
          rcases zif_inv h with ⟨hc13, h⟩ | ⟨hc13, h⟩
          · refine y_cnd (pc' := 50) rfl rfl (zc_eqT hc13) rfl ?_
            refine y_pure (pc' := 51) (st' := [.int (nI 0)]) rfl rfl ?_
            exact y_ret rfl rfl rfl rfl h
          · refine y_cnd (pc' := 46) rfl rfl (zc_eqF hc13) rfl ?_
            refine y_pure (pc' := 47) (st' := [.int (nI 1)]) rfl rfl ?_
            refine y_pure (pc' := 51) rfl rfl ?_
            exact y_ret rfl rfl rfl rfl h
        · refine y_cnd (pc' := 52) rfl rfl (zc_neT hc9) rfl ?_
          refine y_pure (pc' := 53) (st' := [.int x1]) rfl rfl ?_
          refine y_pure (pc' := 54) (st' := [.int (nI 1), .int x1]) rfl rfl ?_
          rcases zif_inv h with ⟨hc14, h⟩ | ⟨hc14, h⟩
          · refine y_cmp (pc' := 57) rfl rfl (zc_neF hc14) rfl ?_
            refine y_pure (pc' := 58) (st' := [.ref 64]) rfl rfl ?_
            refine y_getf (pc' := 61) (v := .ref 262) rfl rfl rfl zc_64 rfl rfl ?_
            refine y_getf (pc' := 64) (v := .int (M8.1 262 3)) rfl rfl rfl zc_262 rfl rfl ?_
            refine y_pure (pc' := 74) rfl rfl ?_
            exact y_ret rfl rfl rfl rfl h
          · refine y_cmp (pc' := 67) rfl rfl (zc_neT hc14) rfl ?_
            refine y_pure (pc' := 68) (st' := [.ref 64]) rfl rfl ?_
            refine y_getf (pc' := 71) (v := .ref 262) rfl rfl rfl zc_64 rfl rfl ?_
            refine y_getf (pc' := 74) (v := .int (M8.1 262 4)) rfl rfl rfl zc_262 rfl rfl ?_
            exact y_ret rfl rfl rfl rfl h
theorem e_C_range {d : Nat} {x1 : Int32} {x2 : Int32} {M : ZM} {r : ZR}  (h : zC1 (zEv d zmB_isCage [.ref 86, .int x1] M) (fun v3 M2 => (if v3 = (nI 0) then some (some (.int (-1 : Int32)), M2) else zC1 (zEv d zmB_isAlike [.ref 86, .int x1] M2) (fun v7 M6 => (if v7 = (nI 0) then zC1 (zEv d zmC_rangeBySet [.ref 64, .int x1, .int x2] M6) (fun v11 M10 => some (some (.int v11), M10)) else (if zin x1 12 = true then (if (nI 1) < (M6.1 88 (Int32.toNatClampNeg x1)) then zC1 (zEv d zmC_rangeBySet [.ref 64, .int x1, .int x2] M6) (fun v16 M15 => some (some (.int v16), M15)) else zC1 (zEv d zmC_rangeByCell [.ref 64, .int x1, .int x2] M6) (fun v19 M18 => some (some (.int v19), M18))) else none))))) = some r) : zEv (d + 1) zmC_range [.ref 64, .int x1, .int x2] M = some r := by
  rw [zEv_succ]
  show zEx0 (zEv d) zmC_range (0, [(0, .ref 64), (1, .int x1), (2, .int x2)], [], M) = some r
  refine y_pure (pc' := 1) (st' := [.ref 64]) rfl rfl ?_
  refine y_getf (pc' := 4) (v := .ref 86) rfl rfl rfl zc_64 rfl rfl ?_
  refine y_pure (pc' := 5) (st' := [.int x1, .ref 86]) rfl rfl ?_
  obtain ⟨v3, M2, he1, h⟩ := zC1_inv h
  refine y_callV (pc' := 8) (y := zmB_isCage) (a' := [.int x1]) (st' := []) rfl rfl rfl rfl rfl (zrecv_o (o := 0) zc_86 rfl) rfl he1 rfl rfl ?_
  rcases zif_inv h with ⟨hc4, h⟩ | ⟨hc4, h⟩
  · refine y_cnd (pc' := 11) rfl rfl (zc_neF hc4) rfl ?_
    refine y_pure (pc' := 12) (st' := [.int (-1 : Int32)]) rfl rfl ?_
    exact y_ret rfl rfl rfl rfl h
  · refine y_cnd (pc' := 13) rfl rfl (zc_neT hc4) rfl ?_
    refine y_pure (pc' := 14) (st' := [.ref 64]) rfl rfl ?_
    refine y_getf (pc' := 17) (v := .ref 86) rfl rfl rfl zc_64 rfl rfl ?_
    refine y_pure (pc' := 18) (st' := [.int x1, .ref 86]) rfl rfl ?_
    obtain ⟨v7, M6, he5, h⟩ := zC1_inv h
    refine y_callV (pc' := 21) (y := zmB_isAlike) (a' := [.int x1]) (st' := []) rfl rfl rfl rfl rfl (zrecv_o (o := 0) zc_86 rfl) rfl he5 rfl rfl ?_
    rcases zif_inv h with ⟨hc8, h⟩ | ⟨hc8, h⟩
    · refine y_cnd (pc' := 44) rfl rfl (zc_eqT hc8) rfl ?_
      refine y_pure (pc' := 45) (st' := [.ref 64]) rfl rfl ?_
      refine y_pure (pc' := 46) (st' := [.int x1, .ref 64]) rfl rfl ?_
      refine y_pure (pc' := 47) (st' := [.int x2, .int x1, .ref 64]) rfl rfl ?_
      obtain ⟨v11, M10, he9, h⟩ := zC1_inv h
      refine y_callV (pc' := 50) (y := zmC_rangeBySet) (a' := [.int x1, .int x2]) (st' := []) rfl rfl rfl rfl rfl (zrecv_o (o := 9) zc_64 rfl) rfl he9 rfl rfl ?_
      exact y_ret rfl rfl rfl rfl h
    · refine y_cnd (pc' := 24) rfl rfl (zc_eqF hc8) rfl ?_
      refine y_pure (pc' := 25) (st' := [.ref 64]) rfl rfl ?_
      refine y_getf (pc' := 28) (v := .ref 86) rfl rfl rfl zc_64 rfl rfl ?_
      refine y_getf (pc' := 31) (v := .ref 88) rfl rfl rfl zc_86 rfl rfl ?_
      refine y_pure (pc' := 32) (st' := [.int x1, .ref 88]) rfl rfl ?_
      obtain ⟨hi12, h⟩ := zg_inv h
      refine y_iald (pc' := 33) rfl zc_88 hi12 rfl ?_
      refine y_pure (pc' := 34) (st' := [.int (nI 1), .int (M6.1 88 (Int32.toNatClampNeg x1))]) rfl rfl ?_
      rcases zif_inv h with ⟨hc13, h⟩ | ⟨hc13, h⟩
      · refine y_cmp (pc' := 44) rfl rfl (zc_gtT hc13) rfl ?_
        refine y_pure (pc' := 45) (st' := [.ref 64]) rfl rfl ?_
        refine y_pure (pc' := 46) (st' := [.int x1, .ref 64]) rfl rfl ?_
        refine y_pure (pc' := 47) (st' := [.int x2, .int x1, .ref 64]) rfl rfl ?_
        obtain ⟨v16, M15, he14, h⟩ := zC1_inv h
        refine y_callV (pc' := 50) (y := zmC_rangeBySet) (a' := [.int x1, .int x2]) (st' := []) rfl rfl rfl rfl rfl (zrecv_o (o := 9) zc_64 rfl) rfl he14 rfl rfl ?_
        exact y_ret rfl rfl rfl rfl h
      · refine y_cmp (pc' := 37) rfl rfl (zc_gtF hc13) rfl ?_
        refine y_pure (pc' := 38) (st' := [.ref 64]) rfl rfl ?_
        refine y_pure (pc' := 39) (st' := [.int x1, .ref 64]) rfl rfl ?_
        refine y_pure (pc' := 40) (st' := [.int x2, .int x1, .ref 64]) rfl rfl ?_
        obtain ⟨v19, M18, he17, h⟩ := zC1_inv h
        refine y_callV (pc' := 43) (y := zmC_rangeByCell) (a' := [.int x1, .int x2]) (st' := []) rfl rfl rfl rfl rfl (zrecv_o (o := 9) zc_64 rfl) rfl he17 rfl rfl ?_
        exact y_ret rfl rfl rfl rfl h
noncomputable def h_C_rangeByCell_8 (d : Nat) (x1 : Int32) (x2 : Int32) (x3 : Int32) (x4 : Int32) (x5 : Int32) (M : ZM) : Option ZR := zEx0 (zEv d) zmC_rangeByCell (8, [(0, .ref 64), (1, .int x1), (2, .int x2), (3, .int x3), (4, .int x4), (5, .int x5)], [], M)
theorem e_C_rangeByCell_8 {d : Nat} {x1 : Int32} {x2 : Int32} {x3 : Int32} {x4 : Int32} {x5 : Int32} {M : ZM} {r : ZR}  (h : (if zin x1 12 = true then (if x5 < (M.1 90 (Int32.toNatClampNeg x1)) then (if zin x5 6 = true then (if zin (M.1 (93 + (Int32.toNatClampNeg x1)) (Int32.toNatClampNeg x5)) 36 = true then zL (M.1 87 (Int32.toNatClampNeg (M.1 (93 + (Int32.toNatClampNeg x1)) (Int32.toNatClampNeg x5)))) (fun y5 => (if y5 = (nI 0) then some (some (.int (-2 : Int32)), M) else (if x2 = (nI 0) then zC1 (zEv d zmC_leastDigit [.int y5] M) (fun v11 M10 => h_C_rangeByCell_8 d x1 x2 (x3 + v11) (x4 * v11) (x5 + (nI 1)) M10) else zC1 (zEv d zmC_greatestDigit [.int y5] M) (fun v14 M13 => h_C_rangeByCell_8 d x1 x2 (x3 + v14) (x4 * v14) (x5 + (nI 1)) M13)))) else none) else none) else (if (M.1 88 (Int32.toNatClampNeg x1)) = (nI 0) then some (some (.int x3), M) else some (some (.int x4), M))) else none) = some r) : h_C_rangeByCell_8 d x1 x2 x3 x4 x5 M = some r := by
  show zEx0 (zEv d) zmC_rangeByCell (8, [(0, .ref 64), (1, .int x1), (2, .int x2), (3, .int x3), (4, .int x4), (5, .int x5)], [], M) = some r
  refine y_pure (pc' := 10) (st' := [.int x5]) rfl rfl ?_
  refine y_pure (pc' := 11) (st' := [.ref 64, .int x5]) rfl rfl ?_
  refine y_getf (pc' := 14) (v := .ref 86) rfl rfl rfl zc_64 rfl rfl ?_
  refine y_getf (pc' := 17) (v := .ref 90) rfl rfl rfl zc_86 rfl rfl ?_
  refine y_pure (pc' := 18) (st' := [.int x1, .ref 90, .int x5]) rfl rfl ?_
  obtain ⟨hi1, h⟩ := zg_inv h
  refine y_iald (pc' := 19) rfl zc_90 hi1 rfl ?_
  rcases zif_inv h with ⟨hc2, h⟩ | ⟨hc2, h⟩
  · refine y_cmp (pc' := 22) rfl rfl (zc_geF hc2) rfl ?_
    refine y_pure (pc' := 23) (st' := [.ref 64]) rfl rfl ?_
    refine y_getf (pc' := 26) (v := .ref 86) rfl rfl rfl zc_64 rfl rfl ?_
    refine y_getf (pc' := 29) (v := .ref 87) rfl rfl rfl zc_86 rfl rfl ?_
    refine y_pure (pc' := 30) (st' := [.ref 64, .ref 87]) rfl rfl ?_
    refine y_getf (pc' := 33) (v := .ref 86) rfl rfl rfl zc_64 rfl rfl ?_
    refine y_getf (pc' := 36) (v := .ref 92) rfl rfl rfl zc_86 rfl rfl ?_
    refine y_pure (pc' := 37) (st' := [.int x1, .ref 92, .ref 87]) rfl rfl ?_
    refine y_aald (pc' := 38) (q' := 93 + (Int32.toNatClampNeg x1)) rfl zc_92 hi1 (congrArg (HAdd.hAdd (93)) (Nat.one_mul _)) rfl ?_
    refine y_pure (pc' := 40) (st' := [.int x5, .ref (93 + (Int32.toNatClampNeg x1)), .ref 87]) rfl rfl ?_
    obtain ⟨hi3, h⟩ := zg_inv h
    refine y_iald (pc' := 41) rfl (zl_0 zc_92 hi1) hi3 rfl ?_
    obtain ⟨hi4, h⟩ := zg_inv h
    refine y_iald (pc' := 42) rfl zc_87 hi4 rfl ?_
    obtain ⟨y5, e6, h⟩ := zL_inv h
    refine zT_gen e6 ?_
    refine y_pure (pc' := 44) (ls' := [(0, .ref 64), (1, .int x1), (2, .int x2), (3, .int x3), (4, .int x4), (5, .int x5), (6, .int y5)]) (st' := []) rfl rfl ?_
    refine y_pure (pc' := 46) (st' := [.int y5]) rfl rfl ?_
    rcases zif_inv h with ⟨hc7, h⟩ | ⟨hc7, h⟩
    · refine y_cnd (pc' := 49) rfl rfl (zc_neF hc7) rfl ?_
      refine y_pure (pc' := 51) (st' := [.int (-2 : Int32)]) rfl rfl ?_
      exact y_ret rfl rfl rfl rfl h
    · refine y_cnd (pc' := 52) rfl rfl (zc_neT hc7) rfl ?_
      refine y_pure (pc' := 53) (st' := [.int x2]) rfl rfl ?_
      rcases zif_inv h with ⟨hc8, h⟩ | ⟨hc8, h⟩
      · refine y_cnd (pc' := 64) rfl rfl (zc_eqT hc8) rfl ?_
        refine y_pure (pc' := 66) (st' := [.int y5]) rfl rfl ?_
        obtain ⟨v11, M10, he9, h⟩ := zC1_inv h
        refine y_callS (pc' := 69) (y := zmC_leastDigit) (a := [.int y5]) (st' := []) rfl rfl rfl rfl rfl rfl he9 rfl rfl ?_
        refine y_pure (pc' := 71) (ls' := [(0, .ref 64), (1, .int x1), (2, .int x2), (3, .int x3), (4, .int x4), (5, .int x5), (6, .int y5), (7, .int v11)]) (st' := []) rfl rfl ?_
        refine y_pure (pc' := 72) (st' := [.int x3]) rfl rfl ?_
        refine y_pure (pc' := 74) (st' := [.int v11, .int x3]) rfl rfl ?_
        refine y_pure (pc' := 75) (st' := [.int (x3 + v11)]) rfl rfl ?_
        refine y_pure (pc' := 76) (ls' := [(0, .ref 64), (1, .int x1), (2, .int x2), (3, .int (x3 + v11)), (4, .int x4), (5, .int x5), (6, .int y5), (7, .int v11)]) (st' := []) rfl rfl ?_
        refine y_pure (pc' := 78) (st' := [.int x4]) rfl rfl ?_
        refine y_pure (pc' := 80) (st' := [.int v11, .int x4]) rfl rfl ?_
        refine y_pure (pc' := 81) (st' := [.int (x4 * v11)]) rfl rfl ?_
        refine y_pure (pc' := 83) (ls' := [(0, .ref 64), (1, .int x1), (2, .int x2), (3, .int (x3 + v11)), (4, .int (x4 * v11)), (5, .int x5), (6, .int y5), (7, .int v11)]) (st' := []) rfl rfl ?_
        refine y_pure (pc' := 86) (ls' := [(0, .ref 64), (1, .int x1), (2, .int x2), (3, .int (x3 + v11)), (4, .int (x4 * v11)), (5, .int (x5 + (nI 1))), (6, .int y5), (7, .int v11)]) (st' := []) rfl rfl ?_
        refine y_pure (pc' := 8) rfl rfl ?_
        refine zEx_sub ?_ h
        exact ⟨rfl, rfl, rfl, rfl, rfl, rfl, trivial⟩
      · refine y_cnd (pc' := 56) rfl rfl (zc_eqF hc8) rfl ?_
        refine y_pure (pc' := 58) (st' := [.int y5]) rfl rfl ?_
        obtain ⟨v14, M13, he12, h⟩ := zC1_inv h
        refine y_callS (pc' := 61) (y := zmC_greatestDigit) (a := [.int y5]) (st' := []) rfl rfl rfl rfl rfl rfl he12 rfl rfl ?_
        refine y_pure (pc' := 69) rfl rfl ?_
        refine y_pure (pc' := 71) (ls' := [(0, .ref 64), (1, .int x1), (2, .int x2), (3, .int x3), (4, .int x4), (5, .int x5), (6, .int y5), (7, .int v14)]) (st' := []) rfl rfl ?_
        refine y_pure (pc' := 72) (st' := [.int x3]) rfl rfl ?_
        refine y_pure (pc' := 74) (st' := [.int v14, .int x3]) rfl rfl ?_
        refine y_pure (pc' := 75) (st' := [.int (x3 + v14)]) rfl rfl ?_
        refine y_pure (pc' := 76) (ls' := [(0, .ref 64), (1, .int x1), (2, .int x2), (3, .int (x3 + v14)), (4, .int x4), (5, .int x5), (6, .int y5), (7, .int v14)]) (st' := []) rfl rfl ?_
        refine y_pure (pc' := 78) (st' := [.int x4]) rfl rfl ?_
        refine y_pure (pc' := 80) (st' := [.int v14, .int x4]) rfl rfl ?_
        refine y_pure (pc' := 81) (st' := [.int (x4 * v14)]) rfl rfl ?_
        refine y_pure (pc' := 83) (ls' := [(0, .ref 64), (1, .int x1), (2, .int x2), (3, .int (x3 + v14)), (4, .int (x4 * v14)), (5, .int x5), (6, .int y5), (7, .int v14)]) (st' := []) rfl rfl ?_
        refine y_pure (pc' := 86) (ls' := [(0, .ref 64), (1, .int x1), (2, .int x2), (3, .int (x3 + v14)), (4, .int (x4 * v14)), (5, .int (x5 + (nI 1))), (6, .int y5), (7, .int v14)]) (st' := []) rfl rfl ?_
        refine y_pure (pc' := 8) rfl rfl ?_
        refine zEx_sub ?_ h
        exact ⟨rfl, rfl, rfl, rfl, rfl, rfl, trivial⟩
  · refine y_cmp (pc' := 89) rfl rfl (zc_geT hc2) rfl ?_
    refine y_pure (pc' := 90) (st' := [.ref 64]) rfl rfl ?_
    refine y_getf (pc' := 93) (v := .ref 86) rfl rfl rfl zc_64 rfl rfl ?_
    refine y_getf (pc' := 96) (v := .ref 88) rfl rfl rfl zc_86 rfl rfl ?_
    refine y_pure (pc' := 97) (st' := [.int x1, .ref 88]) rfl rfl ?_
    refine y_iald (pc' := 98) rfl zc_88 hi1 rfl ?_
    rcases zif_inv h with ⟨hc15, h⟩ | ⟨hc15, h⟩
    · refine y_cnd (pc' := 101) rfl rfl (zc_neF hc15) rfl ?_
      refine y_pure (pc' := 102) (st' := [.int x3]) rfl rfl ?_
      refine y_pure (pc' := 107) rfl rfl ?_
      exact y_ret rfl rfl rfl rfl h
    · refine y_cnd (pc' := 105) rfl rfl (zc_neT hc15) rfl ?_
      refine y_pure (pc' := 107) (st' := [.int x4]) rfl rfl ?_
      exact y_ret rfl rfl rfl rfl h
theorem e_C_rangeByCell {d : Nat} {x1 : Int32} {x2 : Int32} {M : ZM} {r : ZR}  (h : h_C_rangeByCell_8 d x1 x2 (nI 0) (nI 1) (nI 0) M = some r) : zEv (d + 1) zmC_rangeByCell [.ref 64, .int x1, .int x2] M = some r := by
  rw [zEv_succ]
  show zEx0 (zEv d) zmC_rangeByCell (0, [(0, .ref 64), (1, .int x1), (2, .int x2)], [], M) = some r
  refine y_pure (pc' := 1) (st' := [.int (nI 0)]) rfl rfl ?_
  refine y_pure (pc' := 2) (ls' := [(0, .ref 64), (1, .int x1), (2, .int x2), (3, .int (nI 0))]) (st' := []) rfl rfl ?_
  refine y_pure (pc' := 3) (st' := [.int (nI 1)]) rfl rfl ?_
  refine y_pure (pc' := 5) (ls' := [(0, .ref 64), (1, .int x1), (2, .int x2), (3, .int (nI 0)), (4, .int (nI 1))]) (st' := []) rfl rfl ?_
  refine y_pure (pc' := 6) (st' := [.int (nI 0)]) rfl rfl ?_
  refine y_pure (pc' := 8) (ls' := [(0, .ref 64), (1, .int x1), (2, .int x2), (3, .int (nI 0)), (4, .int (nI 1)), (5, .int (nI 0))]) (st' := []) rfl rfl ?_
  refine zEx_sub ?_ h
  exact ⟨rfl, rfl, rfl, rfl, rfl, rfl, trivial⟩
noncomputable def h_C_rangeBySet_41 (d : Nat) (x1 : Int32) (x2 : Int32) (x3 : Nat) (x4 : Int32) (x5 : Int32) (M : ZM) : Option ZR := zEx0 (zEv d) zmC_rangeBySet (41, [(0, .ref 64), (1, .int x1), (2, .int x2), (3, .ref x3), (4, .int x4), (5, .int x5)], [], M)
theorem e_C_rangeBySet_41 {d : Nat} {x1 : Int32} {x2 : Int32} {x3 : Nat} {x4 : Int32} {x5 : Int32} {M : ZM} {r : ZR} (hk3 : zkd x3 = (13, 0)) (h : (if x5 < (nI 128) then zC1 (zEv d zmR_isReached [.ref x3, .int x5] M) (fun v4 M3 => (if v4 = (nI 0) then h_C_rangeBySet_41 d x1 x2 x3 x4 (x5 + (nI 1)) M3 else (if zin x1 12 = true then zC1 (zEv d zmC_totalOfSet [.int (M3.1 88 (Int32.toNatClampNeg x1)), .int (x5 <<< ((nI 1) &&& 31))] M3) (fun v9 M8 => (if x4 = (-2 : Int32) then h_C_rangeBySet_41 d x1 x2 x3 v9 (x5 + (nI 1)) M8 else (if x2 = (nI 0) then (if v9 < x4 then h_C_rangeBySet_41 d x1 x2 x3 v9 (x5 + (nI 1)) M8 else h_C_rangeBySet_41 d x1 x2 x3 x4 (x5 + (nI 1)) M8) else (if x4 < v9 then h_C_rangeBySet_41 d x1 x2 x3 v9 (x5 + (nI 1)) M8 else h_C_rangeBySet_41 d x1 x2 x3 x4 (x5 + (nI 1)) M8)))) else none))) else some (some (.int x4), M)) = some r) : h_C_rangeBySet_41 d x1 x2 x3 x4 x5 M = some r := by
  show zEx0 (zEv d) zmC_rangeBySet (41, [(0, .ref 64), (1, .int x1), (2, .int x2), (3, .ref x3), (4, .int x4), (5, .int x5)], [], M) = some r
  refine y_pure (pc' := 43) (st' := [.int x5]) rfl rfl ?_
  refine y_pure (pc' := 46) (st' := [.int (nI 128), .int x5]) rfl rfl ?_
  rcases zif_inv h with ⟨hc1, h⟩ | ⟨hc1, h⟩
  · refine y_cmp (pc' := 49) rfl rfl (zc_geF hc1) rfl ?_
    refine y_pure (pc' := 50) (st' := [.ref x3]) rfl rfl ?_
    refine y_pure (pc' := 52) (st' := [.int x5, .ref x3]) rfl rfl ?_
    obtain ⟨v4, M3, he2, h⟩ := zC1_inv h
    refine y_callV (pc' := 55) (y := zmR_isReached) (a' := [.int x5]) (st' := []) rfl rfl rfl rfl rfl (zrecv_o (o := 3) hk3 rfl) rfl he2 rfl rfl ?_
    rcases zif_inv h with ⟨hc5, h⟩ | ⟨hc5, h⟩
    · refine y_cnd (pc' := 108) rfl rfl (zc_eqT hc5) rfl ?_
      refine y_pure (pc' := 111) (ls' := [(0, .ref 64), (1, .int x1), (2, .int x2), (3, .ref x3), (4, .int x4), (5, .int (x5 + (nI 1)))]) (st' := []) rfl rfl ?_
      refine y_pure (pc' := 41) rfl rfl ?_
      refine zEx_sub ?_ h
      exact ⟨rfl, rfl, rfl, rfl, rfl, rfl, trivial⟩
    · refine y_cnd (pc' := 58) rfl rfl (zc_eqF hc5) rfl ?_
      refine y_pure (pc' := 59) (st' := [.ref 64]) rfl rfl ?_
      refine y_getf (pc' := 62) (v := .ref 86) rfl rfl rfl zc_64 rfl rfl ?_
      refine y_getf (pc' := 65) (v := .ref 88) rfl rfl rfl zc_86 rfl rfl ?_
      refine y_pure (pc' := 66) (st' := [.int x1, .ref 88]) rfl rfl ?_
      obtain ⟨hi6, h⟩ := zg_inv h
      refine y_iald (pc' := 67) rfl zc_88 hi6 rfl ?_
      refine y_pure (pc' := 69) (st' := [.int x5, .int (M3.1 88 (Int32.toNatClampNeg x1))]) rfl rfl ?_
      refine y_pure (pc' := 70) (st' := [.int (nI 1), .int x5, .int (M3.1 88 (Int32.toNatClampNeg x1))]) rfl rfl ?_
      refine y_pure (pc' := 71) (st' := [.int (x5 <<< ((nI 1) &&& 31)), .int (M3.1 88 (Int32.toNatClampNeg x1))]) rfl rfl ?_
      obtain ⟨v9, M8, he7, h⟩ := zC1_inv h
      refine y_callS (pc' := 74) (y := zmC_totalOfSet) (a := [.int (M3.1 88 (Int32.toNatClampNeg x1)), .int (x5 <<< ((nI 1) &&& 31))]) (st' := []) rfl rfl rfl rfl rfl rfl he7 rfl rfl ?_
      refine y_pure (pc' := 76) (ls' := [(0, .ref 64), (1, .int x1), (2, .int x2), (3, .ref x3), (4, .int x4), (5, .int x5), (6, .int v9)]) (st' := []) rfl rfl ?_
      refine y_pure (pc' := 78) (st' := [.int x4]) rfl rfl ?_
      refine y_pure (pc' := 80) (st' := [.int (-2 : Int32), .int x4]) rfl rfl ?_
      rcases zif_inv h with ⟨hc10, h⟩ | ⟨hc10, h⟩
      · refine y_cmp (pc' := 104) rfl rfl (zc_eqT hc10) rfl ?_
        refine y_pure (pc' := 106) (st' := [.int v9]) rfl rfl ?_
        refine y_pure (pc' := 108) (ls' := [(0, .ref 64), (1, .int x1), (2, .int x2), (3, .ref x3), (4, .int v9), (5, .int x5), (6, .int v9)]) (st' := []) rfl rfl ?_
        refine y_pure (pc' := 111) (ls' := [(0, .ref 64), (1, .int x1), (2, .int x2), (3, .ref x3), (4, .int v9), (5, .int (x5 + (nI 1))), (6, .int v9)]) (st' := []) rfl rfl ?_
        refine y_pure (pc' := 41) rfl rfl ?_
        refine zEx_sub ?_ h
        exact ⟨rfl, rfl, rfl, rfl, rfl, rfl, trivial⟩
      · refine y_cmp (pc' := 83) rfl rfl (zc_eqF hc10) rfl ?_
        refine y_pure (pc' := 84) (st' := [.int x2]) rfl rfl ?_
        rcases zif_inv h with ⟨hc11, h⟩ | ⟨hc11, h⟩
        · refine y_cnd (pc' := 97) rfl rfl (zc_eqT hc11) rfl ?_
          refine y_pure (pc' := 99) (st' := [.int v9]) rfl rfl ?_
          refine y_pure (pc' := 101) (st' := [.int x4, .int v9]) rfl rfl ?_
          rcases zif_inv h with ⟨hc12, h⟩ | ⟨hc12, h⟩
          · refine y_cmp (pc' := 104) rfl rfl (zc_geF hc12) rfl ?_
            refine y_pure (pc' := 106) (st' := [.int v9]) rfl rfl ?_
            refine y_pure (pc' := 108) (ls' := [(0, .ref 64), (1, .int x1), (2, .int x2), (3, .ref x3), (4, .int v9), (5, .int x5), (6, .int v9)]) (st' := []) rfl rfl ?_
            refine y_pure (pc' := 111) (ls' := [(0, .ref 64), (1, .int x1), (2, .int x2), (3, .ref x3), (4, .int v9), (5, .int (x5 + (nI 1))), (6, .int v9)]) (st' := []) rfl rfl ?_
            refine y_pure (pc' := 41) rfl rfl ?_
            refine zEx_sub ?_ h
            exact ⟨rfl, rfl, rfl, rfl, rfl, rfl, trivial⟩
          · refine y_cmp (pc' := 108) rfl rfl (zc_geT hc12) rfl ?_
            refine y_pure (pc' := 111) (ls' := [(0, .ref 64), (1, .int x1), (2, .int x2), (3, .ref x3), (4, .int x4), (5, .int (x5 + (nI 1))), (6, .int v9)]) (st' := []) rfl rfl ?_
            refine y_pure (pc' := 41) rfl rfl ?_
            refine zEx_sub ?_ h
            exact ⟨rfl, rfl, rfl, rfl, rfl, rfl, trivial⟩
        · refine y_cnd (pc' := 87) rfl rfl (zc_eqF hc11) rfl ?_
          refine y_pure (pc' := 89) (st' := [.int v9]) rfl rfl ?_
          refine y_pure (pc' := 91) (st' := [.int x4, .int v9]) rfl rfl ?_
          rcases zif_inv h with ⟨hc13, h⟩ | ⟨hc13, h⟩
          · refine y_cmp (pc' := 94) rfl rfl (zc_leF hc13) rfl ?_
            refine y_pure (pc' := 104) rfl rfl ?_
            refine y_pure (pc' := 106) (st' := [.int v9]) rfl rfl ?_
            refine y_pure (pc' := 108) (ls' := [(0, .ref 64), (1, .int x1), (2, .int x2), (3, .ref x3), (4, .int v9), (5, .int x5), (6, .int v9)]) (st' := []) rfl rfl ?_
            refine y_pure (pc' := 111) (ls' := [(0, .ref 64), (1, .int x1), (2, .int x2), (3, .ref x3), (4, .int v9), (5, .int (x5 + (nI 1))), (6, .int v9)]) (st' := []) rfl rfl ?_
            refine y_pure (pc' := 41) rfl rfl ?_
            refine zEx_sub ?_ h
            exact ⟨rfl, rfl, rfl, rfl, rfl, rfl, trivial⟩
          · refine y_cmp (pc' := 108) rfl rfl (zc_leT hc13) rfl ?_
            refine y_pure (pc' := 111) (ls' := [(0, .ref 64), (1, .int x1), (2, .int x2), (3, .ref x3), (4, .int x4), (5, .int (x5 + (nI 1))), (6, .int v9)]) (st' := []) rfl rfl ?_
            refine y_pure (pc' := 41) rfl rfl ?_
            refine zEx_sub ?_ h
            exact ⟨rfl, rfl, rfl, rfl, rfl, rfl, trivial⟩
  · refine y_cmp (pc' := 114) rfl rfl (zc_geT hc1) rfl ?_
    refine y_pure (pc' := 116) (st' := [.int x4]) rfl rfl ?_
    exact y_ret rfl rfl rfl rfl h
theorem e_C_rangeBySet {d : Nat} {x1 : Int32} {x2 : Int32} {M : ZM} {r : ZR}  (h : zC3 (zEv d zmRS_spare [.ref 127, .ref 86, .int x1] M) (fun v3 M2 => (if zkd v3 = (13, 0) then (if zin x1 12 = true then zC1 (zEv d zmR_weigh [.ref v3, .ref 87, .ref (93 + (Int32.toNatClampNeg x1))] M2) (fun v8 M7 => h_C_rangeBySet_41 d x1 x2 v3 (-2 : Int32) (nI 0) M7) else none) else none)) = some r) : zEv (d + 1) zmC_rangeBySet [.ref 64, .int x1, .int x2] M = some r := by
  rw [zEv_succ]
  show zEx0 (zEv d) zmC_rangeBySet (0, [(0, .ref 64), (1, .int x1), (2, .int x2)], [], M) = some r
  refine y_pure (pc' := 1) (st' := [.ref 64]) rfl rfl ?_
  refine y_getf (pc' := 4) (v := .ref 127) rfl rfl rfl zc_64 rfl rfl ?_
  refine y_pure (pc' := 5) (st' := [.ref 64, .ref 127]) rfl rfl ?_
  refine y_getf (pc' := 8) (v := .ref 86) rfl rfl rfl zc_64 rfl rfl ?_
  refine y_pure (pc' := 9) (st' := [.int x1, .ref 86, .ref 127]) rfl rfl ?_
  obtain ⟨v3, M2, he1, h⟩ := zC3_inv h
  obtain ⟨hk4, h⟩ := zg_inv h
  refine y_callV (pc' := 12) (y := zmRS_spare) (a' := [.ref 86, .int x1]) (st' := []) rfl rfl rfl rfl rfl (zrecv_o (o := 4) zc_127 rfl) rfl he1 rfl rfl ?_
  refine y_pure (pc' := 13) (ls' := [(0, .ref 64), (1, .int x1), (2, .int x2), (3, .ref v3)]) (st' := []) rfl rfl ?_
  refine y_pure (pc' := 14) (st' := [.ref v3]) rfl rfl ?_
  refine y_pure (pc' := 15) (st' := [.ref 64, .ref v3]) rfl rfl ?_
  refine y_getf (pc' := 18) (v := .ref 86) rfl rfl rfl zc_64 rfl rfl ?_
  refine y_getf (pc' := 21) (v := .ref 87) rfl rfl rfl zc_86 rfl rfl ?_
  refine y_pure (pc' := 22) (st' := [.ref 64, .ref 87, .ref v3]) rfl rfl ?_
  refine y_getf (pc' := 25) (v := .ref 86) rfl rfl rfl zc_64 rfl rfl ?_
  refine y_getf (pc' := 28) (v := .ref 92) rfl rfl rfl zc_86 rfl rfl ?_
  refine y_pure (pc' := 29) (st' := [.int x1, .ref 92, .ref 87, .ref v3]) rfl rfl ?_
  obtain ⟨hi5, h⟩ := zg_inv h
  refine y_aald (pc' := 30) (q' := 93 + (Int32.toNatClampNeg x1)) rfl zc_92 hi5 (congrArg (HAdd.hAdd (93)) (Nat.one_mul _)) rfl ?_
  obtain ⟨v8, M7, he6, h⟩ := zC1_inv h
  refine y_callV (pc' := 33) (y := zmR_weigh) (a' := [.ref 87, .ref (93 + (Int32.toNatClampNeg x1))]) (st' := []) rfl rfl rfl rfl rfl (zrecv_o (o := 3) hk4 rfl) rfl he6 rfl rfl ?_
  refine y_pure (pc' := 34) (st' := []) rfl rfl ?_
  refine y_pure (pc' := 36) (st' := [.int (-2 : Int32)]) rfl rfl ?_
  refine y_pure (pc' := 38) (ls' := [(0, .ref 64), (1, .int x1), (2, .int x2), (3, .ref v3), (4, .int (-2 : Int32))]) (st' := []) rfl rfl ?_
  refine y_pure (pc' := 39) (st' := [.int (nI 0)]) rfl rfl ?_
  refine y_pure (pc' := 41) (ls' := [(0, .ref 64), (1, .int x1), (2, .int x2), (3, .ref v3), (4, .int (-2 : Int32)), (5, .int (nI 0))]) (st' := []) rfl rfl ?_
  refine zEx_sub ?_ h
  exact ⟨rfl, rfl, rfl, rfl, rfl, rfl, trivial⟩
theorem e_C_letter {d : Nat} {x1 : Int32} {M : ZM} {r : ZR}  (h : (if x1 < (-1 : Int32) then some (some (.int (-1 : Int32)), M) else zC0 (zEv d zmW_writeBoard [.ref 630, .ref 86] M) (fun M3 => (if x1 = (-1 : Int32) then zC1 (zEv d zmW_length [.ref 630] M3) (fun v7 M6 => some (some (.int v7), M6)) else zC1 (zEv d zmW_byteAt [.ref 630, .int x1] M3) (fun v10 M9 => some (some (.int v10), M9))))) = some r) : zEv (d + 1) zmC_letter [.ref 64, .int x1] M = some r := by
  rw [zEv_succ]
  show zEx0 (zEv d) zmC_letter (0, [(0, .ref 64), (1, .int x1)], [], M) = some r
  refine y_pure (pc' := 1) (st' := [.int x1]) rfl rfl ?_
  refine y_pure (pc' := 2) (st' := [.int (-1 : Int32), .int x1]) rfl rfl ?_
  rcases zif_inv h with ⟨hc1, h⟩ | ⟨hc1, h⟩
  · refine y_cmp (pc' := 5) rfl rfl (zc_geF hc1) rfl ?_
    refine y_pure (pc' := 6) (st' := [.int (-1 : Int32)]) rfl rfl ?_
    exact y_ret rfl rfl rfl rfl h
  · refine y_cmp (pc' := 7) rfl rfl (zc_geT hc1) rfl ?_
    refine y_pure (pc' := 8) (st' := [.ref 64]) rfl rfl ?_
    refine y_getf (pc' := 11) (v := .ref 630) rfl rfl rfl zc_64 rfl rfl ?_
    refine y_pure (pc' := 12) (st' := [.ref 64, .ref 630]) rfl rfl ?_
    refine y_getf (pc' := 15) (v := .ref 86) rfl rfl rfl zc_64 rfl rfl ?_
    obtain ⟨M3, he2, h⟩ := zC0_inv h
    refine y_callV (pc' := 18) (y := zmW_writeBoard) (a' := [.ref 86]) (st' := []) rfl rfl rfl rfl rfl (zrecv_o (o := 8) zc_630 rfl) rfl he2 rfl rfl ?_
    refine y_pure (pc' := 19) (st' := [.int x1]) rfl rfl ?_
    refine y_pure (pc' := 20) (st' := [.int (-1 : Int32), .int x1]) rfl rfl ?_
    rcases zif_inv h with ⟨hc4, h⟩ | ⟨hc4, h⟩
    · refine y_cmp (pc' := 23) rfl rfl (zc_neF hc4) rfl ?_
      refine y_pure (pc' := 24) (st' := [.ref 64]) rfl rfl ?_
      refine y_getf (pc' := 27) (v := .ref 630) rfl rfl rfl zc_64 rfl rfl ?_
      obtain ⟨v7, M6, he5, h⟩ := zC1_inv h
      refine y_callV (pc' := 30) (y := zmW_length) (a' := []) (st' := []) rfl rfl rfl rfl rfl (zrecv_o (o := 8) zc_630 rfl) rfl he5 rfl rfl ?_
      refine y_pure (pc' := 41) rfl rfl ?_
      exact y_ret rfl rfl rfl rfl h
    · refine y_cmp (pc' := 33) rfl rfl (zc_neT hc4) rfl ?_
      refine y_pure (pc' := 34) (st' := [.ref 64]) rfl rfl ?_
      refine y_getf (pc' := 37) (v := .ref 630) rfl rfl rfl zc_64 rfl rfl ?_
      refine y_pure (pc' := 38) (st' := [.int x1, .ref 630]) rfl rfl ?_
      obtain ⟨v10, M9, he8, h⟩ := zC1_inv h
      refine y_callV (pc' := 41) (y := zmW_byteAt) (a' := [.int x1]) (st' := []) rfl rfl rfl rfl rfl (zrecv_o (o := 8) zc_630 rfl) rfl he8 rfl rfl ?_
      exact y_ret rfl rfl rfl rfl h
theorem e_C_count {d : Nat} {x1 : Int32} {M : ZM} {r : ZR}  (h : (if x1 = (nI 0) then some (some (.int (M.1 86 0)), M) else (if x1 = (nI 1) then some (some (.int (M.1 86 1)), M) else (if x1 = (nI 2) then some (some (.int (M.1 86 2)), M) else (if x1 = (nI 3) then zC1 (zEv d zmJL_bitCount [.long (M.2 86 4)] M) (fun v14 M13 => some (some (.int v14), M13)) else (if x1 = (nI 4) then some (some (.int (M.1 86 3)), M) else (if x1 = (nI 5) then zC1 (zEv d zmJL_bitCount [.long (M.2 86 5)] M) (fun v17 M16 => some (some (.int v17), M16)) else (if x1 = (nI 6) then zC1 (zEv d zmJL_bitCount [.long ((M.2 86 5) ||| (M.2 86 6))] M) (fun v20 M19 => some (some (.int v20), M19)) else (if x1 = (nI 7) then zC1 (zEv d zmB_manyMarks [.ref 86] M) (fun v23 M22 => some (some (.int v23), M22)) else (if x1 = (nI 8) then some (some (.int (M.1 64 5)), M) else (if x1 = (nI 9) then zC1 (zEv d zmT_length [.ref 65] M) (fun v26 M25 => some (some (.int v26), M25)) else (if x1 = (nI 10) then some (some (.int (M.1 64 7)), M) else some (some (.int (-1 : Int32)), M)))))))))))) = some r) : zEv (d + 1) zmC_count [.ref 64, .int x1] M = some r := by
  rw [zEv_succ]
  show zEx0 (zEv d) zmC_count (0, [(0, .ref 64), (1, .int x1)], [], M) = some r
  refine y_pure (pc' := 1) (st' := [.int x1]) rfl rfl ?_
  rcases zif_inv h with ⟨hc1, h⟩ | ⟨hc1, h⟩
  · refine y_sw (k := 0) (t := 60) rfl (by rw [hc1]; decide) (by decide) rfl rfl ?_
    refine y_pure (pc' := 61) (st' := [.ref 64]) rfl rfl ?_
    refine y_getf (pc' := 64) (v := .ref 86) rfl rfl rfl zc_64 rfl rfl ?_
    refine y_getf (pc' := 67) (v := .int (M.1 86 0)) rfl rfl rfl zc_86 rfl rfl ?_
    exact y_ret rfl rfl rfl rfl h
  · rcases zif_inv h with ⟨hc2, h⟩ | ⟨hc2, h⟩
    · refine y_sw (k := 1) (t := 68) rfl (by rw [hc2]; decide) (by decide) rfl rfl ?_
      refine y_pure (pc' := 69) (st' := [.ref 64]) rfl rfl ?_
      refine y_getf (pc' := 72) (v := .ref 86) rfl rfl rfl zc_64 rfl rfl ?_
      refine y_getf (pc' := 75) (v := .int (M.1 86 1)) rfl rfl rfl zc_86 rfl rfl ?_
      exact y_ret rfl rfl rfl rfl h
    · rcases zif_inv h with ⟨hc3, h⟩ | ⟨hc3, h⟩
      · refine y_sw (k := 2) (t := 76) rfl (by rw [hc3]; decide) (by decide) rfl rfl ?_
        refine y_pure (pc' := 77) (st' := [.ref 64]) rfl rfl ?_
        refine y_getf (pc' := 80) (v := .ref 86) rfl rfl rfl zc_64 rfl rfl ?_
        refine y_getf (pc' := 83) (v := .int (M.1 86 2)) rfl rfl rfl zc_86 rfl rfl ?_
        exact y_ret rfl rfl rfl rfl h
      · rcases zif_inv h with ⟨hc4, h⟩ | ⟨hc4, h⟩
        · refine y_sw (k := 3) (t := 84) rfl (by rw [hc4]; decide) (by decide) rfl rfl ?_
          refine y_pure (pc' := 85) (st' := [.ref 64]) rfl rfl ?_
          refine y_getf (pc' := 88) (v := .ref 86) rfl rfl rfl zc_64 rfl rfl ?_
          refine y_getf (pc' := 91) (v := .long (M.2 86 4)) rfl rfl rfl zc_86 rfl rfl ?_
          obtain ⟨v14, M13, he12, h⟩ := zC1_inv h
          refine y_callS (pc' := 94) (y := zmJL_bitCount) (a := [.long (M.2 86 4)]) (st' := []) rfl rfl rfl rfl rfl rfl he12 rfl rfl ?_
          exact y_ret rfl rfl rfl rfl h
        · rcases zif_inv h with ⟨hc5, h⟩ | ⟨hc5, h⟩
          · refine y_sw (k := 4) (t := 95) rfl (by rw [hc5]; decide) (by decide) rfl rfl ?_
            refine y_pure (pc' := 96) (st' := [.ref 64]) rfl rfl ?_
            refine y_getf (pc' := 99) (v := .ref 86) rfl rfl rfl zc_64 rfl rfl ?_
            refine y_getf (pc' := 102) (v := .int (M.1 86 3)) rfl rfl rfl zc_86 rfl rfl ?_
            exact y_ret rfl rfl rfl rfl h
          · rcases zif_inv h with ⟨hc6, h⟩ | ⟨hc6, h⟩
            · refine y_sw (k := 5) (t := 103) rfl (by rw [hc6]; decide) (by decide) rfl rfl ?_
              refine y_pure (pc' := 104) (st' := [.ref 64]) rfl rfl ?_
              refine y_getf (pc' := 107) (v := .ref 86) rfl rfl rfl zc_64 rfl rfl ?_
              refine y_getf (pc' := 110) (v := .long (M.2 86 5)) rfl rfl rfl zc_86 rfl rfl ?_
              obtain ⟨v17, M16, he15, h⟩ := zC1_inv h
              refine y_callS (pc' := 113) (y := zmJL_bitCount) (a := [.long (M.2 86 5)]) (st' := []) rfl rfl rfl rfl rfl rfl he15 rfl rfl ?_
              exact y_ret rfl rfl rfl rfl h
            · rcases zif_inv h with ⟨hc7, h⟩ | ⟨hc7, h⟩
              · refine y_sw (k := 6) (t := 114) rfl (by rw [hc7]; decide) (by decide) rfl rfl ?_
                refine y_pure (pc' := 115) (st' := [.ref 64]) rfl rfl ?_
                refine y_getf (pc' := 118) (v := .ref 86) rfl rfl rfl zc_64 rfl rfl ?_
                refine y_getf (pc' := 121) (v := .long (M.2 86 5)) rfl rfl rfl zc_86 rfl rfl ?_
                refine y_pure (pc' := 122) (st' := [.ref 64, .long (M.2 86 5)]) rfl rfl ?_
                refine y_getf (pc' := 125) (v := .ref 86) rfl rfl rfl zc_64 rfl rfl ?_
                refine y_getf (pc' := 128) (v := .long (M.2 86 6)) rfl rfl rfl zc_86 rfl rfl ?_
                refine y_pure (pc' := 129) (st' := [.long ((M.2 86 5) ||| (M.2 86 6))]) rfl rfl ?_
                obtain ⟨v20, M19, he18, h⟩ := zC1_inv h
                refine y_callS (pc' := 132) (y := zmJL_bitCount) (a := [.long ((M.2 86 5) ||| (M.2 86 6))]) (st' := []) rfl rfl rfl rfl rfl rfl he18 rfl rfl ?_
                exact y_ret rfl rfl rfl rfl h
              · rcases zif_inv h with ⟨hc8, h⟩ | ⟨hc8, h⟩
                · refine y_sw (k := 7) (t := 133) rfl (by rw [hc8]; decide) (by decide) rfl rfl ?_
                  refine y_pure (pc' := 134) (st' := [.ref 64]) rfl rfl ?_
                  refine y_getf (pc' := 137) (v := .ref 86) rfl rfl rfl zc_64 rfl rfl ?_
                  obtain ⟨v23, M22, he21, h⟩ := zC1_inv h
                  refine y_callV (pc' := 140) (y := zmB_manyMarks) (a' := []) (st' := []) rfl rfl rfl rfl rfl (zrecv_o (o := 0) zc_86 rfl) rfl he21 rfl rfl ?_
                  exact y_ret rfl rfl rfl rfl h
                · rcases zif_inv h with ⟨hc9, h⟩ | ⟨hc9, h⟩
                  · refine y_sw (k := 8) (t := 141) rfl (by rw [hc9]; decide) (by decide) rfl rfl ?_
                    refine y_pure (pc' := 142) (st' := [.ref 64]) rfl rfl ?_
                    refine y_getf (pc' := 145) (v := .int (M.1 64 5)) rfl rfl rfl zc_64 rfl rfl ?_
                    exact y_ret rfl rfl rfl rfl h
                  · rcases zif_inv h with ⟨hc10, h⟩ | ⟨hc10, h⟩
                    · refine y_sw (k := 9) (t := 146) rfl (by rw [hc10]; decide) (by decide) rfl rfl ?_
                      refine y_pure (pc' := 147) (st' := [.ref 64]) rfl rfl ?_
                      refine y_getf (pc' := 150) (v := .ref 65) rfl rfl rfl zc_64 rfl rfl ?_
                      obtain ⟨v26, M25, he24, h⟩ := zC1_inv h
                      refine y_callV (pc' := 153) (y := zmT_length) (a' := []) (st' := []) rfl rfl rfl rfl rfl (zrecv_o (o := 6) zc_65 rfl) rfl he24 rfl rfl ?_
                      exact y_ret rfl rfl rfl rfl h
                    · rcases zif_inv h with ⟨hc11, h⟩ | ⟨hc11, h⟩
                      · refine y_sw (k := 10) (t := 154) rfl (by rw [hc11]; decide) (by decide) rfl rfl ?_
                        refine y_pure (pc' := 155) (st' := [.ref 64]) rfl rfl ?_
                        refine y_getf (pc' := 158) (v := .int (M.1 64 7)) rfl rfl rfl zc_64 rfl rfl ?_
                        exact y_ret rfl rfl rfl rfl h
                      · refine y_swD (t := 159) rfl (by have q0 := zsw_ne (k := 0) (by decide) hc1; have q1 := zsw_ne (k := 1) (by decide) hc2; have q2 := zsw_ne (k := 2) (by decide) hc3; have q3 := zsw_ne (k := 3) (by decide) hc4; have q4 := zsw_ne (k := 4) (by decide) hc5; have q5 := zsw_ne (k := 5) (by decide) hc6; have q6 := zsw_ne (k := 6) (by decide) hc7; have q7 := zsw_ne (k := 7) (by decide) hc8; have q8 := zsw_ne (k := 8) (by decide) hc9; have q9 := zsw_ne (k := 9) (by decide) hc10; have q10 := zsw_ne (k := 10) (by decide) hc11; omega) rfl ?_
                        refine y_pure (pc' := 160) (st' := [.int (-1 : Int32)]) rfl rfl ?_
                        exact y_ret rfl rfl rfl rfl h
theorem e_C_mostTotal {d : Nat} {x0 : Int32} {M : ZM} {r : ZR}  (h : (if x0 = (nI 0) then some (some (.int (nI 99)), M) else (if x0 = (nI 1) then some (some (.int (nI 999999)), M) else (if x0 = (nI 2) then some (some (.int (nI 6)), M) else some (some (.int (nI 0)), M)))) = some r) : zEv (d + 1) zmC_mostTotal [.int x0] M = some r := by
  rw [zEv_succ]
  show zEx0 (zEv d) zmC_mostTotal (0, [(0, .int x0)], [], M) = some r
  refine y_pure (pc' := 1) (st' := [.int x0]) rfl rfl ?_
  rcases zif_inv h with ⟨hc1, h⟩ | ⟨hc1, h⟩
  · refine y_cnd (pc' := 4) rfl rfl (zc_neF hc1) rfl ?_
    refine y_pure (pc' := 6) (st' := [.int (nI 99)]) rfl rfl ?_
    refine y_pure (pc' := 31) rfl rfl ?_
    exact y_ret rfl rfl rfl rfl h
  · refine y_cnd (pc' := 9) rfl rfl (zc_neT hc1) rfl ?_
    refine y_pure (pc' := 10) (st' := [.int x0]) rfl rfl ?_
    refine y_pure (pc' := 11) (st' := [.int (nI 1), .int x0]) rfl rfl ?_
    rcases zif_inv h with ⟨hc2, h⟩ | ⟨hc2, h⟩
    · refine y_cmp (pc' := 14) rfl rfl (zc_neF hc2) rfl ?_
      refine y_pure (pc' := 17) (st' := [.int (nI 999999)]) rfl rfl ?_
      refine y_pure (pc' := 31) rfl rfl ?_
      exact y_ret rfl rfl rfl rfl h
    · refine y_cmp (pc' := 20) rfl rfl (zc_neT hc2) rfl ?_
      refine y_pure (pc' := 21) (st' := [.int x0]) rfl rfl ?_
      refine y_pure (pc' := 22) (st' := [.int (nI 2), .int x0]) rfl rfl ?_
      rcases zif_inv h with ⟨hc3, h⟩ | ⟨hc3, h⟩
      · refine y_cmp (pc' := 25) rfl rfl (zc_neF hc3) rfl ?_
        refine y_pure (pc' := 27) (st' := [.int (nI 6)]) rfl rfl ?_
        refine y_pure (pc' := 31) rfl rfl ?_
        exact y_ret rfl rfl rfl rfl h
      · refine y_cmp (pc' := 30) rfl rfl (zc_neT hc3) rfl ?_
        refine y_pure (pc' := 31) (st' := [.int (nI 0)]) rfl rfl ?_
        exact y_ret rfl rfl rfl rfl h
noncomputable def h_C_leastDigit_2 (d : Nat) (x0 : Int32) (x1 : Int32) (M : ZM) : Option ZR := zEx0 (zEv d) zmC_leastDigit (2, [(0, .int x0), (1, .int x1)], [], M)
theorem e_C_leastDigit_2 {d : Nat} {x0 : Int32} {x1 : Int32} {M : ZM} {r : ZR}  (h : (if (nI 7) < x1 then some (some (.int (nI 0)), M) else (if ((x0 >>> (x1 &&& 31)) &&& (nI 1)) = (nI 1) then some (some (.int x1), M) else h_C_leastDigit_2 d x0 (x1 + (nI 1)) M)) = some r) : h_C_leastDigit_2 d x0 x1 M = some r := by
  show zEx0 (zEv d) zmC_leastDigit (2, [(0, .int x0), (1, .int x1)], [], M) = some r
  refine y_pure (pc' := 3) (st' := [.int x1]) rfl rfl ?_
  refine y_pure (pc' := 5) (st' := [.int (nI 7), .int x1]) rfl rfl ?_
  rcases zif_inv h with ⟨hc1, h⟩ | ⟨hc1, h⟩
  · refine y_cmp (pc' := 25) rfl rfl (zc_gtT hc1) rfl ?_
    refine y_pure (pc' := 26) (st' := [.int (nI 0)]) rfl rfl ?_
    exact y_ret rfl rfl rfl rfl h
  · refine y_cmp (pc' := 8) rfl rfl (zc_gtF hc1) rfl ?_
    refine y_pure (pc' := 9) (st' := [.int x0]) rfl rfl ?_
    refine y_pure (pc' := 10) (st' := [.int x1, .int x0]) rfl rfl ?_
    refine y_pure (pc' := 11) (st' := [.int (x0 >>> (x1 &&& 31))]) rfl rfl ?_
    refine y_pure (pc' := 12) (st' := [.int (nI 1), .int (x0 >>> (x1 &&& 31))]) rfl rfl ?_
    refine y_pure (pc' := 13) (st' := [.int ((x0 >>> (x1 &&& 31)) &&& (nI 1))]) rfl rfl ?_
    refine y_pure (pc' := 14) (st' := [.int (nI 1), .int ((x0 >>> (x1 &&& 31)) &&& (nI 1))]) rfl rfl ?_
    rcases zif_inv h with ⟨hc2, h⟩ | ⟨hc2, h⟩
    · refine y_cmp (pc' := 17) rfl rfl (zc_neF hc2) rfl ?_
      refine y_pure (pc' := 18) (st' := [.int x1]) rfl rfl ?_
      exact y_ret rfl rfl rfl rfl h
    · refine y_cmp (pc' := 19) rfl rfl (zc_neT hc2) rfl ?_
      refine y_pure (pc' := 22) (ls' := [(0, .int x0), (1, .int (x1 + (nI 1)))]) (st' := []) rfl rfl ?_
      refine y_pure (pc' := 2) rfl rfl ?_
      refine zEx_sub ?_ h
      exact ⟨rfl, rfl, trivial⟩
theorem e_C_leastDigit {d : Nat} {x0 : Int32} {M : ZM} {r : ZR}  (h : h_C_leastDigit_2 d x0 (nI 1) M = some r) : zEv (d + 1) zmC_leastDigit [.int x0] M = some r := by
  rw [zEv_succ]
  show zEx0 (zEv d) zmC_leastDigit (0, [(0, .int x0)], [], M) = some r
  refine y_pure (pc' := 1) (st' := [.int (nI 1)]) rfl rfl ?_
  refine y_pure (pc' := 2) (ls' := [(0, .int x0), (1, .int (nI 1))]) (st' := []) rfl rfl ?_
  refine zEx_sub ?_ h
  exact ⟨rfl, rfl, trivial⟩
noncomputable def h_C_greatestDigit_3 (d : Nat) (x0 : Int32) (x1 : Int32) (M : ZM) : Option ZR := zEx0 (zEv d) zmC_greatestDigit (3, [(0, .int x0), (1, .int x1)], [], M)
theorem e_C_greatestDigit_3 {d : Nat} {x0 : Int32} {x1 : Int32} {M : ZM} {r : ZR}  (h : (if x1 < (nI 1) then some (some (.int (nI 0)), M) else (if ((x0 >>> (x1 &&& 31)) &&& (nI 1)) = (nI 1) then some (some (.int x1), M) else h_C_greatestDigit_3 d x0 (x1 + (-1 : Int32)) M)) = some r) : h_C_greatestDigit_3 d x0 x1 M = some r := by
  show zEx0 (zEv d) zmC_greatestDigit (3, [(0, .int x0), (1, .int x1)], [], M) = some r
  refine y_pure (pc' := 4) (st' := [.int x1]) rfl rfl ?_
  refine y_pure (pc' := 5) (st' := [.int (nI 1), .int x1]) rfl rfl ?_
  rcases zif_inv h with ⟨hc1, h⟩ | ⟨hc1, h⟩
  · refine y_cmp (pc' := 25) rfl rfl (zc_ltT hc1) rfl ?_
    refine y_pure (pc' := 26) (st' := [.int (nI 0)]) rfl rfl ?_
    exact y_ret rfl rfl rfl rfl h
  · refine y_cmp (pc' := 8) rfl rfl (zc_ltF hc1) rfl ?_
    refine y_pure (pc' := 9) (st' := [.int x0]) rfl rfl ?_
    refine y_pure (pc' := 10) (st' := [.int x1, .int x0]) rfl rfl ?_
    refine y_pure (pc' := 11) (st' := [.int (x0 >>> (x1 &&& 31))]) rfl rfl ?_
    refine y_pure (pc' := 12) (st' := [.int (nI 1), .int (x0 >>> (x1 &&& 31))]) rfl rfl ?_
    refine y_pure (pc' := 13) (st' := [.int ((x0 >>> (x1 &&& 31)) &&& (nI 1))]) rfl rfl ?_
    refine y_pure (pc' := 14) (st' := [.int (nI 1), .int ((x0 >>> (x1 &&& 31)) &&& (nI 1))]) rfl rfl ?_
    rcases zif_inv h with ⟨hc2, h⟩ | ⟨hc2, h⟩
    · refine y_cmp (pc' := 17) rfl rfl (zc_neF hc2) rfl ?_
      refine y_pure (pc' := 18) (st' := [.int x1]) rfl rfl ?_
      exact y_ret rfl rfl rfl rfl h
    · refine y_cmp (pc' := 19) rfl rfl (zc_neT hc2) rfl ?_
      refine y_pure (pc' := 22) (ls' := [(0, .int x0), (1, .int (x1 + (-1 : Int32)))]) (st' := []) rfl rfl ?_
      refine y_pure (pc' := 3) rfl rfl ?_
      refine zEx_sub ?_ h
      exact ⟨rfl, rfl, trivial⟩
theorem e_C_greatestDigit {d : Nat} {x0 : Int32} {M : ZM} {r : ZR}  (h : h_C_greatestDigit_3 d x0 (nI 7) M = some r) : zEv (d + 1) zmC_greatestDigit [.int x0] M = some r := by
  rw [zEv_succ]
  show zEx0 (zEv d) zmC_greatestDigit (0, [(0, .int x0)], [], M) = some r
  refine y_pure (pc' := 2) (st' := [.int (nI 7)]) rfl rfl ?_
  refine y_pure (pc' := 3) (ls' := [(0, .int x0), (1, .int (nI 7))]) (st' := []) rfl rfl ?_
  refine zEx_sub ?_ h
  exact ⟨rfl, rfl, trivial⟩
noncomputable def h_C_totalOfSet_13 (d : Nat) (x0 : Int32) (x1 : Int32) (x2 : Int32) (x3 : Int32) (x4 : Int32) (x5 : Int32) (x6 : Int32) (M : ZM) : Option ZR := zEx0 (zEv d) zmC_totalOfSet (13, [(0, .int x0), (1, .int x1), (2, .int x2), (3, .int x3), (4, .int x4), (5, .int x5), (6, .int x6)], [], M)
theorem e_C_totalOfSet_13 {d : Nat} {x0 : Int32} {x1 : Int32} {x2 : Int32} {x3 : Int32} {x4 : Int32} {x5 : Int32} {x6 : Int32} {M : ZM} {r : ZR}  (h : (if (nI 7) < x6 then (if x0 = (nI 0) then some (some (.int x2), M) else (if x0 = (nI 1) then some (some (.int x3), M) else (if x0 = (nI 2) then some (some (.int (x5 - x4)), M) else some (some (.int (nI 0)), M)))) else (if ((x1 >>> (x6 &&& 31)) &&& (nI 1)) = (nI 1) then (if x4 = (nI 0) then h_C_totalOfSet_13 d x0 x1 (x2 + x6) (x3 * x6) x6 x6 (x6 + (nI 1)) M else h_C_totalOfSet_13 d x0 x1 (x2 + x6) (x3 * x6) x4 x6 (x6 + (nI 1)) M) else h_C_totalOfSet_13 d x0 x1 x2 x3 x4 x5 (x6 + (nI 1)) M)) = some r) : h_C_totalOfSet_13 d x0 x1 x2 x3 x4 x5 x6 M = some r := by
  show zEx0 (zEv d) zmC_totalOfSet (13, [(0, .int x0), (1, .int x1), (2, .int x2), (3, .int x3), (4, .int x4), (5, .int x5), (6, .int x6)], [], M) = some r
  refine y_pure (pc' := 15) (st' := [.int x6]) rfl rfl ?_
  refine y_pure (pc' := 17) (st' := [.int (nI 7), .int x6]) rfl rfl ?_
  rcases zif_inv h with ⟨hc1, h⟩ | ⟨hc1, h⟩
  · refine y_cmp (pc' := 64) rfl rfl (zc_gtT hc1) rfl ?_
    refine y_pure (pc' := 65) (st' := [.int x0]) rfl rfl ?_
    rcases zif_inv h with ⟨hc2, h⟩ | ⟨hc2, h⟩
    · refine y_cnd (pc' := 68) rfl rfl (zc_neF hc2) rfl ?_
      refine y_pure (pc' := 69) (st' := [.int x2]) rfl rfl ?_
      refine y_pure (pc' := 95) rfl rfl ?_
      exact y_ret rfl rfl rfl rfl h
    · refine y_cnd (pc' := 72) rfl rfl (zc_neT hc2) rfl ?_
      refine y_pure (pc' := 73) (st' := [.int x0]) rfl rfl ?_
      refine y_pure (pc' := 74) (st' := [.int (nI 1), .int x0]) rfl rfl ?_
      rcases zif_inv h with ⟨hc3, h⟩ | ⟨hc3, h⟩
      · refine y_cmp (pc' := 77) rfl rfl (zc_neF hc3) rfl ?_
        refine y_pure (pc' := 78) (st' := [.int x3]) rfl rfl ?_
        refine y_pure (pc' := 95) rfl rfl ?_
        exact y_ret rfl rfl rfl rfl h
      · refine y_cmp (pc' := 81) rfl rfl (zc_neT hc3) rfl ?_
        refine y_pure (pc' := 82) (st' := [.int x0]) rfl rfl ?_
        refine y_pure (pc' := 83) (st' := [.int (nI 2), .int x0]) rfl rfl ?_
        rcases zif_inv h with ⟨hc4, h⟩ | ⟨hc4, h⟩
        · refine y_cmp (pc' := 86) rfl rfl (zc_neF hc4) rfl ?_
          refine y_pure (pc' := 88) (st' := [.int x5]) rfl rfl ?_
          refine y_pure (pc' := 90) (st' := [.int x4, .int x5]) rfl rfl ?_
          refine y_pure (pc' := 91) (st' := [.int (x5 - x4)]) rfl rfl ?_
          refine y_pure (pc' := 95) rfl rfl ?_
          exact y_ret rfl rfl rfl rfl h
        · refine y_cmp (pc' := 94) rfl rfl (zc_neT hc4) rfl ?_
          refine y_pure (pc' := 95) (st' := [.int (nI 0)]) rfl rfl ?_
          exact y_ret rfl rfl rfl rfl h
  · refine y_cmp (pc' := 20) rfl rfl (zc_gtF hc1) rfl ?_
    refine y_pure (pc' := 21) (st' := [.int x1]) rfl rfl ?_
    refine y_pure (pc' := 23) (st' := [.int x6, .int x1]) rfl rfl ?_
    refine y_pure (pc' := 24) (st' := [.int (x1 >>> (x6 &&& 31))]) rfl rfl ?_
    refine y_pure (pc' := 25) (st' := [.int (nI 1), .int (x1 >>> (x6 &&& 31))]) rfl rfl ?_
    refine y_pure (pc' := 26) (st' := [.int ((x1 >>> (x6 &&& 31)) &&& (nI 1))]) rfl rfl ?_
    refine y_pure (pc' := 27) (st' := [.int (nI 1), .int ((x1 >>> (x6 &&& 31)) &&& (nI 1))]) rfl rfl ?_
    rcases zif_inv h with ⟨hc5, h⟩ | ⟨hc5, h⟩
    · refine y_cmp (pc' := 30) rfl rfl (zc_neF hc5) rfl ?_
      refine y_pure (pc' := 31) (st' := [.int x2]) rfl rfl ?_
      refine y_pure (pc' := 33) (st' := [.int x6, .int x2]) rfl rfl ?_
      refine y_pure (pc' := 34) (st' := [.int (x2 + x6)]) rfl rfl ?_
      refine y_pure (pc' := 35) (ls' := [(0, .int x0), (1, .int x1), (2, .int (x2 + x6)), (3, .int x3), (4, .int x4), (5, .int x5), (6, .int x6)]) (st' := []) rfl rfl ?_
      refine y_pure (pc' := 36) (st' := [.int x3]) rfl rfl ?_
      refine y_pure (pc' := 38) (st' := [.int x6, .int x3]) rfl rfl ?_
      refine y_pure (pc' := 39) (st' := [.int (x3 * x6)]) rfl rfl ?_
      refine y_pure (pc' := 40) (ls' := [(0, .int x0), (1, .int x1), (2, .int (x2 + x6)), (3, .int (x3 * x6)), (4, .int x4), (5, .int x5), (6, .int x6)]) (st' := []) rfl rfl ?_
      refine y_pure (pc' := 42) (st' := [.int x4]) rfl rfl ?_
      rcases zif_inv h with ⟨hc6, h⟩ | ⟨hc6, h⟩
      · refine y_cnd (pc' := 45) rfl rfl (zc_neF hc6) rfl ?_
        refine y_pure (pc' := 47) (st' := [.int x6]) rfl rfl ?_
        refine y_pure (pc' := 52) rfl rfl ?_
        refine y_pure (pc' := 54) (ls' := [(0, .int x0), (1, .int x1), (2, .int (x2 + x6)), (3, .int (x3 * x6)), (4, .int x6), (5, .int x5), (6, .int x6)]) (st' := []) rfl rfl ?_
        refine y_pure (pc' := 56) (st' := [.int x6]) rfl rfl ?_
        refine y_pure (pc' := 58) (ls' := [(0, .int x0), (1, .int x1), (2, .int (x2 + x6)), (3, .int (x3 * x6)), (4, .int x6), (5, .int x6), (6, .int x6)]) (st' := []) rfl rfl ?_
        refine y_pure (pc' := 61) (ls' := [(0, .int x0), (1, .int x1), (2, .int (x2 + x6)), (3, .int (x3 * x6)), (4, .int x6), (5, .int x6), (6, .int (x6 + (nI 1)))]) (st' := []) rfl rfl ?_
        refine y_pure (pc' := 13) rfl rfl ?_
        refine zEx_sub ?_ h
        exact ⟨rfl, rfl, rfl, rfl, rfl, rfl, rfl, trivial⟩
      · refine y_cnd (pc' := 50) rfl rfl (zc_neT hc6) rfl ?_
        refine y_pure (pc' := 52) (st' := [.int x4]) rfl rfl ?_
        refine y_pure (pc' := 54) (ls' := [(0, .int x0), (1, .int x1), (2, .int (x2 + x6)), (3, .int (x3 * x6)), (4, .int x4), (5, .int x5), (6, .int x6)]) (st' := []) rfl rfl ?_
        refine y_pure (pc' := 56) (st' := [.int x6]) rfl rfl ?_
        refine y_pure (pc' := 58) (ls' := [(0, .int x0), (1, .int x1), (2, .int (x2 + x6)), (3, .int (x3 * x6)), (4, .int x4), (5, .int x6), (6, .int x6)]) (st' := []) rfl rfl ?_
        refine y_pure (pc' := 61) (ls' := [(0, .int x0), (1, .int x1), (2, .int (x2 + x6)), (3, .int (x3 * x6)), (4, .int x4), (5, .int x6), (6, .int (x6 + (nI 1)))]) (st' := []) rfl rfl ?_
        refine y_pure (pc' := 13) rfl rfl ?_
        refine zEx_sub ?_ h
        exact ⟨rfl, rfl, rfl, rfl, rfl, rfl, rfl, trivial⟩
    · refine y_cmp (pc' := 58) rfl rfl (zc_neT hc5) rfl ?_
      refine y_pure (pc' := 61) (ls' := [(0, .int x0), (1, .int x1), (2, .int x2), (3, .int x3), (4, .int x4), (5, .int x5), (6, .int (x6 + (nI 1)))]) (st' := []) rfl rfl ?_
      refine y_pure (pc' := 13) rfl rfl ?_
      refine zEx_sub ?_ h
      exact ⟨rfl, rfl, rfl, rfl, rfl, rfl, rfl, trivial⟩
theorem e_C_totalOfSet {d : Nat} {x0 : Int32} {x1 : Int32} {M : ZM} {r : ZR}  (h : h_C_totalOfSet_13 d x0 x1 (nI 0) (nI 1) (nI 0) (nI 0) (nI 1) M = some r) : zEv (d + 1) zmC_totalOfSet [.int x0, .int x1] M = some r := by
  rw [zEv_succ]
  show zEx0 (zEv d) zmC_totalOfSet (0, [(0, .int x0), (1, .int x1)], [], M) = some r
  refine y_pure (pc' := 1) (st' := [.int (nI 0)]) rfl rfl ?_
  refine y_pure (pc' := 2) (ls' := [(0, .int x0), (1, .int x1), (2, .int (nI 0))]) (st' := []) rfl rfl ?_
  refine y_pure (pc' := 3) (st' := [.int (nI 1)]) rfl rfl ?_
  refine y_pure (pc' := 4) (ls' := [(0, .int x0), (1, .int x1), (2, .int (nI 0)), (3, .int (nI 1))]) (st' := []) rfl rfl ?_
  refine y_pure (pc' := 5) (st' := [.int (nI 0)]) rfl rfl ?_
  refine y_pure (pc' := 7) (ls' := [(0, .int x0), (1, .int x1), (2, .int (nI 0)), (3, .int (nI 1)), (4, .int (nI 0))]) (st' := []) rfl rfl ?_
  refine y_pure (pc' := 8) (st' := [.int (nI 0)]) rfl rfl ?_
  refine y_pure (pc' := 10) (ls' := [(0, .int x0), (1, .int x1), (2, .int (nI 0)), (3, .int (nI 1)), (4, .int (nI 0)), (5, .int (nI 0))]) (st' := []) rfl rfl ?_
  refine y_pure (pc' := 11) (st' := [.int (nI 1)]) rfl rfl ?_
  refine y_pure (pc' := 13) (ls' := [(0, .int x0), (1, .int x1), (2, .int (nI 0)), (3, .int (nI 1)), (4, .int (nI 0)), (5, .int (nI 0)), (6, .int (nI 1))]) (st' := []) rfl rfl ?_
  refine zEx_sub ?_ h
  exact ⟨rfl, rfl, rfl, rfl, rfl, rfl, rfl, trivial⟩
