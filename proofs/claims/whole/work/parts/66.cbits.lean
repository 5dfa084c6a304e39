/-! the JDK's bit counts (their runs printed by wip/whole/gen_eq.py with heads forced) -/
set_option linter.unusedVariables false
set_option maxRecDepth 50000
noncomputable def h_JI_bitCount_10 (d : Nat) (x0 : Int32) (M : ZM) : Option ZR := zEx0 (zEv d) zmJI_bitCount (10, [(0, .int x0)], [], M)
noncomputable def h_JI_bitCount_24 (d : Nat) (x0 : Int32) (M : ZM) : Option ZR := zEx0 (zEv d) zmJI_bitCount (24, [(0, .int x0)], [], M)
noncomputable def h_JI_bitCount_34 (d : Nat) (x0 : Int32) (M : ZM) : Option ZR := zEx0 (zEv d) zmJI_bitCount (34, [(0, .int x0)], [], M)
noncomputable def h_JI_bitCount_41 (d : Nat) (x0 : Int32) (M : ZM) : Option ZR := zEx0 (zEv d) zmJI_bitCount (41, [(0, .int x0)], [], M)
noncomputable def h_JI_bitCount_48 (d : Nat) (x0 : Int32) (M : ZM) : Option ZR := zEx0 (zEv d) zmJI_bitCount (48, [(0, .int x0)], [], M)
theorem e_JI_bitCount_10 {d : Nat} {x0 : Int32} {M : ZM} {r : ZR}  (h : zL ((x0 &&& (nI 858993459)) + (((Int32.toUInt32 x0 >>> (Int32.toUInt32 (nI 2) &&& Int32.toUInt32 31)).toInt32) &&& (nI 858993459))) (fun y1 => h_JI_bitCount_24 d y1 M) = some r) : h_JI_bitCount_10 d x0 M = some r := by
  show zEx0 (zEv d) zmJI_bitCount (10, [(0, .int x0)], [], M) = some r
  refine y_pure (pc' := 11) (st' := [.int x0]) rfl rfl ?_
  refine y_pure (pc' := 14) (st' := [.int (nI 858993459), .int x0]) rfl rfl ?_
  refine y_pure (pc' := 15) (st' := [.int (x0 &&& (nI 858993459))]) rfl rfl ?_
  refine y_pure (pc' := 16) (st' := [.int x0, .int (x0 &&& (nI 858993459))]) rfl rfl ?_
  refine y_pure (pc' := 17) (st' := [.int (nI 2), .int x0, .int (x0 &&& (nI 858993459))]) rfl rfl ?_
  refine y_pure (pc' := 18) (st' := [.int ((Int32.toUInt32 x0 >>> (Int32.toUInt32 (nI 2) &&& Int32.toUInt32 31)).toInt32), .int (x0 &&& (nI 858993459))]) rfl rfl ?_
  refine y_pure (pc' := 21) (st' := [.int (nI 858993459), .int ((Int32.toUInt32 x0 >>> (Int32.toUInt32 (nI 2) &&& Int32.toUInt32 31)).toInt32), .int (x0 &&& (nI 858993459))]) rfl rfl ?_
  refine y_pure (pc' := 22) (st' := [.int (((Int32.toUInt32 x0 >>> (Int32.toUInt32 (nI 2) &&& Int32.toUInt32 31)).toInt32) &&& (nI 858993459)), .int (x0 &&& (nI 858993459))]) rfl rfl ?_
  refine y_pure (pc' := 23) (st' := [.int ((x0 &&& (nI 858993459)) + (((Int32.toUInt32 x0 >>> (Int32.toUInt32 (nI 2) &&& Int32.toUInt32 31)).toInt32) &&& (nI 858993459)))]) rfl rfl ?_
  obtain ⟨y1, e2, h⟩ := zL_inv h
  refine zT_gen e2 ?_
  refine y_pure (pc' := 24) (ls' := [(0, .int y1)]) (st' := []) rfl rfl ?_
  refine zEx_sub ?_ h
  exact ⟨rfl, trivial⟩
theorem e_JI_bitCount_24 {d : Nat} {x0 : Int32} {M : ZM} {r : ZR}  (h : zL ((x0 + ((Int32.toUInt32 x0 >>> (Int32.toUInt32 (nI 4) &&& Int32.toUInt32 31)).toInt32)) &&& (nI 252645135)) (fun y1 => h_JI_bitCount_34 d y1 M) = some r) : h_JI_bitCount_24 d x0 M = some r := by
  show zEx0 (zEv d) zmJI_bitCount (24, [(0, .int x0)], [], M) = some r
  refine y_pure (pc' := 25) (st' := [.int x0]) rfl rfl ?_
  refine y_pure (pc' := 26) (st' := [.int x0, .int x0]) rfl rfl ?_
  refine y_pure (pc' := 27) (st' := [.int (nI 4), .int x0, .int x0]) rfl rfl ?_
  refine y_pure (pc' := 28) (st' := [.int ((Int32.toUInt32 x0 >>> (Int32.toUInt32 (nI 4) &&& Int32.toUInt32 31)).toInt32), .int x0]) rfl rfl ?_
  refine y_pure (pc' := 29) (st' := [.int (x0 + ((Int32.toUInt32 x0 >>> (Int32.toUInt32 (nI 4) &&& Int32.toUInt32 31)).toInt32))]) rfl rfl ?_
  refine y_pure (pc' := 32) (st' := [.int (nI 252645135), .int (x0 + ((Int32.toUInt32 x0 >>> (Int32.toUInt32 (nI 4) &&& Int32.toUInt32 31)).toInt32))]) rfl rfl ?_
  refine y_pure (pc' := 33) (st' := [.int ((x0 + ((Int32.toUInt32 x0 >>> (Int32.toUInt32 (nI 4) &&& Int32.toUInt32 31)).toInt32)) &&& (nI 252645135))]) rfl rfl ?_
  obtain ⟨y1, e2, h⟩ := zL_inv h
  refine zT_gen e2 ?_
  refine y_pure (pc' := 34) (ls' := [(0, .int y1)]) (st' := []) rfl rfl ?_
  refine zEx_sub ?_ h
  exact ⟨rfl, trivial⟩
theorem e_JI_bitCount_34 {d : Nat} {x0 : Int32} {M : ZM} {r : ZR}  (h : zL (x0 + ((Int32.toUInt32 x0 >>> (Int32.toUInt32 (nI 8) &&& Int32.toUInt32 31)).toInt32)) (fun y1 => h_JI_bitCount_41 d y1 M) = some r) : h_JI_bitCount_34 d x0 M = some r := by
  show zEx0 (zEv d) zmJI_bitCount (34, [(0, .int x0)], [], M) = some r
  refine y_pure (pc' := 35) (st' := [.int x0]) rfl rfl ?_
  refine y_pure (pc' := 36) (st' := [.int x0, .int x0]) rfl rfl ?_
  refine y_pure (pc' := 38) (st' := [.int (nI 8), .int x0, .int x0]) rfl rfl ?_
  refine y_pure (pc' := 39) (st' := [.int ((Int32.toUInt32 x0 >>> (Int32.toUInt32 (nI 8) &&& Int32.toUInt32 31)).toInt32), .int x0]) rfl rfl ?_
  refine y_pure (pc' := 40) (st' := [.int (x0 + ((Int32.toUInt32 x0 >>> (Int32.toUInt32 (nI 8) &&& Int32.toUInt32 31)).toInt32))]) rfl rfl ?_
  obtain ⟨y1, e2, h⟩ := zL_inv h
  refine zT_gen e2 ?_
  refine y_pure (pc' := 41) (ls' := [(0, .int y1)]) (st' := []) rfl rfl ?_
  refine zEx_sub ?_ h
  exact ⟨rfl, trivial⟩
theorem e_JI_bitCount_41 {d : Nat} {x0 : Int32} {M : ZM} {r : ZR}  (h : zL (x0 + ((Int32.toUInt32 x0 >>> (Int32.toUInt32 (nI 16) &&& Int32.toUInt32 31)).toInt32)) (fun y1 => h_JI_bitCount_48 d y1 M) = some r) : h_JI_bitCount_41 d x0 M = some r := by
  show zEx0 (zEv d) zmJI_bitCount (41, [(0, .int x0)], [], M) = some r
  refine y_pure (pc' := 42) (st' := [.int x0]) rfl rfl ?_
  refine y_pure (pc' := 43) (st' := [.int x0, .int x0]) rfl rfl ?_
  refine y_pure (pc' := 45) (st' := [.int (nI 16), .int x0, .int x0]) rfl rfl ?_
  refine y_pure (pc' := 46) (st' := [.int ((Int32.toUInt32 x0 >>> (Int32.toUInt32 (nI 16) &&& Int32.toUInt32 31)).toInt32), .int x0]) rfl rfl ?_
  refine y_pure (pc' := 47) (st' := [.int (x0 + ((Int32.toUInt32 x0 >>> (Int32.toUInt32 (nI 16) &&& Int32.toUInt32 31)).toInt32))]) rfl rfl ?_
  obtain ⟨y1, e2, h⟩ := zL_inv h
  refine zT_gen e2 ?_
  refine y_pure (pc' := 48) (ls' := [(0, .int y1)]) (st' := []) rfl rfl ?_
  refine zEx_sub ?_ h
  exact ⟨rfl, trivial⟩
theorem e_JI_bitCount_48 {d : Nat} {x0 : Int32} {M : ZM} {r : ZR}  (h : some (some (.int (x0 &&& (nI 63))), M) = some r) : h_JI_bitCount_48 d x0 M = some r := by
  show zEx0 (zEv d) zmJI_bitCount (48, [(0, .int x0)], [], M) = some r
  refine y_pure (pc' := 49) (st' := [.int x0]) rfl rfl ?_
  refine y_pure (pc' := 51) (st' := [.int (nI 63), .int x0]) rfl rfl ?_
  refine y_pure (pc' := 52) (st' := [.int (x0 &&& (nI 63))]) rfl rfl ?_
  exact y_ret rfl rfl rfl rfl h
theorem e_JI_bitCount {d : Nat} {x0 : Int32} {M : ZM} {r : ZR}  (h : zL (x0 - (((Int32.toUInt32 x0 >>> (Int32.toUInt32 (nI 1) &&& Int32.toUInt32 31)).toInt32) &&& (nI 1431655765))) (fun y1 => h_JI_bitCount_10 d y1 M) = some r) : zEv (d + 1) zmJI_bitCount [.int x0] M = some r := by
  rw [zEv_succ]
  show zEx0 (zEv d) zmJI_bitCount (0, [(0, .int x0)], [], M) = some r
  refine y_pure (pc' := 1) (st' := [.int x0]) rfl rfl ?_
  refine y_pure (pc' := 2) (st' := [.int x0, .int x0]) rfl rfl ?_
  refine y_pure (pc' := 3) (st' := [.int (nI 1), .int x0, .int x0]) rfl rfl ?_
  refine y_pure (pc' := 4) (st' := [.int ((Int32.toUInt32 x0 >>> (Int32.toUInt32 (nI 1) &&& Int32.toUInt32 31)).toInt32), .int x0]) rfl rfl ?_
  refine y_pure (pc' := 7) (st' := [.int (nI 1431655765), .int ((Int32.toUInt32 x0 >>> (Int32.toUInt32 (nI 1) &&& Int32.toUInt32 31)).toInt32), .int x0]) rfl rfl ?_
  refine y_pure (pc' := 8) (st' := [.int (((Int32.toUInt32 x0 >>> (Int32.toUInt32 (nI 1) &&& Int32.toUInt32 31)).toInt32) &&& (nI 1431655765)), .int x0]) rfl rfl ?_
  refine y_pure (pc' := 9) (st' := [.int (x0 - (((Int32.toUInt32 x0 >>> (Int32.toUInt32 (nI 1) &&& Int32.toUInt32 31)).toInt32) &&& (nI 1431655765)))]) rfl rfl ?_
  obtain ⟨y1, e2, h⟩ := zL_inv h
  refine zT_gen e2 ?_
  refine y_pure (pc' := 10) (ls' := [(0, .int y1)]) (st' := []) rfl rfl ?_
  refine zEx_sub ?_ h
  exact ⟨rfl, trivial⟩
noncomputable def h_JL_bitCount_10 (d : Nat) (x0 : Int64) (M : ZM) : Option ZR := zEx0 (zEv d) zmJL_bitCount (10, [(0, .long x0)], [], M)
noncomputable def h_JL_bitCount_24 (d : Nat) (x0 : Int64) (M : ZM) : Option ZR := zEx0 (zEv d) zmJL_bitCount (24, [(0, .long x0)], [], M)
noncomputable def h_JL_bitCount_34 (d : Nat) (x0 : Int64) (M : ZM) : Option ZR := zEx0 (zEv d) zmJL_bitCount (34, [(0, .long x0)], [], M)
noncomputable def h_JL_bitCount_41 (d : Nat) (x0 : Int64) (M : ZM) : Option ZR := zEx0 (zEv d) zmJL_bitCount (41, [(0, .long x0)], [], M)
noncomputable def h_JL_bitCount_48 (d : Nat) (x0 : Int64) (M : ZM) : Option ZR := zEx0 (zEv d) zmJL_bitCount (48, [(0, .long x0)], [], M)
theorem e_JL_bitCount_10 {d : Nat} {x0 : Int64} {M : ZM} {r : ZR}  (h : zL ((x0 &&& (nJ 3689348814741910323)) + (((Int64.toUInt64 x0 >>> ((Int32.toInt64 (nI 2)).toUInt64 &&& Int64.toUInt64 63)).toInt64) &&& (nJ 3689348814741910323))) (fun y1 => h_JL_bitCount_24 d y1 M) = some r) : h_JL_bitCount_10 d x0 M = some r := by
  show zEx0 (zEv d) zmJL_bitCount (10, [(0, .long x0)], [], M) = some r
  refine y_pure (pc' := 11) (st' := [.long x0]) rfl rfl ?_
  refine y_pure (pc' := 14) (st' := [.long (nJ 3689348814741910323), .long x0]) rfl rfl ?_
  refine y_pure (pc' := 15) (st' := [.long (x0 &&& (nJ 3689348814741910323))]) rfl rfl ?_
  refine y_pure (pc' := 16) (st' := [.long x0, .long (x0 &&& (nJ 3689348814741910323))]) rfl rfl ?_
  refine y_pure (pc' := 17) (st' := [.int (nI 2), .long x0, .long (x0 &&& (nJ 3689348814741910323))]) rfl rfl ?_
  refine y_pure (pc' := 18) (st' := [.long ((Int64.toUInt64 x0 >>> ((Int32.toInt64 (nI 2)).toUInt64 &&& Int64.toUInt64 63)).toInt64), .long (x0 &&& (nJ 3689348814741910323))]) rfl rfl ?_
  refine y_pure (pc' := 21) (st' := [.long (nJ 3689348814741910323), .long ((Int64.toUInt64 x0 >>> ((Int32.toInt64 (nI 2)).toUInt64 &&& Int64.toUInt64 63)).toInt64), .long (x0 &&& (nJ 3689348814741910323))]) rfl rfl ?_
  refine y_pure (pc' := 22) (st' := [.long (((Int64.toUInt64 x0 >>> ((Int32.toInt64 (nI 2)).toUInt64 &&& Int64.toUInt64 63)).toInt64) &&& (nJ 3689348814741910323)), .long (x0 &&& (nJ 3689348814741910323))]) rfl rfl ?_
  refine y_pure (pc' := 23) (st' := [.long ((x0 &&& (nJ 3689348814741910323)) + (((Int64.toUInt64 x0 >>> ((Int32.toInt64 (nI 2)).toUInt64 &&& Int64.toUInt64 63)).toInt64) &&& (nJ 3689348814741910323)))]) rfl rfl ?_
  obtain ⟨y1, e2, h⟩ := zL_inv h
  refine zT_genL e2 ?_
  refine y_pure (pc' := 24) (ls' := [(0, .long y1)]) (st' := []) rfl rfl ?_
  refine zEx_sub ?_ h
  exact ⟨rfl, trivial⟩
theorem e_JL_bitCount_24 {d : Nat} {x0 : Int64} {M : ZM} {r : ZR}  (h : zL ((x0 + ((Int64.toUInt64 x0 >>> ((Int32.toInt64 (nI 4)).toUInt64 &&& Int64.toUInt64 63)).toInt64)) &&& (nJ 1085102592571150095)) (fun y1 => h_JL_bitCount_34 d y1 M) = some r) : h_JL_bitCount_24 d x0 M = some r := by
  show zEx0 (zEv d) zmJL_bitCount (24, [(0, .long x0)], [], M) = some r
  refine y_pure (pc' := 25) (st' := [.long x0]) rfl rfl ?_
  refine y_pure (pc' := 26) (st' := [.long x0, .long x0]) rfl rfl ?_
  refine y_pure (pc' := 27) (st' := [.int (nI 4), .long x0, .long x0]) rfl rfl ?_
  refine y_pure (pc' := 28) (st' := [.long ((Int64.toUInt64 x0 >>> ((Int32.toInt64 (nI 4)).toUInt64 &&& Int64.toUInt64 63)).toInt64), .long x0]) rfl rfl ?_
  refine y_pure (pc' := 29) (st' := [.long (x0 + ((Int64.toUInt64 x0 >>> ((Int32.toInt64 (nI 4)).toUInt64 &&& Int64.toUInt64 63)).toInt64))]) rfl rfl ?_
  refine y_pure (pc' := 32) (st' := [.long (nJ 1085102592571150095), .long (x0 + ((Int64.toUInt64 x0 >>> ((Int32.toInt64 (nI 4)).toUInt64 &&& Int64.toUInt64 63)).toInt64))]) rfl rfl ?_
  refine y_pure (pc' := 33) (st' := [.long ((x0 + ((Int64.toUInt64 x0 >>> ((Int32.toInt64 (nI 4)).toUInt64 &&& Int64.toUInt64 63)).toInt64)) &&& (nJ 1085102592571150095))]) rfl rfl ?_
  obtain ⟨y1, e2, h⟩ := zL_inv h
  refine zT_genL e2 ?_
  refine y_pure (pc' := 34) (ls' := [(0, .long y1)]) (st' := []) rfl rfl ?_
  refine zEx_sub ?_ h
  exact ⟨rfl, trivial⟩
theorem e_JL_bitCount_34 {d : Nat} {x0 : Int64} {M : ZM} {r : ZR}  (h : zL (x0 + ((Int64.toUInt64 x0 >>> ((Int32.toInt64 (nI 8)).toUInt64 &&& Int64.toUInt64 63)).toInt64)) (fun y1 => h_JL_bitCount_41 d y1 M) = some r) : h_JL_bitCount_34 d x0 M = some r := by
  show zEx0 (zEv d) zmJL_bitCount (34, [(0, .long x0)], [], M) = some r
  refine y_pure (pc' := 35) (st' := [.long x0]) rfl rfl ?_
  refine y_pure (pc' := 36) (st' := [.long x0, .long x0]) rfl rfl ?_
  refine y_pure (pc' := 38) (st' := [.int (nI 8), .long x0, .long x0]) rfl rfl ?_
  refine y_pure (pc' := 39) (st' := [.long ((Int64.toUInt64 x0 >>> ((Int32.toInt64 (nI 8)).toUInt64 &&& Int64.toUInt64 63)).toInt64), .long x0]) rfl rfl ?_
  refine y_pure (pc' := 40) (st' := [.long (x0 + ((Int64.toUInt64 x0 >>> ((Int32.toInt64 (nI 8)).toUInt64 &&& Int64.toUInt64 63)).toInt64))]) rfl rfl ?_
  obtain ⟨y1, e2, h⟩ := zL_inv h
  refine zT_genL e2 ?_
  refine y_pure (pc' := 41) (ls' := [(0, .long y1)]) (st' := []) rfl rfl ?_
  refine zEx_sub ?_ h
  exact ⟨rfl, trivial⟩
theorem e_JL_bitCount_41 {d : Nat} {x0 : Int64} {M : ZM} {r : ZR}  (h : zL (x0 + ((Int64.toUInt64 x0 >>> ((Int32.toInt64 (nI 16)).toUInt64 &&& Int64.toUInt64 63)).toInt64)) (fun y1 => h_JL_bitCount_48 d y1 M) = some r) : h_JL_bitCount_41 d x0 M = some r := by
  show zEx0 (zEv d) zmJL_bitCount (41, [(0, .long x0)], [], M) = some r
  refine y_pure (pc' := 42) (st' := [.long x0]) rfl rfl ?_
  refine y_pure (pc' := 43) (st' := [.long x0, .long x0]) rfl rfl ?_
  refine y_pure (pc' := 45) (st' := [.int (nI 16), .long x0, .long x0]) rfl rfl ?_
  refine y_pure (pc' := 46) (st' := [.long ((Int64.toUInt64 x0 >>> ((Int32.toInt64 (nI 16)).toUInt64 &&& Int64.toUInt64 63)).toInt64), .long x0]) rfl rfl ?_
  refine y_pure (pc' := 47) (st' := [.long (x0 + ((Int64.toUInt64 x0 >>> ((Int32.toInt64 (nI 16)).toUInt64 &&& Int64.toUInt64 63)).toInt64))]) rfl rfl ?_
  obtain ⟨y1, e2, h⟩ := zL_inv h
  refine zT_genL e2 ?_
  refine y_pure (pc' := 48) (ls' := [(0, .long y1)]) (st' := []) rfl rfl ?_
  refine zEx_sub ?_ h
  exact ⟨rfl, trivial⟩
theorem e_JL_bitCount_48 {d : Nat} {x0 : Int64} {M : ZM} {r : ZR}  (h : zL (x0 + ((Int64.toUInt64 x0 >>> ((Int32.toInt64 (nI 32)).toUInt64 &&& Int64.toUInt64 63)).toInt64)) (fun y1 => some (some (.int ((Int64.toInt32 y1) &&& (nI 127))), M)) = some r) : h_JL_bitCount_48 d x0 M = some r := by
  show zEx0 (zEv d) zmJL_bitCount (48, [(0, .long x0)], [], M) = some r
  refine y_pure (pc' := 49) (st' := [.long x0]) rfl rfl ?_
  refine y_pure (pc' := 50) (st' := [.long x0, .long x0]) rfl rfl ?_
  refine y_pure (pc' := 52) (st' := [.int (nI 32), .long x0, .long x0]) rfl rfl ?_
  refine y_pure (pc' := 53) (st' := [.long ((Int64.toUInt64 x0 >>> ((Int32.toInt64 (nI 32)).toUInt64 &&& Int64.toUInt64 63)).toInt64), .long x0]) rfl rfl ?_
  refine y_pure (pc' := 54) (st' := [.long (x0 + ((Int64.toUInt64 x0 >>> ((Int32.toInt64 (nI 32)).toUInt64 &&& Int64.toUInt64 63)).toInt64))]) rfl rfl ?_
  obtain ⟨y1, e2, h⟩ := zL_inv h
  refine zT_genL e2 ?_
  refine y_pure (pc' := 55) (ls' := [(0, .long y1)]) (st' := []) rfl rfl ?_
  refine y_pure (pc' := 56) (st' := [.long y1]) rfl rfl ?_
  refine y_pure (pc' := 57) (st' := [.int (Int64.toInt32 y1)]) rfl rfl ?_
  refine y_pure (pc' := 59) (st' := [.int (nI 127), .int (Int64.toInt32 y1)]) rfl rfl ?_
  refine y_pure (pc' := 60) (st' := [.int ((Int64.toInt32 y1) &&& (nI 127))]) rfl rfl ?_
  exact y_ret rfl rfl rfl rfl h
theorem e_JL_bitCount {d : Nat} {x0 : Int64} {M : ZM} {r : ZR}  (h : zL (x0 - (((Int64.toUInt64 x0 >>> ((Int32.toInt64 (nI 1)).toUInt64 &&& Int64.toUInt64 63)).toInt64) &&& (nJ 6148914691236517205))) (fun y1 => h_JL_bitCount_10 d y1 M) = some r) : zEv (d + 1) zmJL_bitCount [.long x0] M = some r := by
  rw [zEv_succ]
  show zEx0 (zEv d) zmJL_bitCount (0, [(0, .long x0)], [], M) = some r
  refine y_pure (pc' := 1) (st' := [.long x0]) rfl rfl ?_
  refine y_pure (pc' := 2) (st' := [.long x0, .long x0]) rfl rfl ?_
  refine y_pure (pc' := 3) (st' := [.int (nI 1), .long x0, .long x0]) rfl rfl ?_
  refine y_pure (pc' := 4) (st' := [.long ((Int64.toUInt64 x0 >>> ((Int32.toInt64 (nI 1)).toUInt64 &&& Int64.toUInt64 63)).toInt64), .long x0]) rfl rfl ?_
  refine y_pure (pc' := 7) (st' := [.long (nJ 6148914691236517205), .long ((Int64.toUInt64 x0 >>> ((Int32.toInt64 (nI 1)).toUInt64 &&& Int64.toUInt64 63)).toInt64), .long x0]) rfl rfl ?_
  refine y_pure (pc' := 8) (st' := [.long (((Int64.toUInt64 x0 >>> ((Int32.toInt64 (nI 1)).toUInt64 &&& Int64.toUInt64 63)).toInt64) &&& (nJ 6148914691236517205)), .long x0]) rfl rfl ?_
  refine y_pure (pc' := 9) (st' := [.long (x0 - (((Int64.toUInt64 x0 >>> ((Int32.toInt64 (nI 1)).toUInt64 &&& Int64.toUInt64 63)).toInt64) &&& (nJ 6148914691236517205)))]) rfl rfl ?_
  obtain ⟨y1, e2, h⟩ := zL_inv h
  refine zT_genL e2 ?_
  refine y_pure (pc' := 10) (ls' := [(0, .long y1)]) (st' := []) rfl rfl ?_
  refine zEx_sub ?_ h
  exact ⟨rfl, trivial⟩
theorem n_ushr {a k : Nat} (ha : a < 4294967296) (hk : k < 32) : (Int32.toUInt32 (nI a) >>> (Int32.toUInt32 (nI k) &&& Int32.toUInt32 31)).toInt32 = nI (a / 2 ^ k) := by
  apply Int32.toBitVec_inj.mp
  show ((nI a).toUInt32 >>> (Int32.toUInt32 (nI k) &&& Int32.toUInt32 31)).toBitVec = BitVec.ofNat 32 _
  apply BitVec.eq_of_toNat_eq
  have e4 : ∀ k, k < 32 → (Int32.toUInt32 (nI k) &&& Int32.toUInt32 31).toNat % 32 = k := by decide +kernel
  have e5 : (nI a).toUInt32.toNat = a := by
    show (BitVec.ofNat 32 a).toNat = a
    rw [BitVec.toNat_ofNat]
    omega
  show ((nI a).toUInt32 >>> (Int32.toUInt32 (nI k) &&& Int32.toUInt32 31)).toNat = _
  have h3 : a / 2 ^ k ≤ a := Nat.div_le_self _ _
  rw [UInt32.toNat_shiftRight, e4 k hk, e5, Nat.shiftRight_eq_div_pow, BitVec.toNat_ofNat, Nat.mod_eq_of_lt (by omega)]
theorem l_ushr {a k : Nat} (ha : a < 18446744073709551616) (hk : k < 64) : (Int64.toUInt64 (nJ a) >>> ((Int32.toInt64 (nI k)).toUInt64 &&& Int64.toUInt64 63)).toInt64 = nJ (a / 2 ^ k) := by
  apply Int64.toBitVec_inj.mp
  show ((nJ a).toUInt64 >>> ((Int32.toInt64 (nI k)).toUInt64 &&& Int64.toUInt64 63)).toBitVec = BitVec.ofNat 64 _
  apply BitVec.eq_of_toNat_eq
  have e4 : ∀ k, k < 64 → ((Int32.toInt64 (nI k)).toUInt64 &&& Int64.toUInt64 63).toNat % 64 = k := by decide +kernel
  have e5 : (nJ a).toUInt64.toNat = a := by
    show (BitVec.ofNat 64 a).toNat = a
    rw [BitVec.toNat_ofNat]
    omega
  show ((nJ a).toUInt64 >>> ((Int32.toInt64 (nI k)).toUInt64 &&& Int64.toUInt64 63)).toNat = _
  have h3 : a / 2 ^ k ≤ a := Nat.div_le_self _ _
  rw [UInt64.toNat_shiftRight, e4 k hk, e5, Nat.shiftRight_eq_div_pow, BitVec.toNat_ofNat, Nat.mod_eq_of_lt (by omega)]
def bcI (x : Nat) : Nat :=
  let a := x - ((x / 2) &&& 1431655765)
  let b := (a &&& 858993459) + ((a / 4) &&& 858993459)
  let c := (b + b / 16) &&& 252645135
  let e := c + c / 256
  (e + e / 65536) &&& 63
theorem bcI_popc2 : ∀ a, a < 64 → ∀ b, b < 64 → bcI (64 * a + b) = popc (64 * a + b) := by decide +kernel
theorem bcI_popc (x : Nat) (h : x < 4096) : bcI x = popc x := by
  have := bcI_popc2 (x / 64) (by omega) (x % 64) (by omega)
  rwa [Nat.div_add_mod] at this
/-! longs -/
def bA (v : Nat) : Nat := v - ((v / 2) &&& 6148914691236517205)
def bB (v : Nat) : Nat := (v &&& 3689348814741910323) + ((v / 4) &&& 3689348814741910323)
def bC (v : Nat) : Nat := (v + v / 16) &&& 1085102592571150095
theorem and_split (x y a b : Nat) (h1 : x < 256) (h2 : a < 256) : (256 * y + x) &&& (256 * b + a) = 256 * (y &&& b) + (x &&& a) := by
  apply Nat.eq_of_testBit_eq
  intro i
  have h3 : x &&& a < 2 ^ 8 := Nat.lt_of_le_of_lt Nat.and_le_left h1
  rw [Nat.testBit_and, show (256 : Nat) = 2 ^ 8 from rfl, Nat.testBit_two_pow_mul_add _ h1, Nat.testBit_two_pow_mul_add _ h2, Nat.testBit_two_pow_mul_add _ h3, Nat.testBit_and, Nat.testBit_and]
  by_cases h : i < 8
  · rw [if_pos h, if_pos h, if_pos h]
  · rw [if_neg h, if_neg h, if_neg h]
/-- with narrower masks -/
def bAm (m v : Nat) : Nat := v - ((v / 2) &&& m)
def bBm (m v : Nat) : Nat := (v &&& m) + ((v / 4) &&& m)
def bCm (m v : Nat) : Nat := (v + v / 16) &&& m
theorem by1 : ∀ r, r < 256 → ((r / 2) &&& 85 ≤ r ∧ r - ((r / 2) &&& 85) < 256) ∧ ((128 + r / 2) &&& 85 = (r / 2) &&& 85) ∧ ((r / 2) &&& 85 = (r / 2) &&& 85) := by decide +kernel
theorem by2 : ∀ r, r < 256 → ∀ q, q < 4 → (64 * q + r / 4) &&& 51 = (r / 4) &&& 51 := by decide +kernel
/-- a byte's halves, counted -/
def byH (r : Nat) : Nat := bBm 51 (bAm 85 r)
theorem by3 : ∀ r, r < 256 → (byH r % 16 ≤ 4 ∧ byH r / 16 ≤ 4) ∧ (bAm 85 r &&& 51) + (bAm 85 r / 4 &&& 51) < 256 := by decide +kernel
theorem by4 : ∀ p, p < 5 → ∀ q, q < 5 → ∀ c, c < 5 → (16 * (c + p) + (p + q)) &&& 15 = p + q := by decide +kernel
theorem bA_split {m w r : Nat} (hr : r < 256) : bAm (256 * m + 85) (256 * w + r) = 256 * bAm m w + bAm 85 r := by
  obtain ⟨⟨h1, h2⟩, h3, -⟩ := by1 r hr
  unfold bAm
  have e : (256 * w + r) / 2 = 256 * (w / 2) + (128 * (w % 2) + r / 2) := by omega
  rw [e, and_split _ _ _ _ (by omega) (by omega)]
  have e2 : (128 * (w % 2) + r / 2) &&& 85 = (r / 2) &&& 85 := by
    rcases (show w % 2 = 0 ∨ w % 2 = 1 by omega) with z | z
    · rw [z, Nat.mul_zero, Nat.zero_add]
    · rw [z, Nat.mul_one]; exact h3
  have h4 : (w / 2) &&& m ≤ w := Nat.le_trans Nat.and_le_left (Nat.div_le_self _ _)
  rw [e2, Nat.mul_sub]
  have h5 : 256 * ((w / 2) &&& m) ≤ 256 * w := Nat.mul_le_mul_left _ h4
  omega
theorem bA_lt {r : Nat} (hr : r < 256) : bAm 85 r < 256 := (by1 r hr).1.2
theorem bB_split {m w r : Nat} (hr : r < 256) : bBm (256 * m + 51) (256 * w + r) = 256 * bBm m w + bBm 51 r := by
  unfold bBm
  have e : (256 * w + r) / 4 = 256 * (w / 4) + (64 * (w % 4) + r / 4) := by omega
  rw [e, and_split _ _ _ _ hr (by omega), and_split _ _ _ _ (by omega) (by omega), by2 r hr (w % 4) (by omega)]
  omega
theorem bC_split {m W R : Nat} (h1 : R % 16 ≤ 4 ∧ R / 16 ≤ 4) (h2 : W % 16 ≤ 4) : bCm (256 * m + 15) (256 * W + R) = 256 * bCm m W + (R % 16 + R / 16) := by
  unfold bCm
  have e : 256 * W + R + (256 * W + R) / 16 = 256 * (W + W / 16) + (16 * (W % 16 + R / 16) + (R / 16 + R % 16)) := by omega
  rw [e, and_split _ _ _ _ (by omega) (by omega), by4 (R / 16) (by omega) (R % 16) (by omega) (W % 16) (by omega)]
  omega
/-- a byte's bits -/
def byC (r : Nat) : Nat := byH r % 16 + byH r / 16
def cnt (n m : Nat) : Nat := (List.range n).countP fun i => m.testBit i
theorem byC_cnt : ∀ r, r < 256 → byC r = cnt 8 r := by decide +kernel
theorem cnt_split (n w r : Nat) (hr : r < 256) : cnt (8 + n) (256 * w + r) = cnt 8 r + cnt n w := by
  unfold cnt
  rw [List.range_add, List.countP_append, List.countP_map]
  congr 1
  · refine List.countP_congr fun i hi => ?_
    have := List.mem_range.mp hi
    rw [show (256 : Nat) = 2 ^ 8 from rfl, Nat.testBit_two_pow_mul_add _ hr, if_pos this]
  · refine List.countP_congr fun i hi => ?_
    show (256 * w + r).testBit (8 + i) = true ↔ _
    rw [show (256 : Nat) = 2 ^ 8 from rfl, Nat.testBit_two_pow_mul_add _ hr, if_neg (by omega), Nat.add_sub_cancel_left]
/-- the first three steps, byte by byte -/
def bX (m1 m2 m3 v : Nat) : Nat := bCm m3 (bBm m2 (bAm m1 v))
theorem bX_split {m1 m2 m3 w r : Nat} (hr : r < 256) (hw : bBm m2 (bAm m1 w) % 16 ≤ 4) : bX (256 * m1 + 85) (256 * m2 + 51) (256 * m3 + 15) (256 * w + r) = 256 * bX m1 m2 m3 w + byC r := by
  unfold bX
  obtain ⟨h1, h2⟩ := by3 r hr
  rw [bA_split hr, bB_split (bA_lt hr)]
  exact bC_split h1 hw
theorem bB_low {m1 m2 w r : Nat} (hr : r < 256) : bBm (256 * m2 + 51) (bAm (256 * m1 + 85) (256 * w + r)) % 16 ≤ 4 := by
  obtain ⟨h1, h2⟩ := by3 r hr
  rw [bA_split hr, bB_split (bA_lt hr)]
  have h3 := h1.1
  unfold byH at h3
  omega
theorem byC_le : ∀ r, r < 256 → byC r ≤ 8 := by decide +kernel
theorem bX_0 (m1 m2 m3 : Nat) : bX m1 m2 m3 0 = 0 := by
  unfold bX bCm bBm bAm
  simp
def bcL (v : Nat) : Nat :=
  let c := bX 6148914691236517205 3689348814741910323 1085102592571150095 v
  let e := c + c / 256
  let f := e + e / 65536
  (f + f / 4294967296) % 128
theorem bX_5 (v : Nat) (hv : v < 1099511627776) : ∃ c0 c1 c2 c3 c4 : Nat, bX 6148914691236517205 3689348814741910323 1085102592571150095 v = c0 + 256 * (c1 + 256 * (c2 + 256 * (c3 + 256 * c4))) ∧ (c0 ≤ 8 ∧ c1 ≤ 8 ∧ c2 ≤ 8 ∧ c3 ≤ 8 ∧ c4 ≤ 8) ∧ cnt 40 v = c0 + c1 + c2 + c3 + c4 := by
  have dv : ∀ x : Nat, x = 256 * (x / 256) + x % 256 := fun x => (Nat.div_add_mod x 256).symm
  have ml : ∀ x : Nat, x % 256 < 256 := fun x => Nat.mod_lt _ (by omega)
  have key : ∀ (m1 m2 m3 x : Nat), bBm m2 (bAm m1 (x / 256)) % 16 ≤ 4 → bX (256 * m1 + 85) (256 * m2 + 51) (256 * m3 + 15) x = 256 * bX m1 m2 m3 (x / 256) + byC (x % 256) := fun m1 m2 m3 x h => by
    have := bX_split (m1 := m1) (m2 := m2) (m3 := m3) (w := x / 256) (ml x) h
    rwa [← dv x] at this
  have low : ∀ (m1 m2 x : Nat), bBm (256 * m2 + 51) (bAm (256 * m1 + 85) x) % 16 ≤ 4 := fun m1 m2 x => by
    have := bB_low (m1 := m1) (m2 := m2) (w := x / 256) (ml x)
    rwa [← dv x] at this
  refine ⟨byC (v % 256), byC (v / 256 % 256), byC (v / 256 / 256 % 256), byC (v / 256 / 256 / 256 % 256), byC (v / 256 / 256 / 256 / 256 % 256), ?_, ⟨byC_le _ (ml _), byC_le _ (ml _), byC_le _ (ml _), byC_le _ (ml _), byC_le _ (ml _)⟩, ?_⟩
  · rw [show (6148914691236517205 : Nat) = 256 * (256 * (256 * (256 * (256 * 5592405 + 85) + 85) + 85) + 85) + 85 from rfl, show (3689348814741910323 : Nat) = 256 * (256 * (256 * (256 * (256 * 3355443 + 51) + 51) + 51) + 51) + 51 from rfl, show (1085102592571150095 : Nat) = 256 * (256 * (256 * (256 * (256 * 986895 + 15) + 15) + 15) + 15) + 15 from rfl]
    have e5 : v / 256 / 256 / 256 / 256 / 256 = 0 := by omega
    rw [key _ _ _ _ (low _ _ _), key _ _ _ _ (low _ _ _), key _ _ _ _ (low _ _ _), key _ _ _ _ (low _ _ _), key _ _ _ _ (by rw [e5]; unfold bBm bAm; simp), e5, bX_0]
    omega
  · have c8 : ∀ n x, cnt (8 + n) x = byC (x % 256) + cnt n (x / 256) := fun n x => by
      have := cnt_split n (x / 256) (x % 256) (ml x)
      rw [← dv x] at this
      rw [this, byC_cnt _ (ml x)]
    rw [show (40 : Nat) = 8 + (8 + (8 + (8 + (8 + 0)))) from rfl, c8, c8, c8, c8, c8]
    show _ + (_ + (_ + (_ + (_ + 0)))) = _
    omega
theorem bcL_cnt (v : Nat) (hv : v < 1099511627776) : bcL v = cnt 40 v := by
  obtain ⟨c0, c1, c2, c3, c4, h, hc, hn⟩ := bX_5 v hv
  unfold bcL
  rw [hn]
  simp only [h]
  have e1 : (c0 + 256 * (c1 + 256 * (c2 + 256 * (c3 + 256 * c4)))) / 256 = c1 + 256 * (c2 + 256 * (c3 + 256 * c4)) := by omega
  rw [e1]
  have e2 : (c0 + 256 * (c1 + 256 * (c2 + 256 * (c3 + 256 * c4))) + (c1 + 256 * (c2 + 256 * (c3 + 256 * c4)))) / 65536 = (c2 + c3) + 256 * ((c3 + c4) + 256 * c4) := by omega
  rw [e2]
  have e3 : (c0 + 256 * (c1 + 256 * (c2 + 256 * (c3 + 256 * c4))) + (c1 + 256 * (c2 + 256 * (c3 + 256 * c4))) + ((c2 + c3) + 256 * ((c3 + c4) + 256 * c4))) / 4294967296 = c4 := by omega
  rw [e3]
  omega
section QA
variable {d : Nat} {M : ZM}
theorem q_bitI {x : Nat} (hx : x < 4096) : zEv (d + 1) zmJI_bitCount [.int (nI x)] M = some (some (.int (nI (popc x))), M) := by
  rw [← bcI_popc x hx]
  have h1 : (x / 2) &&& 1431655765 ≤ x := Nat.le_trans Nat.and_le_left (Nat.div_le_self _ _)
  refine e_JI_bitCount ?_
  rw [n_ushr (k := 1) (by omega) (by omega), n_and, n_sub (by rw [Nat.pow_one]; exact h1), zLr, Nat.pow_one]
  generalize ha : x - (x / 2 &&& 1431655765) = a
  have ha2 : a < 4096 := by omega
  refine e_JI_bitCount_10 ?_
  have hb1 : a &&& 858993459 ≤ a := Nat.and_le_left
  have hb2 : (a / 2 ^ 2) &&& 858993459 ≤ a := Nat.le_trans Nat.and_le_left (Nat.div_le_self _ _)
  rw [n_ushr (k := 2) (by omega) (by omega), n_and, n_and, n_add, zLr]
  generalize hb : (a &&& 858993459) + ((a / 2 ^ 2) &&& 858993459) = b
  refine e_JI_bitCount_24 ?_
  have hc1 : b / 2 ^ 4 ≤ b := Nat.div_le_self _ _
  rw [n_ushr (k := 4) (by omega) (by omega), n_add, n_and, zLr]
  have hc2 : (b + b / 2 ^ 4) &&& 252645135 ≤ b + b / 2 ^ 4 := Nat.and_le_left
  generalize hc : (b + b / 2 ^ 4) &&& 252645135 = c
  refine e_JI_bitCount_34 ?_
  have he1 : c / 2 ^ 8 ≤ c := Nat.div_le_self _ _
  rw [n_ushr (k := 8) (by omega) (by omega), n_add, zLr]
  generalize he : c + c / 2 ^ 8 = e
  refine e_JI_bitCount_41 ?_
  rw [n_ushr (k := 16) (by omega) (by omega), n_add, zLr]
  refine e_JI_bitCount_48 ?_
  rw [n_and]
  unfold bcI
  rw [← he, ← hc, ← hb, ← ha]
theorem l_toI (a : Nat) : Int64.toInt32 (nJ a) = nI a := by
  apply Int32.toBitVec_inj.mp
  show (BitVec.ofNat 64 a).signExtend 32 = BitVec.ofNat 32 a
  rw [BitVec.signExtend_eq_setWidth_of_le _ (by omega)]
  apply BitVec.eq_of_toNat_eq
  rw [BitVec.toNat_setWidth, BitVec.toNat_ofNat, BitVec.toNat_ofNat]
  omega
theorem q_bitL {x : Nat} (hx : x < 1099511627776) : zEv (d + 1) zmJL_bitCount [.long (nJ x)] M = some (some (.int (nI (cnt 40 x))), M) := by
  rw [← bcL_cnt x hx]
  have h1 : (x / 2) &&& 6148914691236517205 ≤ x := Nat.le_trans Nat.and_le_left (Nat.div_le_self _ _)
  refine e_JL_bitCount ?_
  rw [l_ushr (k := 1) (by omega) (by omega), l_and, l_sub (by rw [Nat.pow_one]; exact h1), zLr, Nat.pow_one]
  generalize ha : x - (x / 2 &&& 6148914691236517205) = a
  have ha2 : a < 1099511627776 := by omega
  refine e_JL_bitCount_10 ?_
  have hb1 : a &&& 3689348814741910323 ≤ a := Nat.and_le_left
  have hb2 : (a / 2 ^ 2) &&& 3689348814741910323 ≤ a := Nat.le_trans Nat.and_le_left (Nat.div_le_self _ _)
  rw [l_ushr (k := 2) (by omega) (by omega), l_and, l_and, l_add, zLr]
  generalize hb : (a &&& 3689348814741910323) + ((a / 2 ^ 2) &&& 3689348814741910323) = b
  refine e_JL_bitCount_24 ?_
  have hc1 : b / 2 ^ 4 ≤ b := Nat.div_le_self _ _
  rw [l_ushr (k := 4) (by omega) (by omega), l_add, l_and, zLr]
  have hc2 : (b + b / 2 ^ 4) &&& 1085102592571150095 ≤ b + b / 2 ^ 4 := Nat.and_le_left
  generalize hc : (b + b / 2 ^ 4) &&& 1085102592571150095 = c
  refine e_JL_bitCount_34 ?_
  have he1 : c / 2 ^ 8 ≤ c := Nat.div_le_self _ _
  rw [l_ushr (k := 8) (by omega) (by omega), l_add, zLr]
  generalize he : c + c / 2 ^ 8 = e
  refine e_JL_bitCount_41 ?_
  have hf1 : e / 2 ^ 16 ≤ e := Nat.div_le_self _ _
  rw [l_ushr (k := 16) (by omega) (by omega), l_add, zLr]
  generalize hf : e + e / 2 ^ 16 = f
  refine e_JL_bitCount_48 ?_
  rw [l_ushr (k := 32) (by omega) (by omega), l_add, zLr, l_toI, n_and]
  unfold bcL bX bCm bBm bAm
  rw [← hf, ← he, ← hc, ← hb, ← ha, show (127 : Nat) = 2 ^ 7 - 1 from rfl, Nat.and_two_pow_sub_one_eq_mod]
end QA
