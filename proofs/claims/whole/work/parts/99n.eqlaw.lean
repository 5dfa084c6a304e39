/-! what the law comes to, from its loop on (printed by wip/whole/gen_eq.py) -/
set_option linter.unusedVariables false
set_option maxRecDepth 50000
noncomputable def h_X_law_18 (d : Nat) (x3 : Int32) (M : ZM) : Option ZR := zEx0 (zEv d) zmX_law (18, [(0, .ref 0), (1, .ref 64), (2, .ref 866), (3, .int x3)], [], M)
theorem e_X_law_18 {d : Nat} {x3 : Int32} {M : ZM} {r : ZR}  (h : (if ((M.1 63 0) - (nI 6)) < x3 then some (some (.int (nI 1)), M) else (if zin x3 (M.1 63 0).toNatClampNeg = true then (if ((M.1 0 (Int32.toNatClampNeg x3)) &&& (nI 63)) = (nI 0) then (if zin (x3 + (nI 1)) (M.1 63 0).toNatClampNeg = true then (if zin (x3 + (nI 2)) (M.1 63 0).toNatClampNeg = true then (if zin (x3 + (nI 3)) (M.1 63 0).toNatClampNeg = true then (if zin (x3 + (nI 4)) (M.1 63 0).toNatClampNeg = true then (if zin (x3 + (nI 5)) (M.1 63 0).toNatClampNeg = true then zC1 (zEv d zmC_feed [.ref 64, .int (M.1 0 (Int32.toNatClampNeg (x3 + (nI 1)))), .int (M.1 0 (Int32.toNatClampNeg (x3 + (nI 2)))), .int (M.1 0 (Int32.toNatClampNeg (x3 + (nI 3)))), .int (M.1 0 (Int32.toNatClampNeg (x3 + (nI 4)))), .int (M.1 0 (Int32.toNatClampNeg (x3 + (nI 5))))] M) (fun v44 M43 => (if zin (x3 + (nI 1)) (M43.1 63 0).toNatClampNeg = true then (if zin (x3 + (nI 2)) (M43.1 63 0).toNatClampNeg = true then (if zin (x3 + (nI 3)) (M43.1 63 0).toNatClampNeg = true then (if zin (x3 + (nI 4)) (M43.1 63 0).toNatClampNeg = true then (if zin (x3 + (nI 5)) (M43.1 63 0).toNatClampNeg = true then zC1 (zEv d zmM_feed [.ref 866, .int (M43.1 0 (Int32.toNatClampNeg (x3 + (nI 1)))), .int (M43.1 0 (Int32.toNatClampNeg (x3 + (nI 2)))), .int (M43.1 0 (Int32.toNatClampNeg (x3 + (nI 3)))), .int (M43.1 0 (Int32.toNatClampNeg (x3 + (nI 4)))), .int (M43.1 0 (Int32.toNatClampNeg (x3 + (nI 5))))] M43) (fun v52 M51 => (if v44 = v52 then h_X_law_18 d (x3 + (nI 6)) M51 else some (some (.int (nI 0)), M51))) else none) else none) else none) else none) else none)) else none) else none) else none) else none) else none) else (if ((M.1 0 (Int32.toNatClampNeg x3)) &&& (nI 63)) = (nI 1) then (if zin (x3 + (nI 1)) (M.1 63 0).toNatClampNeg = true then zC1 (zEv d zmC_end [.ref 64, .int (M.1 0 (Int32.toNatClampNeg (x3 + (nI 1))))] M) (fun v57 M56 => (if zin (x3 + (nI 1)) (M56.1 63 0).toNatClampNeg = true then zC1 (zEv d zmM_end [.ref 866, .int (M56.1 0 (Int32.toNatClampNeg (x3 + (nI 1))))] M56) (fun v61 M60 => (if v57 = v61 then h_X_law_18 d (x3 + (nI 6)) M60 else some (some (.int (nI 0)), M60))) else none)) else none) else (if ((M.1 0 (Int32.toNatClampNeg x3)) &&& (nI 63)) = (nI 2) then zC1 (zEv d zmC_tell [.ref 64] M) (fun v65 M64 => zC1 (zEv d zmM_tell [.ref 866] M64) (fun v68 M67 => (if v65 = v68 then h_X_law_18 d (x3 + (nI 6)) M67 else some (some (.int (nI 0)), M67)))) else (if ((M.1 0 (Int32.toNatClampNeg x3)) &&& (nI 63)) = (nI 3) then (if zin (x3 + (nI 1)) (M.1 63 0).toNatClampNeg = true then (if zin (x3 + (nI 2)) (M.1 63 0).toNatClampNeg = true then zC1 (zEv d zmC_put [.ref 64, .int (M.1 0 (Int32.toNatClampNeg (x3 + (nI 1)))), .int (M.1 0 (Int32.toNatClampNeg (x3 + (nI 2))))] M) (fun v74 M73 => (if zin (x3 + (nI 1)) (M73.1 63 0).toNatClampNeg = true then (if zin (x3 + (nI 2)) (M73.1 63 0).toNatClampNeg = true then zC1 (zEv d zmM_put [.ref 866, .int (M73.1 0 (Int32.toNatClampNeg (x3 + (nI 1)))), .int (M73.1 0 (Int32.toNatClampNeg (x3 + (nI 2))))] M73) (fun v79 M78 => (if v74 = v79 then h_X_law_18 d (x3 + (nI 6)) M78 else some (some (.int (nI 0)), M78))) else none) else none)) else none) else none) else (if ((M.1 0 (Int32.toNatClampNeg x3)) &&& (nI 63)) = (nI 4) then (if zin (x3 + (nI 1)) (M.1 63 0).toNatClampNeg = true then zC1 (zEv d zmC_lift [.ref 64, .int (M.1 0 (Int32.toNatClampNeg (x3 + (nI 1))))] M) (fun v84 M83 => (if zin (x3 + (nI 1)) (M83.1 63 0).toNatClampNeg = true then zC1 (zEv d zmM_lift [.ref 866, .int (M83.1 0 (Int32.toNatClampNeg (x3 + (nI 1))))] M83) (fun v88 M87 => (if v84 = v88 then h_X_law_18 d (x3 + (nI 6)) M87 else some (some (.int (nI 0)), M87))) else none)) else none) else (if ((M.1 0 (Int32.toNatClampNeg x3)) &&& (nI 63)) = (nI 5) then (if zin (x3 + (nI 1)) (M.1 63 0).toNatClampNeg = true then (if zin (x3 + (nI 2)) (M.1 63 0).toNatClampNeg = true then zC1 (zEv d zmC_strike [.ref 64, .int (M.1 0 (Int32.toNatClampNeg (x3 + (nI 1)))), .int (M.1 0 (Int32.toNatClampNeg (x3 + (nI 2))))] M) (fun v94 M93 => (if zin (x3 + (nI 1)) (M93.1 63 0).toNatClampNeg = true then (if zin (x3 + (nI 2)) (M93.1 63 0).toNatClampNeg = true then zC1 (zEv d zmM_strike [.ref 866, .int (M93.1 0 (Int32.toNatClampNeg (x3 + (nI 1)))), .int (M93.1 0 (Int32.toNatClampNeg (x3 + (nI 2))))] M93) (fun v99 M98 => (if v94 = v99 then h_X_law_18 d (x3 + (nI 6)) M98 else some (some (.int (nI 0)), M98))) else none) else none)) else none) else none) else (if ((M.1 0 (Int32.toNatClampNeg x3)) &&& (nI 63)) = (nI 6) then (if zin (x3 + (nI 1)) (M.1 63 0).toNatClampNeg = true then (if zin (x3 + (nI 2)) (M.1 63 0).toNatClampNeg = true then zC1 (zEv d zmC_give [.ref 64, .int (M.1 0 (Int32.toNatClampNeg (x3 + (nI 1)))), .int (M.1 0 (Int32.toNatClampNeg (x3 + (nI 2))))] M) (fun v105 M104 => (if zin (x3 + (nI 1)) (M104.1 63 0).toNatClampNeg = true then (if zin (x3 + (nI 2)) (M104.1 63 0).toNatClampNeg = true then zC1 (zEv d zmM_give [.ref 866, .int (M104.1 0 (Int32.toNatClampNeg (x3 + (nI 1)))), .int (M104.1 0 (Int32.toNatClampNeg (x3 + (nI 2))))] M104) (fun v110 M109 => (if v105 = v110 then h_X_law_18 d (x3 + (nI 6)) M109 else some (some (.int (nI 0)), M109))) else none) else none)) else none) else none) else (if ((M.1 0 (Int32.toNatClampNeg x3)) &&& (nI 63)) = (nI 7) then (if zin (x3 + (nI 1)) (M.1 63 0).toNatClampNeg = true then (if zin (x3 + (nI 2)) (M.1 63 0).toNatClampNeg = true then zC1 (zEv d zmC_total [.ref 64, .int (M.1 0 (Int32.toNatClampNeg (x3 + (nI 1)))), .int (M.1 0 (Int32.toNatClampNeg (x3 + (nI 2))))] M) (fun v116 M115 => (if zin (x3 + (nI 1)) (M115.1 63 0).toNatClampNeg = true then (if zin (x3 + (nI 2)) (M115.1 63 0).toNatClampNeg = true then zC1 (zEv d zmM_total [.ref 866, .int (M115.1 0 (Int32.toNatClampNeg (x3 + (nI 1)))), .int (M115.1 0 (Int32.toNatClampNeg (x3 + (nI 2))))] M115) (fun v121 M120 => (if v116 = v121 then h_X_law_18 d (x3 + (nI 6)) M120 else some (some (.int (nI 0)), M120))) else none) else none)) else none) else none) else (if ((M.1 0 (Int32.toNatClampNeg x3)) &&& (nI 63)) = (nI 8) then zC1 (zEv d zmC_step [.ref 64] M) (fun v125 M124 => zC1 (zEv d zmM_step [.ref 866] M124) (fun v128 M127 => (if v125 = v128 then h_X_law_18 d (x3 + (nI 6)) M127 else some (some (.int (nI 0)), M127)))) else (if ((M.1 0 (Int32.toNatClampNeg x3)) &&& (nI 63)) = (nI 9) then zC1 (zEv d zmC_run [.ref 64] M) (fun v132 M131 => zC1 (zEv d zmM_run [.ref 866] M131) (fun v135 M134 => (if v132 = v135 then h_X_law_18 d (x3 + (nI 6)) M134 else some (some (.int (nI 0)), M134)))) else (if ((M.1 0 (Int32.toNatClampNeg x3)) &&& (nI 63)) = (nI 10) then (if zin (x3 + (nI 1)) (M.1 63 0).toNatClampNeg = true then zC1 (zEv d zmC_make [.ref 64, .int (M.1 0 (Int32.toNatClampNeg (x3 + (nI 1))))] M) (fun v140 M139 => (if zin (x3 + (nI 1)) (M139.1 63 0).toNatClampNeg = true then zC1 (zEv d zmM_make [.ref 866, .int (M139.1 0 (Int32.toNatClampNeg (x3 + (nI 1))))] M139) (fun v144 M143 => (if v140 = v144 then h_X_law_18 d (x3 + (nI 6)) M143 else some (some (.int (nI 0)), M143))) else none)) else none) else (if ((M.1 0 (Int32.toNatClampNeg x3)) &&& (nI 63)) = (nI 11) then zC1 (zEv d zmC_undo [.ref 64] M) (fun v148 M147 => zC1 (zEv d zmM_undo [.ref 866] M147) (fun v151 M150 => (if v148 = v151 then h_X_law_18 d (x3 + (nI 6)) M150 else some (some (.int (nI 0)), M150)))) else (if ((M.1 0 (Int32.toNatClampNeg x3)) &&& (nI 63)) = (nI 12) then (if zin (x3 + (nI 1)) (M.1 63 0).toNatClampNeg = true then zC1 (zEv d zmC_keep [.ref 64, .int (M.1 0 (Int32.toNatClampNeg (x3 + (nI 1))))] M) (fun v156 M155 => (if zin (x3 + (nI 1)) (M155.1 63 0).toNatClampNeg = true then zC1 (zEv d zmM_keep [.ref 866, .int (M155.1 0 (Int32.toNatClampNeg (x3 + (nI 1))))] M155) (fun v160 M159 => (if v156 = v160 then h_X_law_18 d (x3 + (nI 6)) M159 else some (some (.int (nI 0)), M159))) else none)) else none) else (if ((M.1 0 (Int32.toNatClampNeg x3)) &&& (nI 63)) = (nI 13) then (if zin (x3 + (nI 1)) (M.1 63 0).toNatClampNeg = true then zC1 (zEv d zmC_back [.ref 64, .int (M.1 0 (Int32.toNatClampNeg (x3 + (nI 1))))] M) (fun v165 M164 => (if zin (x3 + (nI 1)) (M164.1 63 0).toNatClampNeg = true then zC1 (zEv d zmM_back [.ref 866, .int (M164.1 0 (Int32.toNatClampNeg (x3 + (nI 1))))] M164) (fun v169 M168 => (if v165 = v169 then h_X_law_18 d (x3 + (nI 6)) M168 else some (some (.int (nI 0)), M168))) else none)) else none) else (if ((M.1 0 (Int32.toNatClampNeg x3)) &&& (nI 63)) = (nI 14) then (if zin (x3 + (nI 1)) (M.1 63 0).toNatClampNeg = true then (if zin (x3 + (nI 2)) (M.1 63 0).toNatClampNeg = true then zC1 (zEv d zmC_cell [.ref 64, .int (M.1 0 (Int32.toNatClampNeg (x3 + (nI 1)))), .int (M.1 0 (Int32.toNatClampNeg (x3 + (nI 2))))] M) (fun v175 M174 => (if zin (x3 + (nI 1)) (M174.1 63 0).toNatClampNeg = true then (if zin (x3 + (nI 2)) (M174.1 63 0).toNatClampNeg = true then zC1 (zEv d zmM_cell [.ref 866, .int (M174.1 0 (Int32.toNatClampNeg (x3 + (nI 1)))), .int (M174.1 0 (Int32.toNatClampNeg (x3 + (nI 2))))] M174) (fun v180 M179 => (if v175 = v180 then h_X_law_18 d (x3 + (nI 6)) M179 else some (some (.int (nI 0)), M179))) else none) else none)) else none) else none) else (if ((M.1 0 (Int32.toNatClampNeg x3)) &&& (nI 63)) = (nI 15) then (if zin (x3 + (nI 1)) (M.1 63 0).toNatClampNeg = true then (if zin (x3 + (nI 2)) (M.1 63 0).toNatClampNeg = true then zC1 (zEv d zmC_cage [.ref 64, .int (M.1 0 (Int32.toNatClampNeg (x3 + (nI 1)))), .int (M.1 0 (Int32.toNatClampNeg (x3 + (nI 2))))] M) (fun v186 M185 => (if zin (x3 + (nI 1)) (M185.1 63 0).toNatClampNeg = true then (if zin (x3 + (nI 2)) (M185.1 63 0).toNatClampNeg = true then zC1 (zEv d zmM_cage [.ref 866, .int (M185.1 0 (Int32.toNatClampNeg (x3 + (nI 1)))), .int (M185.1 0 (Int32.toNatClampNeg (x3 + (nI 2))))] M185) (fun v191 M190 => (if v186 = v191 then h_X_law_18 d (x3 + (nI 6)) M190 else some (some (.int (nI 0)), M190))) else none) else none)) else none) else none) else (if ((M.1 0 (Int32.toNatClampNeg x3)) &&& (nI 63)) = (nI 16) then (if zin (x3 + (nI 1)) (M.1 63 0).toNatClampNeg = true then (if zin (x3 + (nI 2)) (M.1 63 0).toNatClampNeg = true then zC1 (zEv d zmC_has [.ref 64, .int (M.1 0 (Int32.toNatClampNeg (x3 + (nI 1)))), .int (M.1 0 (Int32.toNatClampNeg (x3 + (nI 2))))] M) (fun v197 M196 => (if zin (x3 + (nI 1)) (M196.1 63 0).toNatClampNeg = true then (if zin (x3 + (nI 2)) (M196.1 63 0).toNatClampNeg = true then zC1 (zEv d zmM_has [.ref 866, .int (M196.1 0 (Int32.toNatClampNeg (x3 + (nI 1)))), .int (M196.1 0 (Int32.toNatClampNeg (x3 + (nI 2))))] M196) (fun v202 M201 => (if v197 = v202 then h_X_law_18 d (x3 + (nI 6)) M201 else some (some (.int (nI 0)), M201))) else none) else none)) else none) else none) else (if ((M.1 0 (Int32.toNatClampNeg x3)) &&& (nI 63)) = (nI 17) then (if zin (x3 + (nI 1)) (M.1 63 0).toNatClampNeg = true then (if zin (x3 + (nI 2)) (M.1 63 0).toNatClampNeg = true then zC1 (zEv d zmC_could [.ref 64, .int (M.1 0 (Int32.toNatClampNeg (x3 + (nI 1)))), .int (M.1 0 (Int32.toNatClampNeg (x3 + (nI 2))))] M) (fun v208 M207 => (if zin (x3 + (nI 1)) (M207.1 63 0).toNatClampNeg = true then (if zin (x3 + (nI 2)) (M207.1 63 0).toNatClampNeg = true then zC1 (zEv d zmM_could [.ref 866, .int (M207.1 0 (Int32.toNatClampNeg (x3 + (nI 1)))), .int (M207.1 0 (Int32.toNatClampNeg (x3 + (nI 2))))] M207) (fun v213 M212 => (if v208 = v213 then h_X_law_18 d (x3 + (nI 6)) M212 else some (some (.int (nI 0)), M212))) else none) else none)) else none) else none) else (if ((M.1 0 (Int32.toNatClampNeg x3)) &&& (nI 63)) = (nI 18) then (if zin (x3 + (nI 1)) (M.1 63 0).toNatClampNeg = true then zC1 (zEv d zmC_must [.ref 64, .int (M.1 0 (Int32.toNatClampNeg (x3 + (nI 1))))] M) (fun v218 M217 => (if zin (x3 + (nI 1)) (M217.1 63 0).toNatClampNeg = true then zC1 (zEv d zmM_must [.ref 866, .int (M217.1 0 (Int32.toNatClampNeg (x3 + (nI 1))))] M217) (fun v222 M221 => (if v218 = v222 then h_X_law_18 d (x3 + (nI 6)) M221 else some (some (.int (nI 0)), M221))) else none)) else none) else (if ((M.1 0 (Int32.toNatClampNeg x3)) &&& (nI 63)) = (nI 19) then (if zin (x3 + (nI 1)) (M.1 63 0).toNatClampNeg = true then (if zin (x3 + (nI 2)) (M.1 63 0).toNatClampNeg = true then zC1 (zEv d zmC_sets [.ref 64, .int (M.1 0 (Int32.toNatClampNeg (x3 + (nI 1)))), .int (M.1 0 (Int32.toNatClampNeg (x3 + (nI 2))))] M) (fun v228 M227 => (if zin (x3 + (nI 1)) (M227.1 63 0).toNatClampNeg = true then (if zin (x3 + (nI 2)) (M227.1 63 0).toNatClampNeg = true then zC1 (zEv d zmM_sets [.ref 866, .int (M227.1 0 (Int32.toNatClampNeg (x3 + (nI 1)))), .int (M227.1 0 (Int32.toNatClampNeg (x3 + (nI 2))))] M227) (fun v233 M232 => (if v228 = v233 then h_X_law_18 d (x3 + (nI 6)) M232 else some (some (.int (nI 0)), M232))) else none) else none)) else none) else none) else (if ((M.1 0 (Int32.toNatClampNeg x3)) &&& (nI 63)) = (nI 20) then (if zin (x3 + (nI 1)) (M.1 63 0).toNatClampNeg = true then zC1 (zEv d zmC_next [.ref 64, .int (M.1 0 (Int32.toNatClampNeg (x3 + (nI 1))))] M) (fun v238 M237 => (if zin (x3 + (nI 1)) (M237.1 63 0).toNatClampNeg = true then zC1 (zEv d zmM_next [.ref 866, .int (M237.1 0 (Int32.toNatClampNeg (x3 + (nI 1))))] M237) (fun v242 M241 => (if v238 = v242 then h_X_law_18 d (x3 + (nI 6)) M241 else some (some (.int (nI 0)), M241))) else none)) else none) else (if ((M.1 0 (Int32.toNatClampNeg x3)) &&& (nI 63)) = (nI 21) then (if zin (x3 + (nI 1)) (M.1 63 0).toNatClampNeg = true then zC1 (zEv d zmC_weight [.ref 64, .int (M.1 0 (Int32.toNatClampNeg (x3 + (nI 1))))] M) (fun v247 M246 => (if zin (x3 + (nI 1)) (M246.1 63 0).toNatClampNeg = true then zC1 (zEv d zmM_weight [.ref 866, .int (M246.1 0 (Int32.toNatClampNeg (x3 + (nI 1))))] M246) (fun v251 M250 => (if v247 = v251 then h_X_law_18 d (x3 + (nI 6)) M250 else some (some (.int (nI 0)), M250))) else none)) else none) else (if ((M.1 0 (Int32.toNatClampNeg x3)) &&& (nI 63)) = (nI 22) then (if zin (x3 + (nI 1)) (M.1 63 0).toNatClampNeg = true then zC1 (zEv d zmC_solve [.ref 64, .int (M.1 0 (Int32.toNatClampNeg (x3 + (nI 1))))] M) (fun v256 M255 => (if zin (x3 + (nI 1)) (M255.1 63 0).toNatClampNeg = true then zC1 (zEv d zmM_solve [.ref 866, .int (M255.1 0 (Int32.toNatClampNeg (x3 + (nI 1))))] M255) (fun v260 M259 => (if v256 = v260 then h_X_law_18 d (x3 + (nI 6)) M259 else some (some (.int (nI 0)), M259))) else none)) else none) else (if ((M.1 0 (Int32.toNatClampNeg x3)) &&& (nI 63)) = (nI 23) then (if zin (x3 + (nI 1)) (M.1 63 0).toNatClampNeg = true then (if zin (x3 + (nI 2)) (M.1 63 0).toNatClampNeg = true then zC1 (zEv d zmC_solution [.ref 64, .int (M.1 0 (Int32.toNatClampNeg (x3 + (nI 1)))), .int (M.1 0 (Int32.toNatClampNeg (x3 + (nI 2))))] M) (fun v266 M265 => (if zin (x3 + (nI 1)) (M265.1 63 0).toNatClampNeg = true then (if zin (x3 + (nI 2)) (M265.1 63 0).toNatClampNeg = true then zC1 (zEv d zmM_solution [.ref 866, .int (M265.1 0 (Int32.toNatClampNeg (x3 + (nI 1)))), .int (M265.1 0 (Int32.toNatClampNeg (x3 + (nI 2))))] M265) (fun v271 M270 => (if v266 = v271 then h_X_law_18 d (x3 + (nI 6)) M270 else some (some (.int (nI 0)), M270))) else none) else none)) else none) else none) else (if ((M.1 0 (Int32.toNatClampNeg x3)) &&& (nI 63)) = (nI 24) then (if zin (x3 + (nI 1)) (M.1 63 0).toNatClampNeg = true then zC1 (zEv d zmC_agree [.ref 64, .int (M.1 0 (Int32.toNatClampNeg (x3 + (nI 1))))] M) (fun v276 M275 => (if zin (x3 + (nI 1)) (M275.1 63 0).toNatClampNeg = true then zC1 (zEv d zmM_agree [.ref 866, .int (M275.1 0 (Int32.toNatClampNeg (x3 + (nI 1))))] M275) (fun v280 M279 => (if v276 = v280 then h_X_law_18 d (x3 + (nI 6)) M279 else some (some (.int (nI 0)), M279))) else none)) else none) else (if ((M.1 0 (Int32.toNatClampNeg x3)) &&& (nI 63)) = (nI 25) then (if zin (x3 + (nI 1)) (M.1 63 0).toNatClampNeg = true then zC1 (zEv d zmC_hint [.ref 64, .int (M.1 0 (Int32.toNatClampNeg (x3 + (nI 1))))] M) (fun v285 M284 => (if zin (x3 + (nI 1)) (M284.1 63 0).toNatClampNeg = true then zC1 (zEv d zmM_hint [.ref 866, .int (M284.1 0 (Int32.toNatClampNeg (x3 + (nI 1))))] M284) (fun v289 M288 => (if v285 = v289 then h_X_law_18 d (x3 + (nI 6)) M288 else some (some (.int (nI 0)), M288))) else none)) else none) else (if ((M.1 0 (Int32.toNatClampNeg x3)) &&& (nI 63)) = (nI 26) then (if zin (x3 + (nI 1)) (M.1 63 0).toNatClampNeg = true then zC1 (zEv d zmC_wrong [.ref 64, .int (M.1 0 (Int32.toNatClampNeg (x3 + (nI 1))))] M) (fun v294 M293 => (if zin (x3 + (nI 1)) (M293.1 63 0).toNatClampNeg = true then zC1 (zEv d zmM_wrong [.ref 866, .int (M293.1 0 (Int32.toNatClampNeg (x3 + (nI 1))))] M293) (fun v298 M297 => (if v294 = v298 then h_X_law_18 d (x3 + (nI 6)) M297 else some (some (.int (nI 0)), M297))) else none)) else none) else (if ((M.1 0 (Int32.toNatClampNeg x3)) &&& (nI 63)) = (nI 27) then (if zin (x3 + (nI 1)) (M.1 63 0).toNatClampNeg = true then (if zin (x3 + (nI 2)) (M.1 63 0).toNatClampNeg = true then zC2 (zEv d zmC_shared [.ref 64, .int (M.1 0 (Int32.toNatClampNeg (x3 + (nI 1)))), .int (M.1 0 (Int32.toNatClampNeg (x3 + (nI 2))))] M) (fun v304 M303 => (if zin (x3 + (nI 1)) (M303.1 63 0).toNatClampNeg = true then (if zin (x3 + (nI 2)) (M303.1 63 0).toNatClampNeg = true then zC2 (zEv d zmM_shared [.ref 866, .int (M303.1 0 (Int32.toNatClampNeg (x3 + (nI 1)))), .int (M303.1 0 (Int32.toNatClampNeg (x3 + (nI 2))))] M303) (fun v309 M308 => (if (lg_cmp v304 v309) = (nI 0) then h_X_law_18 d (x3 + (nI 6)) M308 else some (some (.int (nI 0)), M308))) else none) else none)) else none) else none) else (if ((M.1 0 (Int32.toNatClampNeg x3)) &&& (nI 63)) = (nI 28) then (if zin (x3 + (nI 1)) (M.1 63 0).toNatClampNeg = true then (if zin (x3 + (nI 2)) (M.1 63 0).toNatClampNeg = true then (if zin (x3 + (nI 3)) (M.1 63 0).toNatClampNeg = true then zC1 (zEv d zmC_combos [.ref 64, .int (M.1 0 (Int32.toNatClampNeg (x3 + (nI 1)))), .int (M.1 0 (Int32.toNatClampNeg (x3 + (nI 2)))), .int (M.1 0 (Int32.toNatClampNeg (x3 + (nI 3))))] M) (fun v316 M315 => (if zin (x3 + (nI 1)) (M315.1 63 0).toNatClampNeg = true then (if zin (x3 + (nI 2)) (M315.1 63 0).toNatClampNeg = true then (if zin (x3 + (nI 3)) (M315.1 63 0).toNatClampNeg = true then zC1 (zEv d zmM_combos [.ref 866, .int (M315.1 0 (Int32.toNatClampNeg (x3 + (nI 1)))), .int (M315.1 0 (Int32.toNatClampNeg (x3 + (nI 2)))), .int (M315.1 0 (Int32.toNatClampNeg (x3 + (nI 3))))] M315) (fun v322 M321 => (if v316 = v322 then h_X_law_18 d (x3 + (nI 6)) M321 else some (some (.int (nI 0)), M321))) else none) else none) else none)) else none) else none) else none) else (if ((M.1 0 (Int32.toNatClampNeg x3)) &&& (nI 63)) = (nI 29) then (if zin (x3 + (nI 1)) (M.1 63 0).toNatClampNeg = true then zC1 (zEv d zmC_broken [.ref 64, .int (M.1 0 (Int32.toNatClampNeg (x3 + (nI 1))))] M) (fun v327 M326 => (if zin (x3 + (nI 1)) (M326.1 63 0).toNatClampNeg = true then zC1 (zEv d zmM_broken [.ref 866, .int (M326.1 0 (Int32.toNatClampNeg (x3 + (nI 1))))] M326) (fun v331 M330 => (if v327 = v331 then h_X_law_18 d (x3 + (nI 6)) M330 else some (some (.int (nI 0)), M330))) else none)) else none) else (if ((M.1 0 (Int32.toNatClampNeg x3)) &&& (nI 63)) = (nI 30) then (if zin (x3 + (nI 1)) (M.1 63 0).toNatClampNeg = true then (if zin (x3 + (nI 2)) (M.1 63 0).toNatClampNeg = true then (if (M.1 0 (Int32.toNatClampNeg (x3 + (nI 2)))) = (nI 0) then zC1 (zEv d zmC_range [.ref 64, .int (M.1 0 (Int32.toNatClampNeg (x3 + (nI 1)))), .int (nI 0)] M) (fun v338 M337 => (if zin (x3 + (nI 1)) (M337.1 63 0).toNatClampNeg = true then (if zin (x3 + (nI 2)) (M337.1 63 0).toNatClampNeg = true then (if (M337.1 0 (Int32.toNatClampNeg (x3 + (nI 2)))) = (nI 0) then zC1 (zEv d zmM_range [.ref 866, .int (M337.1 0 (Int32.toNatClampNeg (x3 + (nI 1)))), .int (nI 0)] M337) (fun v344 M343 => (if v338 = v344 then h_X_law_18 d (x3 + (nI 6)) M343 else some (some (.int (nI 0)), M343))) else zC1 (zEv d zmM_range [.ref 866, .int (M337.1 0 (Int32.toNatClampNeg (x3 + (nI 1)))), .int (nI 1)] M337) (fun v348 M347 => (if v338 = v348 then h_X_law_18 d (x3 + (nI 6)) M347 else some (some (.int (nI 0)), M347)))) else none) else none)) else zC1 (zEv d zmC_range [.ref 64, .int (M.1 0 (Int32.toNatClampNeg (x3 + (nI 1)))), .int (nI 1)] M) (fun v352 M351 => (if zin (x3 + (nI 1)) (M351.1 63 0).toNatClampNeg = true then (if zin (x3 + (nI 2)) (M351.1 63 0).toNatClampNeg = true then (if (M351.1 0 (Int32.toNatClampNeg (x3 + (nI 2)))) = (nI 0) then zC1 (zEv d zmM_range [.ref 866, .int (M351.1 0 (Int32.toNatClampNeg (x3 + (nI 1)))), .int (nI 0)] M351) (fun v358 M357 => (if v352 = v358 then h_X_law_18 d (x3 + (nI 6)) M357 else some (some (.int (nI 0)), M357))) else zC1 (zEv d zmM_range [.ref 866, .int (M351.1 0 (Int32.toNatClampNeg (x3 + (nI 1)))), .int (nI 1)] M351) (fun v362 M361 => (if v352 = v362 then h_X_law_18 d (x3 + (nI 6)) M361 else some (some (.int (nI 0)), M361)))) else none) else none))) else none) else none) else (if ((M.1 0 (Int32.toNatClampNeg x3)) &&& (nI 63)) = (nI 31) then zC2 (zEv d zmC_idle [.ref 64] M) (fun v366 M365 => zC2 (zEv d zmM_idle [.ref 866] M365) (fun v369 M368 => (if (lg_cmp v366 v369) = (nI 0) then h_X_law_18 d (x3 + (nI 6)) M368 else some (some (.int (nI 0)), M368)))) else (if ((M.1 0 (Int32.toNatClampNeg x3)) &&& (nI 63)) = (nI 32) then (if zin (x3 + (nI 1)) (M.1 63 0).toNatClampNeg = true then zC1 (zEv d zmC_letter [.ref 64, .int (M.1 0 (Int32.toNatClampNeg (x3 + (nI 1))))] M) (fun v374 M373 => (if zin (x3 + (nI 1)) (M373.1 63 0).toNatClampNeg = true then zC1 (zEv d zmM_letter [.ref 866, .int (M373.1 0 (Int32.toNatClampNeg (x3 + (nI 1))))] M373) (fun v378 M377 => (if v374 = v378 then h_X_law_18 d (x3 + (nI 6)) M377 else some (some (.int (nI 0)), M377))) else none)) else none) else (if ((M.1 0 (Int32.toNatClampNeg x3)) &&& (nI 63)) = (nI 33) then (if zin (x3 + (nI 1)) (M.1 63 0).toNatClampNeg = true then zC1 (zEv d zmC_count [.ref 64, .int (M.1 0 (Int32.toNatClampNeg (x3 + (nI 1))))] M) (fun v383 M382 => (if zin (x3 + (nI 1)) (M382.1 63 0).toNatClampNeg = true then zC1 (zEv d zmM_count [.ref 866, .int (M382.1 0 (Int32.toNatClampNeg (x3 + (nI 1))))] M382) (fun v387 M386 => (if v383 = v387 then h_X_law_18 d (x3 + (nI 6)) M386 else some (some (.int (nI 0)), M386))) else none)) else none) else h_X_law_18 d (x3 + (nI 6)) M)))))))))))))))))))))))))))))))))) else none)) = some r) : h_X_law_18 d x3 M = some r := by
  show zEx0 (zEv d) zmX_law (18, [(0, .ref 0), (1, .ref 64), (2, .ref 866), (3, .int x3)], [], M) = some r
  refine y_pure (pc' := 19) (st' := [.int x3]) rfl rfl ?_
  refine y_pure (pc' := 20) (st' := [.ref 0, .int x3]) rfl rfl ?_
  refine y_slen (pc' := 21) rfl rfl ?_
  refine y_pure (pc' := 23) (st' := [.int (nI 6), .int (M.1 63 0), .int x3]) rfl rfl ?_
  refine y_pure (pc' := 24) (st' := [.int ((M.1 63 0) - (nI 6)), .int x3]) rfl rfl ?_
  rcases zif_inv h with ⟨hc1, h⟩ | ⟨hc1, h⟩
  · refine y_cmp (pc' := 1120) rfl rfl (zc_gtT hc1) rfl ?_
    refine y_pure (pc' := 1121) (st' := [.int (nI 1)]) rfl rfl ?_
    exact y_retZ rfl rfl (by decide) h
  · refine y_cmp (pc' := 27) rfl rfl (zc_gtF hc1) rfl ?_
    refine y_pure (pc' := 28) (st' := [.ref 0]) rfl rfl ?_
    refine y_pure (pc' := 29) (st' := [.int x3, .ref 0]) rfl rfl ?_
    obtain ⟨hi2, h⟩ := zg_inv h
    refine y_sald (pc' := 30) rfl hi2 rfl ?_
    refine y_pure (pc' := 32) (st' := [.int (nI 63), .int (M.1 0 (Int32.toNatClampNeg x3))]) rfl rfl ?_
    refine y_pure (pc' := 33) (st' := [.int ((M.1 0 (Int32.toNatClampNeg x3)) &&& (nI 63))]) rfl rfl ?_
    rcases zif_inv h with ⟨hc3, h⟩ | ⟨hc3, h⟩
    · refine y_sw (k := 0) (t := 184) rfl (by rw [hc3]; decide) (by decide) rfl rfl ?_
      refine y_pure (pc' := 185) (st' := [.ref 64]) rfl rfl ?_
      refine y_pure (pc' := 186) (st' := [.ref 0, .ref 64]) rfl rfl ?_
      refine y_pure (pc' := 187) (st' := [.int x3, .ref 0, .ref 64]) rfl rfl ?_
      refine y_pure (pc' := 188) (st' := [.int (nI 1), .int x3, .ref 0, .ref 64]) rfl rfl ?_
      refine y_pure (pc' := 189) (st' := [.int (x3 + (nI 1)), .ref 0, .ref 64]) rfl rfl ?_
      obtain ⟨hi37, h⟩ := zg_inv h
      refine y_sald (pc' := 190) rfl hi37 rfl ?_
      refine y_pure (pc' := 191) (st' := [.ref 0, .int (M.1 0 (Int32.toNatClampNeg (x3 + (nI 1)))), .ref 64]) rfl rfl ?_
      refine y_pure (pc' := 192) (st' := [.int x3, .ref 0, .int (M.1 0 (Int32.toNatClampNeg (x3 + (nI 1)))), .ref 64]) rfl rfl ?_
      refine y_pure (pc' := 193) (st' := [.int (nI 2), .int x3, .ref 0, .int (M.1 0 (Int32.toNatClampNeg (x3 + (nI 1)))), .ref 64]) rfl rfl ?_
      refine y_pure (pc' := 194) (st' := [.int (x3 + (nI 2)), .ref 0, .int (M.1 0 (Int32.toNatClampNeg (x3 + (nI 1)))), .ref 64]) rfl rfl ?_
      obtain ⟨hi38, h⟩ := zg_inv h
      refine y_sald (pc' := 195) rfl hi38 rfl ?_
      refine y_pure (pc' := 196) (st' := [.ref 0, .int (M.1 0 (Int32.toNatClampNeg (x3 + (nI 2)))), .int (M.1 0 (Int32.toNatClampNeg (x3 + (nI 1)))), .ref 64]) rfl rfl ?_
      refine y_pure (pc' := 197) (st' := [.int x3, .ref 0, .int (M.1 0 (Int32.toNatClampNeg (x3 + (nI 2)))), .int (M.1 0 (Int32.toNatClampNeg (x3 + (nI 1)))), .ref 64]) rfl rfl ?_
      refine y_pure (pc' := 198) (st' := [.int (nI 3), .int x3, .ref 0, .int (M.1 0 (Int32.toNatClampNeg (x3 + (nI 2)))), .int (M.1 0 (Int32.toNatClampNeg (x3 + (nI 1)))), .ref 64]) rfl rfl ?_
      refine y_pure (pc' := 199) (st' := [.int (x3 + (nI 3)), .ref 0, .int (M.1 0 (Int32.toNatClampNeg (x3 + (nI 2)))), .int (M.1 0 (Int32.toNatClampNeg (x3 + (nI 1)))), .ref 64]) rfl rfl ?_
      obtain ⟨hi39, h⟩ := zg_inv h
      refine y_sald (pc' := 200) rfl hi39 rfl ?_
      refine y_pure (pc' := 201) (st' := [.ref 0, .int (M.1 0 (Int32.toNatClampNeg (x3 + (nI 3)))), .int (M.1 0 (Int32.toNatClampNeg (x3 + (nI 2)))), .int (M.1 0 (Int32.toNatClampNeg (x3 + (nI 1)))), .ref 64]) rfl rfl ?_
      refine y_pure (pc' := 202) (st' := [.int x3, .ref 0, .int (M.1 0 (Int32.toNatClampNeg (x3 + (nI 3)))), .int (M.1 0 (Int32.toNatClampNeg (x3 + (nI 2)))), .int (M.1 0 (Int32.toNatClampNeg (x3 + (nI 1)))), .ref 64]) rfl rfl ?_
      refine y_pure (pc' := 203) (st' := [.int (nI 4), .int x3, .ref 0, .int (M.1 0 (Int32.toNatClampNeg (x3 + (nI 3)))), .int (M.1 0 (Int32.toNatClampNeg (x3 + (nI 2)))), .int (M.1 0 (Int32.toNatClampNeg (x3 + (nI 1)))), .ref 64]) rfl rfl ?_
      refine y_pure (pc' := 204) (st' := [.int (x3 + (nI 4)), .ref 0, .int (M.1 0 (Int32.toNatClampNeg (x3 + (nI 3)))), .int (M.1 0 (Int32.toNatClampNeg (x3 + (nI 2)))), .int (M.1 0 (Int32.toNatClampNeg (x3 + (nI 1)))), .ref 64]) rfl rfl ?_
      obtain ⟨hi40, h⟩ := zg_inv h
      refine y_sald (pc' := 205) rfl hi40 rfl ?_
      refine y_pure (pc' := 206) (st' := [.ref 0, .int (M.1 0 (Int32.toNatClampNeg (x3 + (nI 4)))), .int (M.1 0 (Int32.toNatClampNeg (x3 + (nI 3)))), .int (M.1 0 (Int32.toNatClampNeg (x3 + (nI 2)))), .int (M.1 0 (Int32.toNatClampNeg (x3 + (nI 1)))), .ref 64]) rfl rfl ?_
      refine y_pure (pc' := 207) (st' := [.int x3, .ref 0, .int (M.1 0 (Int32.toNatClampNeg (x3 + (nI 4)))), .int (M.1 0 (Int32.toNatClampNeg (x3 + (nI 3)))), .int (M.1 0 (Int32.toNatClampNeg (x3 + (nI 2)))), .int (M.1 0 (Int32.toNatClampNeg (x3 + (nI 1)))), .ref 64]) rfl rfl ?_
      refine y_pure (pc' := 208) (st' := [.int (nI 5), .int x3, .ref 0, .int (M.1 0 (Int32.toNatClampNeg (x3 + (nI 4)))), .int (M.1 0 (Int32.toNatClampNeg (x3 + (nI 3)))), .int (M.1 0 (Int32.toNatClampNeg (x3 + (nI 2)))), .int (M.1 0 (Int32.toNatClampNeg (x3 + (nI 1)))), .ref 64]) rfl rfl ?_
      refine y_pure (pc' := 209) (st' := [.int (x3 + (nI 5)), .ref 0, .int (M.1 0 (Int32.toNatClampNeg (x3 + (nI 4)))), .int (M.1 0 (Int32.toNatClampNeg (x3 + (nI 3)))), .int (M.1 0 (Int32.toNatClampNeg (x3 + (nI 2)))), .int (M.1 0 (Int32.toNatClampNeg (x3 + (nI 1)))), .ref 64]) rfl rfl ?_
      obtain ⟨hi41, h⟩ := zg_inv h
      refine y_sald (pc' := 210) rfl hi41 rfl ?_
      obtain ⟨v44, M43, he42, h⟩ := zC1_inv h
      refine y_callV (pc' := 213) (y := zmC_feed) (a' := [.int (M.1 0 (Int32.toNatClampNeg (x3 + (nI 1)))), .int (M.1 0 (Int32.toNatClampNeg (x3 + (nI 2)))), .int (M.1 0 (Int32.toNatClampNeg (x3 + (nI 3)))), .int (M.1 0 (Int32.toNatClampNeg (x3 + (nI 4)))), .int (M.1 0 (Int32.toNatClampNeg (x3 + (nI 5))))]) (st' := []) rfl rfl rfl rfl rfl (zrecv_o (o := 9) zc_64 rfl) rfl he42 rfl rfl ?_
      refine y_pure (pc' := 214) (st' := [.ref 866, .int v44]) rfl rfl ?_
      refine y_pure (pc' := 215) (st' := [.ref 0, .ref 866, .int v44]) rfl rfl ?_
      refine y_pure (pc' := 216) (st' := [.int x3, .ref 0, .ref 866, .int v44]) rfl rfl ?_
      refine y_pure (pc' := 217) (st' := [.int (nI 1), .int x3, .ref 0, .ref 866, .int v44]) rfl rfl ?_
      refine y_pure (pc' := 218) (st' := [.int (x3 + (nI 1)), .ref 0, .ref 866, .int v44]) rfl rfl ?_
      obtain ⟨hi45, h⟩ := zg_inv h
      refine y_sald (pc' := 219) rfl hi45 rfl ?_
      refine y_pure (pc' := 220) (st' := [.ref 0, .int (M43.1 0 (Int32.toNatClampNeg (x3 + (nI 1)))), .ref 866, .int v44]) rfl rfl ?_
      refine y_pure (pc' := 221) (st' := [.int x3, .ref 0, .int (M43.1 0 (Int32.toNatClampNeg (x3 + (nI 1)))), .ref 866, .int v44]) rfl rfl ?_
      refine y_pure (pc' := 222) (st' := [.int (nI 2), .int x3, .ref 0, .int (M43.1 0 (Int32.toNatClampNeg (x3 + (nI 1)))), .ref 866, .int v44]) rfl rfl ?_
      refine y_pure (pc' := 223) (st' := [.int (x3 + (nI 2)), .ref 0, .int (M43.1 0 (Int32.toNatClampNeg (x3 + (nI 1)))), .ref 866, .int v44]) rfl rfl ?_
      obtain ⟨hi46, h⟩ := zg_inv h
      refine y_sald (pc' := 224) rfl hi46 rfl ?_
      refine y_pure (pc' := 225) (st' := [.ref 0, .int (M43.1 0 (Int32.toNatClampNeg (x3 + (nI 2)))), .int (M43.1 0 (Int32.toNatClampNeg (x3 + (nI 1)))), .ref 866, .int v44]) rfl rfl ?_
      refine y_pure (pc' := 226) (st' := [.int x3, .ref 0, .int (M43.1 0 (Int32.toNatClampNeg (x3 + (nI 2)))), .int (M43.1 0 (Int32.toNatClampNeg (x3 + (nI 1)))), .ref 866, .int v44]) rfl rfl ?_
      refine y_pure (pc' := 227) (st' := [.int (nI 3), .int x3, .ref 0, .int (M43.1 0 (Int32.toNatClampNeg (x3 + (nI 2)))), .int (M43.1 0 (Int32.toNatClampNeg (x3 + (nI 1)))), .ref 866, .int v44]) rfl rfl ?_
      refine y_pure (pc' := 228) (st' := [.int (x3 + (nI 3)), .ref 0, .int (M43.1 0 (Int32.toNatClampNeg (x3 + (nI 2)))), .int (M43.1 0 (Int32.toNatClampNeg (x3 + (nI 1)))), .ref 866, .int v44]) rfl rfl ?_
      obtain ⟨hi47, h⟩ := zg_inv h
      refine y_sald (pc' := 229) rfl hi47 rfl ?_
      refine y_pure (pc' := 230) (st' := [.ref 0, .int (M43.1 0 (Int32.toNatClampNeg (x3 + (nI 3)))), .int (M43.1 0 (Int32.toNatClampNeg (x3 + (nI 2)))), .int (M43.1 0 (Int32.toNatClampNeg (x3 + (nI 1)))), .ref 866, .int v44]) rfl rfl ?_
      refine y_pure (pc' := 231) (st' := [.int x3, .ref 0, .int (M43.1 0 (Int32.toNatClampNeg (x3 + (nI 3)))), .int (M43.1 0 (Int32.toNatClampNeg (x3 + (nI 2)))), .int (M43.1 0 (Int32.toNatClampNeg (x3 + (nI 1)))), .ref 866, .int v44]) rfl rfl ?_
      refine y_pure (pc' := 232) (st' := [.int (nI 4), .int x3, .ref 0, .int (M43.1 0 (Int32.toNatClampNeg (x3 + (nI 3)))), .int (M43.1 0 (Int32.toNatClampNeg (x3 + (nI 2)))), .int (M43.1 0 (Int32.toNatClampNeg (x3 + (nI 1)))), .ref 866, .int v44]) rfl rfl ?_
      refine y_pure (pc' := 233) (st' := [.int (x3 + (nI 4)), .ref 0, .int (M43.1 0 (Int32.toNatClampNeg (x3 + (nI 3)))), .int (M43.1 0 (Int32.toNatClampNeg (x3 + (nI 2)))), .int (M43.1 0 (Int32.toNatClampNeg (x3 + (nI 1)))), .ref 866, .int v44]) rfl rfl ?_
      obtain ⟨hi48, h⟩ := zg_inv h
      refine y_sald (pc' := 234) rfl hi48 rfl ?_
      refine y_pure (pc' := 235) (st' := [.ref 0, .int (M43.1 0 (Int32.toNatClampNeg (x3 + (nI 4)))), .int (M43.1 0 (Int32.toNatClampNeg (x3 + (nI 3)))), .int (M43.1 0 (Int32.toNatClampNeg (x3 + (nI 2)))), .int (M43.1 0 (Int32.toNatClampNeg (x3 + (nI 1)))), .ref 866, .int v44]) rfl rfl ?_
      refine y_pure (pc' := 236) (st' := [.int x3, .ref 0, .int (M43.1 0 (Int32.toNatClampNeg (x3 + (nI 4)))), .int (M43.1 0 (Int32.toNatClampNeg (x3 + (nI 3)))), .int (M43.1 0 (Int32.toNatClampNeg (x3 + (nI 2)))), .int (M43.1 0 (Int32.toNatClampNeg (x3 + (nI 1)))), .ref 866, .int v44]) rfl rfl ?_
      refine y_pure (pc' := 237) (st' := [.int (nI 5), .int x3, .ref 0, .int (M43.1 0 (Int32.toNatClampNeg (x3 + (nI 4)))), .int (M43.1 0 (Int32.toNatClampNeg (x3 + (nI 3)))), .int (M43.1 0 (Int32.toNatClampNeg (x3 + (nI 2)))), .int (M43.1 0 (Int32.toNatClampNeg (x3 + (nI 1)))), .ref 866, .int v44]) rfl rfl ?_
      refine y_pure (pc' := 238) (st' := [.int (x3 + (nI 5)), .ref 0, .int (M43.1 0 (Int32.toNatClampNeg (x3 + (nI 4)))), .int (M43.1 0 (Int32.toNatClampNeg (x3 + (nI 3)))), .int (M43.1 0 (Int32.toNatClampNeg (x3 + (nI 2)))), .int (M43.1 0 (Int32.toNatClampNeg (x3 + (nI 1)))), .ref 866, .int v44]) rfl rfl ?_
      obtain ⟨hi49, h⟩ := zg_inv h
      refine y_sald (pc' := 239) rfl hi49 rfl ?_
      obtain ⟨v52, M51, he50, h⟩ := zC1_inv h
      refine y_callV (pc' := 242) (y := zmM_feed) (a' := [.int (M43.1 0 (Int32.toNatClampNeg (x3 + (nI 1)))), .int (M43.1 0 (Int32.toNatClampNeg (x3 + (nI 2)))), .int (M43.1 0 (Int32.toNatClampNeg (x3 + (nI 3)))), .int (M43.1 0 (Int32.toNatClampNeg (x3 + (nI 4)))), .int (M43.1 0 (Int32.toNatClampNeg (x3 + (nI 5))))]) (st' := [.int v44]) rfl rfl rfl rfl rfl (zrecv_o (o := 10) zc_866 rfl) rfl he50 rfl rfl ?_
      rcases zif_inv h with ⟨hc53, h⟩ | ⟨hc53, h⟩
      · refine y_cmp (pc' := 1114) rfl rfl (zc_eqT hc53) rfl ?_
        refine y_pure (pc' := 1117) (ls' := [(0, .ref 0), (1, .ref 64), (2, .ref 866), (3, .int (x3 + (nI 6)))]) (st' := []) rfl rfl ?_
        refine y_pure (pc' := 18) rfl rfl ?_
        refine zEx_sub ?_ h
        exact ⟨rfl, rfl, rfl, rfl, trivial⟩
      · refine y_cmp (pc' := 245) rfl rfl (zc_eqF hc53) rfl ?_
        refine y_pure (pc' := 246) (st' := [.int (nI 0)]) rfl rfl ?_
        exact y_retZ rfl rfl (by decide) h
    · rcases zif_inv h with ⟨hc4, h⟩ | ⟨hc4, h⟩
      · refine y_sw (k := 1) (t := 247) rfl (by rw [hc4]; decide) (by decide) rfl rfl ?_
        refine y_pure (pc' := 248) (st' := [.ref 64]) rfl rfl ?_
        refine y_pure (pc' := 249) (st' := [.ref 0, .ref 64]) rfl rfl ?_
        refine y_pure (pc' := 250) (st' := [.int x3, .ref 0, .ref 64]) rfl rfl ?_
        refine y_pure (pc' := 251) (st' := [.int (nI 1), .int x3, .ref 0, .ref 64]) rfl rfl ?_
        refine y_pure (pc' := 252) (st' := [.int (x3 + (nI 1)), .ref 0, .ref 64]) rfl rfl ?_
        obtain ⟨hi54, h⟩ := zg_inv h
        refine y_sald (pc' := 253) rfl hi54 rfl ?_
        obtain ⟨v57, M56, he55, h⟩ := zC1_inv h
        refine y_callV (pc' := 256) (y := zmC_end) (a' := [.int (M.1 0 (Int32.toNatClampNeg (x3 + (nI 1))))]) (st' := []) rfl rfl rfl rfl rfl (zrecv_o (o := 9) zc_64 rfl) rfl he55 rfl rfl ?_
        refine y_pure (pc' := 257) (st' := [.ref 866, .int v57]) rfl rfl ?_
        refine y_pure (pc' := 258) (st' := [.ref 0, .ref 866, .int v57]) rfl rfl ?_
        refine y_pure (pc' := 259) (st' := [.int x3, .ref 0, .ref 866, .int v57]) rfl rfl ?_
        refine y_pure (pc' := 260) (st' := [.int (nI 1), .int x3, .ref 0, .ref 866, .int v57]) rfl rfl ?_
        refine y_pure (pc' := 261) (st' := [.int (x3 + (nI 1)), .ref 0, .ref 866, .int v57]) rfl rfl ?_
        obtain ⟨hi58, h⟩ := zg_inv h
        refine y_sald (pc' := 262) rfl hi58 rfl ?_
        obtain ⟨v61, M60, he59, h⟩ := zC1_inv h
        refine y_callV (pc' := 265) (y := zmM_end) (a' := [.int (M56.1 0 (Int32.toNatClampNeg (x3 + (nI 1))))]) (st' := [.int v57]) rfl rfl rfl rfl rfl (zrecv_o (o := 10) zc_866 rfl) rfl he59 rfl rfl ?_
        rcases zif_inv h with ⟨hc62, h⟩ | ⟨hc62, h⟩
        · refine y_cmp (pc' := 1114) rfl rfl (zc_eqT hc62) rfl ?_
          refine y_pure (pc' := 1117) (ls' := [(0, .ref 0), (1, .ref 64), (2, .ref 866), (3, .int (x3 + (nI 6)))]) (st' := []) rfl rfl ?_
          refine y_pure (pc' := 18) rfl rfl ?_
          refine zEx_sub ?_ h
          exact ⟨rfl, rfl, rfl, rfl, trivial⟩
        · refine y_cmp (pc' := 268) rfl rfl (zc_eqF hc62) rfl ?_
          refine y_pure (pc' := 269) (st' := [.int (nI 0)]) rfl rfl ?_
          exact y_retZ rfl rfl (by decide) h
      · rcases zif_inv h with ⟨hc5, h⟩ | ⟨hc5, h⟩
        · refine y_sw (k := 2) (t := 270) rfl (by rw [hc5]; decide) (by decide) rfl rfl ?_
          refine y_pure (pc' := 271) (st' := [.ref 64]) rfl rfl ?_
          obtain ⟨v65, M64, he63, h⟩ := zC1_inv h
          refine y_callV (pc' := 274) (y := zmC_tell) (a' := []) (st' := []) rfl rfl rfl rfl rfl (zrecv_o (o := 9) zc_64 rfl) rfl he63 rfl rfl ?_
          refine y_pure (pc' := 275) (st' := [.ref 866, .int v65]) rfl rfl ?_
          obtain ⟨v68, M67, he66, h⟩ := zC1_inv h
          refine y_callV (pc' := 278) (y := zmM_tell) (a' := []) (st' := [.int v65]) rfl rfl rfl rfl rfl (zrecv_o (o := 10) zc_866 rfl) rfl he66 rfl rfl ?_
          rcases zif_inv h with ⟨hc69, h⟩ | ⟨hc69, h⟩
          · refine y_cmp (pc' := 1114) rfl rfl (zc_eqT hc69) rfl ?_
            refine y_pure (pc' := 1117) (ls' := [(0, .ref 0), (1, .ref 64), (2, .ref 866), (3, .int (x3 + (nI 6)))]) (st' := []) rfl rfl ?_
            refine y_pure (pc' := 18) rfl rfl ?_
            refine zEx_sub ?_ h
            exact ⟨rfl, rfl, rfl, rfl, trivial⟩
          · refine y_cmp (pc' := 281) rfl rfl (zc_eqF hc69) rfl ?_
            refine y_pure (pc' := 282) (st' := [.int (nI 0)]) rfl rfl ?_
            exact y_retZ rfl rfl (by decide) h
        · rcases zif_inv h with ⟨hc6, h⟩ | ⟨hc6, h⟩
          · refine y_sw (k := 3) (t := 283) rfl (by rw [hc6]; decide) (by decide) rfl rfl ?_
            refine y_pure (pc' := 284) (st' := [.ref 64]) rfl rfl ?_
            refine y_pure (pc' := 285) (st' := [.ref 0, .ref 64]) rfl rfl ?_
            refine y_pure (pc' := 286) (st' := [.int x3, .ref 0, .ref 64]) rfl rfl ?_
            refine y_pure (pc' := 287) (st' := [.int (nI 1), .int x3, .ref 0, .ref 64]) rfl rfl ?_
            refine y_pure (pc' := 288) (st' := [.int (x3 + (nI 1)), .ref 0, .ref 64]) rfl rfl ?_
            obtain ⟨hi70, h⟩ := zg_inv h
            refine y_sald (pc' := 289) rfl hi70 rfl ?_
            refine y_pure (pc' := 290) (st' := [.ref 0, .int (M.1 0 (Int32.toNatClampNeg (x3 + (nI 1)))), .ref 64]) rfl rfl ?_
            refine y_pure (pc' := 291) (st' := [.int x3, .ref 0, .int (M.1 0 (Int32.toNatClampNeg (x3 + (nI 1)))), .ref 64]) rfl rfl ?_
            refine y_pure (pc' := 292) (st' := [.int (nI 2), .int x3, .ref 0, .int (M.1 0 (Int32.toNatClampNeg (x3 + (nI 1)))), .ref 64]) rfl rfl ?_
            refine y_pure (pc' := 293) (st' := [.int (x3 + (nI 2)), .ref 0, .int (M.1 0 (Int32.toNatClampNeg (x3 + (nI 1)))), .ref 64]) rfl rfl ?_
            obtain ⟨hi71, h⟩ := zg_inv h
            refine y_sald (pc' := 294) rfl hi71 rfl ?_
            obtain ⟨v74, M73, he72, h⟩ := zC1_inv h
            refine y_callV (pc' := 297) (y := zmC_put) (a' := [.int (M.1 0 (Int32.toNatClampNeg (x3 + (nI 1)))), .int (M.1 0 (Int32.toNatClampNeg (x3 + (nI 2))))]) (st' := []) rfl rfl rfl rfl rfl (zrecv_o (o := 9) zc_64 rfl) rfl he72 rfl rfl ?_
            refine y_pure (pc' := 298) (st' := [.ref 866, .int v74]) rfl rfl ?_
            refine y_pure (pc' := 299) (st' := [.ref 0, .ref 866, .int v74]) rfl rfl ?_
            refine y_pure (pc' := 300) (st' := [.int x3, .ref 0, .ref 866, .int v74]) rfl rfl ?_
            refine y_pure (pc' := 301) (st' := [.int (nI 1), .int x3, .ref 0, .ref 866, .int v74]) rfl rfl ?_
            refine y_pure (pc' := 302) (st' := [.int (x3 + (nI 1)), .ref 0, .ref 866, .int v74]) rfl rfl ?_
            obtain ⟨hi75, h⟩ := zg_inv h
            refine y_sald (pc' := 303) rfl hi75 rfl ?_
            refine y_pure (pc' := 304) (st' := [.ref 0, .int (M73.1 0 (Int32.toNatClampNeg (x3 + (nI 1)))), .ref 866, .int v74]) rfl rfl ?_
            refine y_pure (pc' := 305) (st' := [.int x3, .ref 0, .int (M73.1 0 (Int32.toNatClampNeg (x3 + (nI 1)))), .ref 866, .int v74]) rfl rfl ?_
            refine y_pure (pc' := 306) (st' := [.int (nI 2), .int x3, .ref 0, .int (M73.1 0 (Int32.toNatClampNeg (x3 + (nI 1)))), .ref 866, .int v74]) rfl rfl ?_
            refine y_pure (pc' := 307) (st' := [.int (x3 + (nI 2)), .ref 0, .int (M73.1 0 (Int32.toNatClampNeg (x3 + (nI 1)))), .ref 866, .int v74]) rfl rfl ?_
            obtain ⟨hi76, h⟩ := zg_inv h
            refine y_sald (pc' := 308) rfl hi76 rfl ?_
            obtain ⟨v79, M78, he77, h⟩ := zC1_inv h
            refine y_callV (pc' := 311) (y := zmM_put) (a' := [.int (M73.1 0 (Int32.toNatClampNeg (x3 + (nI 1)))), .int (M73.1 0 (Int32.toNatClampNeg (x3 + (nI 2))))]) (st' := [.int v74]) rfl rfl rfl rfl rfl (zrecv_o (o := 10) zc_866 rfl) rfl he77 rfl rfl ?_
            rcases zif_inv h with ⟨hc80, h⟩ | ⟨hc80, h⟩
            · refine y_cmp (pc' := 1114) rfl rfl (zc_eqT hc80) rfl ?_
              refine y_pure (pc' := 1117) (ls' := [(0, .ref 0), (1, .ref 64), (2, .ref 866), (3, .int (x3 + (nI 6)))]) (st' := []) rfl rfl ?_
              refine y_pure (pc' := 18) rfl rfl ?_
              refine zEx_sub ?_ h
              exact ⟨rfl, rfl, rfl, rfl, trivial⟩
            · refine y_cmp (pc' := 314) rfl rfl (zc_eqF hc80) rfl ?_
              refine y_pure (pc' := 315) (st' := [.int (nI 0)]) rfl rfl ?_
              exact y_retZ rfl rfl (by decide) h
          · rcases zif_inv h with ⟨hc7, h⟩ | ⟨hc7, h⟩
            · refine y_sw (k := 4) (t := 316) rfl (by rw [hc7]; decide) (by decide) rfl rfl ?_
              refine y_pure (pc' := 317) (st' := [.ref 64]) rfl rfl ?_
              refine y_pure (pc' := 318) (st' := [.ref 0, .ref 64]) rfl rfl ?_
              refine y_pure (pc' := 319) (st' := [.int x3, .ref 0, .ref 64]) rfl rfl ?_
              refine y_pure (pc' := 320) (st' := [.int (nI 1), .int x3, .ref 0, .ref 64]) rfl rfl ?_
              refine y_pure (pc' := 321) (st' := [.int (x3 + (nI 1)), .ref 0, .ref 64]) rfl rfl ?_
              obtain ⟨hi81, h⟩ := zg_inv h
              refine y_sald (pc' := 322) rfl hi81 rfl ?_
              obtain ⟨v84, M83, he82, h⟩ := zC1_inv h
              refine y_callV (pc' := 325) (y := zmC_lift) (a' := [.int (M.1 0 (Int32.toNatClampNeg (x3 + (nI 1))))]) (st' := []) rfl rfl rfl rfl rfl (zrecv_o (o := 9) zc_64 rfl) rfl he82 rfl rfl ?_
              refine y_pure (pc' := 326) (st' := [.ref 866, .int v84]) rfl rfl ?_
              refine y_pure (pc' := 327) (st' := [.ref 0, .ref 866, .int v84]) rfl rfl ?_
              refine y_pure (pc' := 328) (st' := [.int x3, .ref 0, .ref 866, .int v84]) rfl rfl ?_
              refine y_pure (pc' := 329) (st' := [.int (nI 1), .int x3, .ref 0, .ref 866, .int v84]) rfl rfl ?_
              refine y_pure (pc' := 330) (st' := [.int (x3 + (nI 1)), .ref 0, .ref 866, .int v84]) rfl rfl ?_
              obtain ⟨hi85, h⟩ := zg_inv h
              refine y_sald (pc' := 331) rfl hi85 rfl ?_
              obtain ⟨v88, M87, he86, h⟩ := zC1_inv h
              refine y_callV (pc' := 334) (y := zmM_lift) (a' := [.int (M83.1 0 (Int32.toNatClampNeg (x3 + (nI 1))))]) (st' := [.int v84]) rfl rfl rfl rfl rfl (zrecv_o (o := 10) zc_866 rfl) rfl he86 rfl rfl ?_
              rcases zif_inv h with ⟨hc89, h⟩ | ⟨hc89, h⟩
              · refine y_cmp (pc' := 1114) rfl rfl (zc_eqT hc89) rfl ?_
                refine y_pure (pc' := 1117) (ls' := [(0, .ref 0), (1, .ref 64), (2, .ref 866), (3, .int (x3 + (nI 6)))]) (st' := []) rfl rfl ?_
                refine y_pure (pc' := 18) rfl rfl ?_
                refine zEx_sub ?_ h
                exact ⟨rfl, rfl, rfl, rfl, trivial⟩
              · refine y_cmp (pc' := 337) rfl rfl (zc_eqF hc89) rfl ?_
                refine y_pure (pc' := 338) (st' := [.int (nI 0)]) rfl rfl ?_
                exact y_retZ rfl rfl (by decide) h
            · rcases zif_inv h with ⟨hc8, h⟩ | ⟨hc8, h⟩
              · refine y_sw (k := 5) (t := 339) rfl (by rw [hc8]; decide) (by decide) rfl rfl ?_
                refine y_pure (pc' := 340) (st' := [.ref 64]) rfl rfl ?_
                refine y_pure (pc' := 341) (st' := [.ref 0, .ref 64]) rfl rfl ?_
                refine y_pure (pc' := 342) (st' := [.int x3, .ref 0, .ref 64]) rfl rfl ?_
                refine y_pure (pc' := 343) (st' := [.int (nI 1), .int x3, .ref 0, .ref 64]) rfl rfl ?_
                refine y_pure (pc' := 344) (st' := [.int (x3 + (nI 1)), .ref 0, .ref 64]) rfl rfl ?_
                obtain ⟨hi90, h⟩ := zg_inv h
                refine y_sald (pc' := 345) rfl hi90 rfl ?_
                refine y_pure (pc' := 346) (st' := [.ref 0, .int (M.1 0 (Int32.toNatClampNeg (x3 + (nI 1)))), .ref 64]) rfl rfl ?_
                refine y_pure (pc' := 347) (st' := [.int x3, .ref 0, .int (M.1 0 (Int32.toNatClampNeg (x3 + (nI 1)))), .ref 64]) rfl rfl ?_
                refine y_pure (pc' := 348) (st' := [.int (nI 2), .int x3, .ref 0, .int (M.1 0 (Int32.toNatClampNeg (x3 + (nI 1)))), .ref 64]) rfl rfl ?_
                refine y_pure (pc' := 349) (st' := [.int (x3 + (nI 2)), .ref 0, .int (M.1 0 (Int32.toNatClampNeg (x3 + (nI 1)))), .ref 64]) rfl rfl ?_
                obtain ⟨hi91, h⟩ := zg_inv h
                refine y_sald (pc' := 350) rfl hi91 rfl ?_
                obtain ⟨v94, M93, he92, h⟩ := zC1_inv h
                refine y_callV (pc' := 353) (y := zmC_strike) (a' := [.int (M.1 0 (Int32.toNatClampNeg (x3 + (nI 1)))), .int (M.1 0 (Int32.toNatClampNeg (x3 + (nI 2))))]) (st' := []) rfl rfl rfl rfl rfl (zrecv_o (o := 9) zc_64 rfl) rfl he92 rfl rfl ?_
                refine y_pure (pc' := 354) (st' := [.ref 866, .int v94]) rfl rfl ?_
                refine y_pure (pc' := 355) (st' := [.ref 0, .ref 866, .int v94]) rfl rfl ?_
                refine y_pure (pc' := 356) (st' := [.int x3, .ref 0, .ref 866, .int v94]) rfl rfl ?_
                refine y_pure (pc' := 357) (st' := [.int (nI 1), .int x3, .ref 0, .ref 866, .int v94]) rfl rfl ?_
                refine y_pure (pc' := 358) (st' := [.int (x3 + (nI 1)), .ref 0, .ref 866, .int v94]) rfl rfl ?_
                obtain ⟨hi95, h⟩ := zg_inv h
                refine y_sald (pc' := 359) rfl hi95 rfl ?_
                refine y_pure (pc' := 360) (st' := [.ref 0, .int (M93.1 0 (Int32.toNatClampNeg (x3 + (nI 1)))), .ref 866, .int v94]) rfl rfl ?_
                refine y_pure (pc' := 361) (st' := [.int x3, .ref 0, .int (M93.1 0 (Int32.toNatClampNeg (x3 + (nI 1)))), .ref 866, .int v94]) rfl rfl ?_
                refine y_pure (pc' := 362) (st' := [.int (nI 2), .int x3, .ref 0, .int (M93.1 0 (Int32.toNatClampNeg (x3 + (nI 1)))), .ref 866, .int v94]) rfl rfl ?_
                refine y_pure (pc' := 363) (st' := [.int (x3 + (nI 2)), .ref 0, .int (M93.1 0 (Int32.toNatClampNeg (x3 + (nI 1)))), .ref 866, .int v94]) rfl rfl ?_
                obtain ⟨hi96, h⟩ := zg_inv h
                refine y_sald (pc' := 364) rfl hi96 rfl ?_
                obtain ⟨v99, M98, he97, h⟩ := zC1_inv h
                refine y_callV (pc' := 367) (y := zmM_strike) (a' := [.int (M93.1 0 (Int32.toNatClampNeg (x3 + (nI 1)))), .int (M93.1 0 (Int32.toNatClampNeg (x3 + (nI 2))))]) (st' := [.int v94]) rfl rfl rfl rfl rfl (zrecv_o (o := 10) zc_866 rfl) rfl he97 rfl rfl ?_
                rcases zif_inv h with ⟨hc100, h⟩ | ⟨hc100, h⟩
                · refine y_cmp (pc' := 1114) rfl rfl (zc_eqT hc100) rfl ?_
                  refine y_pure (pc' := 1117) (ls' := [(0, .ref 0), (1, .ref 64), (2, .ref 866), (3, .int (x3 + (nI 6)))]) (st' := []) rfl rfl ?_
                  refine y_pure (pc' := 18) rfl rfl ?_
                  refine zEx_sub ?_ h
                  exact ⟨rfl, rfl, rfl, rfl, trivial⟩
                · refine y_cmp (pc' := 370) rfl rfl (zc_eqF hc100) rfl ?_
                  refine y_pure (pc' := 371) (st' := [.int (nI 0)]) rfl rfl ?_
                  exact y_retZ rfl rfl (by decide) h
              · rcases zif_inv h with ⟨hc9, h⟩ | ⟨hc9, h⟩
                · refine y_sw (k := 6) (t := 372) rfl (by rw [hc9]; decide) (by decide) rfl rfl ?_
                  refine y_pure (pc' := 373) (st' := [.ref 64]) rfl rfl ?_
                  refine y_pure (pc' := 374) (st' := [.ref 0, .ref 64]) rfl rfl ?_
                  refine y_pure (pc' := 375) (st' := [.int x3, .ref 0, .ref 64]) rfl rfl ?_
                  refine y_pure (pc' := 376) (st' := [.int (nI 1), .int x3, .ref 0, .ref 64]) rfl rfl ?_
                  refine y_pure (pc' := 377) (st' := [.int (x3 + (nI 1)), .ref 0, .ref 64]) rfl rfl ?_
                  obtain ⟨hi101, h⟩ := zg_inv h
                  refine y_sald (pc' := 378) rfl hi101 rfl ?_
                  refine y_pure (pc' := 379) (st' := [.ref 0, .int (M.1 0 (Int32.toNatClampNeg (x3 + (nI 1)))), .ref 64]) rfl rfl ?_
                  refine y_pure (pc' := 380) (st' := [.int x3, .ref 0, .int (M.1 0 (Int32.toNatClampNeg (x3 + (nI 1)))), .ref 64]) rfl rfl ?_
                  refine y_pure (pc' := 381) (st' := [.int (nI 2), .int x3, .ref 0, .int (M.1 0 (Int32.toNatClampNeg (x3 + (nI 1)))), .ref 64]) rfl rfl ?_
                  refine y_pure (pc' := 382) (st' := [.int (x3 + (nI 2)), .ref 0, .int (M.1 0 (Int32.toNatClampNeg (x3 + (nI 1)))), .ref 64]) rfl rfl ?_
                  obtain ⟨hi102, h⟩ := zg_inv h
                  refine y_sald (pc' := 383) rfl hi102 rfl ?_
                  obtain ⟨v105, M104, he103, h⟩ := zC1_inv h
                  refine y_callV (pc' := 386) (y := zmC_give) (a' := [.int (M.1 0 (Int32.toNatClampNeg (x3 + (nI 1)))), .int (M.1 0 (Int32.toNatClampNeg (x3 + (nI 2))))]) (st' := []) rfl rfl rfl rfl rfl (zrecv_o (o := 9) zc_64 rfl) rfl he103 rfl rfl ?_
                  refine y_pure (pc' := 387) (st' := [.ref 866, .int v105]) rfl rfl ?_
                  refine y_pure (pc' := 388) (st' := [.ref 0, .ref 866, .int v105]) rfl rfl ?_
                  refine y_pure (pc' := 389) (st' := [.int x3, .ref 0, .ref 866, .int v105]) rfl rfl ?_
                  refine y_pure (pc' := 390) (st' := [.int (nI 1), .int x3, .ref 0, .ref 866, .int v105]) rfl rfl ?_
                  refine y_pure (pc' := 391) (st' := [.int (x3 + (nI 1)), .ref 0, .ref 866, .int v105]) rfl rfl ?_
                  obtain ⟨hi106, h⟩ := zg_inv h
                  refine y_sald (pc' := 392) rfl hi106 rfl ?_
                  refine y_pure (pc' := 393) (st' := [.ref 0, .int (M104.1 0 (Int32.toNatClampNeg (x3 + (nI 1)))), .ref 866, .int v105]) rfl rfl ?_
                  refine y_pure (pc' := 394) (st' := [.int x3, .ref 0, .int (M104.1 0 (Int32.toNatClampNeg (x3 + (nI 1)))), .ref 866, .int v105]) rfl rfl ?_
                  refine y_pure (pc' := 395) (st' := [.int (nI 2), .int x3, .ref 0, .int (M104.1 0 (Int32.toNatClampNeg (x3 + (nI 1)))), .ref 866, .int v105]) rfl rfl ?_
                  refine y_pure (pc' := 396) (st' := [.int (x3 + (nI 2)), .ref 0, .int (M104.1 0 (Int32.toNatClampNeg (x3 + (nI 1)))), .ref 866, .int v105]) rfl rfl ?_
                  obtain ⟨hi107, h⟩ := zg_inv h
                  refine y_sald (pc' := 397) rfl hi107 rfl ?_
                  obtain ⟨v110, M109, he108, h⟩ := zC1_inv h
                  refine y_callV (pc' := 400) (y := zmM_give) (a' := [.int (M104.1 0 (Int32.toNatClampNeg (x3 + (nI 1)))), .int (M104.1 0 (Int32.toNatClampNeg (x3 + (nI 2))))]) (st' := [.int v105]) rfl rfl rfl rfl rfl (zrecv_o (o := 10) zc_866 rfl) rfl he108 rfl rfl ?_
                  rcases zif_inv h with ⟨hc111, h⟩ | ⟨hc111, h⟩
                  · refine y_cmp (pc' := 1114) rfl rfl (zc_eqT hc111) rfl ?_
                    refine y_pure (pc' := 1117) (ls' := [(0, .ref 0), (1, .ref 64), (2, .ref 866), (3, .int (x3 + (nI 6)))]) (st' := []) rfl rfl ?_
                    refine y_pure (pc' := 18) rfl rfl ?_
                    refine zEx_sub ?_ h
                    exact ⟨rfl, rfl, rfl, rfl, trivial⟩
                  · refine y_cmp (pc' := 403) rfl rfl (zc_eqF hc111) rfl ?_
                    refine y_pure (pc' := 404) (st' := [.int (nI 0)]) rfl rfl ?_
                    exact y_retZ rfl rfl (by decide) h
                · rcases zif_inv h with ⟨hc10, h⟩ | ⟨hc10, h⟩
                  · refine y_sw (k := 7) (t := 405) rfl (by rw [hc10]; decide) (by decide) rfl rfl ?_
                    refine y_pure (pc' := 406) (st' := [.ref 64]) rfl rfl ?_
                    refine y_pure (pc' := 407) (st' := [.ref 0, .ref 64]) rfl rfl ?_
                    refine y_pure (pc' := 408) (st' := [.int x3, .ref 0, .ref 64]) rfl rfl ?_
                    refine y_pure (pc' := 409) (st' := [.int (nI 1), .int x3, .ref 0, .ref 64]) rfl rfl ?_
                    refine y_pure (pc' := 410) (st' := [.int (x3 + (nI 1)), .ref 0, .ref 64]) rfl rfl ?_
                    obtain ⟨hi112, h⟩ := zg_inv h
                    refine y_sald (pc' := 411) rfl hi112 rfl ?_
                    refine y_pure (pc' := 412) (st' := [.ref 0, .int (M.1 0 (Int32.toNatClampNeg (x3 + (nI 1)))), .ref 64]) rfl rfl ?_
                    refine y_pure (pc' := 413) (st' := [.int x3, .ref 0, .int (M.1 0 (Int32.toNatClampNeg (x3 + (nI 1)))), .ref 64]) rfl rfl ?_
                    refine y_pure (pc' := 414) (st' := [.int (nI 2), .int x3, .ref 0, .int (M.1 0 (Int32.toNatClampNeg (x3 + (nI 1)))), .ref 64]) rfl rfl ?_
                    refine y_pure (pc' := 415) (st' := [.int (x3 + (nI 2)), .ref 0, .int (M.1 0 (Int32.toNatClampNeg (x3 + (nI 1)))), .ref 64]) rfl rfl ?_
                    obtain ⟨hi113, h⟩ := zg_inv h
                    refine y_sald (pc' := 416) rfl hi113 rfl ?_
                    obtain ⟨v116, M115, he114, h⟩ := zC1_inv h
                    refine y_callV (pc' := 419) (y := zmC_total) (a' := [.int (M.1 0 (Int32.toNatClampNeg (x3 + (nI 1)))), .int (M.1 0 (Int32.toNatClampNeg (x3 + (nI 2))))]) (st' := []) rfl rfl rfl rfl rfl (zrecv_o (o := 9) zc_64 rfl) rfl he114 rfl rfl ?_
                    refine y_pure (pc' := 420) (st' := [.ref 866, .int v116]) rfl rfl ?_
                    refine y_pure (pc' := 421) (st' := [.ref 0, .ref 866, .int v116]) rfl rfl ?_
                    refine y_pure (pc' := 422) (st' := [.int x3, .ref 0, .ref 866, .int v116]) rfl rfl ?_
                    refine y_pure (pc' := 423) (st' := [.int (nI 1), .int x3, .ref 0, .ref 866, .int v116]) rfl rfl ?_
                    refine y_pure (pc' := 424) (st' := [.int (x3 + (nI 1)), .ref 0, .ref 866, .int v116]) rfl rfl ?_
                    obtain ⟨hi117, h⟩ := zg_inv h
                    refine y_sald (pc' := 425) rfl hi117 rfl ?_
                    refine y_pure (pc' := 426) (st' := [.ref 0, .int (M115.1 0 (Int32.toNatClampNeg (x3 + (nI 1)))), .ref 866, .int v116]) rfl rfl ?_
                    refine y_pure (pc' := 427) (st' := [.int x3, .ref 0, .int (M115.1 0 (Int32.toNatClampNeg (x3 + (nI 1)))), .ref 866, .int v116]) rfl rfl ?_
                    refine y_pure (pc' := 428) (st' := [.int (nI 2), .int x3, .ref 0, .int (M115.1 0 (Int32.toNatClampNeg (x3 + (nI 1)))), .ref 866, .int v116]) rfl rfl ?_
                    refine y_pure (pc' := 429) (st' := [.int (x3 + (nI 2)), .ref 0, .int (M115.1 0 (Int32.toNatClampNeg (x3 + (nI 1)))), .ref 866, .int v116]) rfl rfl ?_
                    obtain ⟨hi118, h⟩ := zg_inv h
                    refine y_sald (pc' := 430) rfl hi118 rfl ?_
                    obtain ⟨v121, M120, he119, h⟩ := zC1_inv h
                    refine y_callV (pc' := 433) (y := zmM_total) (a' := [.int (M115.1 0 (Int32.toNatClampNeg (x3 + (nI 1)))), .int (M115.1 0 (Int32.toNatClampNeg (x3 + (nI 2))))]) (st' := [.int v116]) rfl rfl rfl rfl rfl (zrecv_o (o := 10) zc_866 rfl) rfl he119 rfl rfl ?_
                    rcases zif_inv h with ⟨hc122, h⟩ | ⟨hc122, h⟩
                    · refine y_cmp (pc' := 1114) rfl rfl (zc_eqT hc122) rfl ?_
                      refine y_pure (pc' := 1117) (ls' := [(0, .ref 0), (1, .ref 64), (2, .ref 866), (3, .int (x3 + (nI 6)))]) (st' := []) rfl rfl ?_
                      refine y_pure (pc' := 18) rfl rfl ?_
                      refine zEx_sub ?_ h
                      exact ⟨rfl, rfl, rfl, rfl, trivial⟩
                    · refine y_cmp (pc' := 436) rfl rfl (zc_eqF hc122) rfl ?_
                      refine y_pure (pc' := 437) (st' := [.int (nI 0)]) rfl rfl ?_
                      exact y_retZ rfl rfl (by decide) h
                  · rcases zif_inv h with ⟨hc11, h⟩ | ⟨hc11, h⟩
                    · refine y_sw (k := 8) (t := 438) rfl (by rw [hc11]; decide) (by decide) rfl rfl ?_
                      refine y_pure (pc' := 439) (st' := [.ref 64]) rfl rfl ?_
                      obtain ⟨v125, M124, he123, h⟩ := zC1_inv h
                      refine y_callV (pc' := 442) (y := zmC_step) (a' := []) (st' := []) rfl rfl rfl rfl rfl (zrecv_o (o := 9) zc_64 rfl) rfl he123 rfl rfl ?_
                      refine y_pure (pc' := 443) (st' := [.ref 866, .int v125]) rfl rfl ?_
                      obtain ⟨v128, M127, he126, h⟩ := zC1_inv h
                      refine y_callV (pc' := 446) (y := zmM_step) (a' := []) (st' := [.int v125]) rfl rfl rfl rfl rfl (zrecv_o (o := 10) zc_866 rfl) rfl he126 rfl rfl ?_
                      rcases zif_inv h with ⟨hc129, h⟩ | ⟨hc129, h⟩
                      · refine y_cmp (pc' := 1114) rfl rfl (zc_eqT hc129) rfl ?_
                        refine y_pure (pc' := 1117) (ls' := [(0, .ref 0), (1, .ref 64), (2, .ref 866), (3, .int (x3 + (nI 6)))]) (st' := []) rfl rfl ?_
                        refine y_pure (pc' := 18) rfl rfl ?_
                        refine zEx_sub ?_ h
                        exact ⟨rfl, rfl, rfl, rfl, trivial⟩
                      · refine y_cmp (pc' := 449) rfl rfl (zc_eqF hc129) rfl ?_
                        refine y_pure (pc' := 450) (st' := [.int (nI 0)]) rfl rfl ?_
                        exact y_retZ rfl rfl (by decide) h
                    · rcases zif_inv h with ⟨hc12, h⟩ | ⟨hc12, h⟩
                      · refine y_sw (k := 9) (t := 451) rfl (by rw [hc12]; decide) (by decide) rfl rfl ?_
                        refine y_pure (pc' := 452) (st' := [.ref 64]) rfl rfl ?_
                        obtain ⟨v132, M131, he130, h⟩ := zC1_inv h
                        refine y_callV (pc' := 455) (y := zmC_run) (a' := []) (st' := []) rfl rfl rfl rfl rfl (zrecv_o (o := 9) zc_64 rfl) rfl he130 rfl rfl ?_
                        refine y_pure (pc' := 456) (st' := [.ref 866, .int v132]) rfl rfl ?_
                        obtain ⟨v135, M134, he133, h⟩ := zC1_inv h
                        refine y_callV (pc' := 459) (y := zmM_run) (a' := []) (st' := [.int v132]) rfl rfl rfl rfl rfl (zrecv_o (o := 10) zc_866 rfl) rfl he133 rfl rfl ?_
                        rcases zif_inv h with ⟨hc136, h⟩ | ⟨hc136, h⟩
                        · refine y_cmp (pc' := 1114) rfl rfl (zc_eqT hc136) rfl ?_
                          refine y_pure (pc' := 1117) (ls' := [(0, .ref 0), (1, .ref 64), (2, .ref 866), (3, .int (x3 + (nI 6)))]) (st' := []) rfl rfl ?_
                          refine y_pure (pc' := 18) rfl rfl ?_
                          refine zEx_sub ?_ h
                          exact ⟨rfl, rfl, rfl, rfl, trivial⟩
                        · refine y_cmp (pc' := 462) rfl rfl (zc_eqF hc136) rfl ?_
                          refine y_pure (pc' := 463) (st' := [.int (nI 0)]) rfl rfl ?_
                          exact y_retZ rfl rfl (by decide) h
                      · rcases zif_inv h with ⟨hc13, h⟩ | ⟨hc13, h⟩
                        · refine y_sw (k := 10) (t := 464) rfl (by rw [hc13]; decide) (by decide) rfl rfl ?_
                          refine y_pure (pc' := 465) (st' := [.ref 64]) rfl rfl ?_
                          refine y_pure (pc' := 466) (st' := [.ref 0, .ref 64]) rfl rfl ?_
                          refine y_pure (pc' := 467) (st' := [.int x3, .ref 0, .ref 64]) rfl rfl ?_
                          refine y_pure (pc' := 468) (st' := [.int (nI 1), .int x3, .ref 0, .ref 64]) rfl rfl ?_
                          refine y_pure (pc' := 469) (st' := [.int (x3 + (nI 1)), .ref 0, .ref 64]) rfl rfl ?_
                          obtain ⟨hi137, h⟩ := zg_inv h
                          refine y_sald (pc' := 470) rfl hi137 rfl ?_
                          obtain ⟨v140, M139, he138, h⟩ := zC1_inv h
                          refine y_callV (pc' := 473) (y := zmC_make) (a' := [.int (M.1 0 (Int32.toNatClampNeg (x3 + (nI 1))))]) (st' := []) rfl rfl rfl rfl rfl (zrecv_o (o := 9) zc_64 rfl) rfl he138 rfl rfl ?_
                          refine y_pure (pc' := 474) (st' := [.ref 866, .int v140]) rfl rfl ?_
                          refine y_pure (pc' := 475) (st' := [.ref 0, .ref 866, .int v140]) rfl rfl ?_
                          refine y_pure (pc' := 476) (st' := [.int x3, .ref 0, .ref 866, .int v140]) rfl rfl ?_
                          refine y_pure (pc' := 477) (st' := [.int (nI 1), .int x3, .ref 0, .ref 866, .int v140]) rfl rfl ?_
                          refine y_pure (pc' := 478) (st' := [.int (x3 + (nI 1)), .ref 0, .ref 866, .int v140]) rfl rfl ?_
                          obtain ⟨hi141, h⟩ := zg_inv h
                          refine y_sald (pc' := 479) rfl hi141 rfl ?_
                          obtain ⟨v144, M143, he142, h⟩ := zC1_inv h
                          refine y_callV (pc' := 482) (y := zmM_make) (a' := [.int (M139.1 0 (Int32.toNatClampNeg (x3 + (nI 1))))]) (st' := [.int v140]) rfl rfl rfl rfl rfl (zrecv_o (o := 10) zc_866 rfl) rfl he142 rfl rfl ?_
                          rcases zif_inv h with ⟨hc145, h⟩ | ⟨hc145, h⟩
                          · refine y_cmp (pc' := 1114) rfl rfl (zc_eqT hc145) rfl ?_
                            refine y_pure (pc' := 1117) (ls' := [(0, .ref 0), (1, .ref 64), (2, .ref 866), (3, .int (x3 + (nI 6)))]) (st' := []) rfl rfl ?_
                            refine y_pure (pc' := 18) rfl rfl ?_
                            refine zEx_sub ?_ h
                            exact ⟨rfl, rfl, rfl, rfl, trivial⟩
                          · refine y_cmp (pc' := 485) rfl rfl (zc_eqF hc145) rfl ?_
                            refine y_pure (pc' := 486) (st' := [.int (nI 0)]) rfl rfl ?_
                            exact y_retZ rfl rfl (by decide) h
                        · rcases zif_inv h with ⟨hc14, h⟩ | ⟨hc14, h⟩
                          · refine y_sw (k := 11) (t := 487) rfl (by rw [hc14]; decide) (by decide) rfl rfl ?_
                            refine y_pure (pc' := 488) (st' := [.ref 64]) rfl rfl ?_
                            obtain ⟨v148, M147, he146, h⟩ := zC1_inv h
                            refine y_callV (pc' := 491) (y := zmC_undo) (a' := []) (st' := []) rfl rfl rfl rfl rfl (zrecv_o (o := 9) zc_64 rfl) rfl he146 rfl rfl ?_
                            refine y_pure (pc' := 492) (st' := [.ref 866, .int v148]) rfl rfl ?_
                            obtain ⟨v151, M150, he149, h⟩ := zC1_inv h
                            refine y_callV (pc' := 495) (y := zmM_undo) (a' := []) (st' := [.int v148]) rfl rfl rfl rfl rfl (zrecv_o (o := 10) zc_866 rfl) rfl he149 rfl rfl ?_
                            rcases zif_inv h with ⟨hc152, h⟩ | ⟨hc152, h⟩
                            · refine y_cmp (pc' := 1114) rfl rfl (zc_eqT hc152) rfl ?_
                              refine y_pure (pc' := 1117) (ls' := [(0, .ref 0), (1, .ref 64), (2, .ref 866), (3, .int (x3 + (nI 6)))]) (st' := []) rfl rfl ?_
                              refine y_pure (pc' := 18) rfl rfl ?_
                              refine zEx_sub ?_ h
                              exact ⟨rfl, rfl, rfl, rfl, trivial⟩
                            · refine y_cmp (pc' := 498) rfl rfl (zc_eqF hc152) rfl ?_
                              refine y_pure (pc' := 499) (st' := [.int (nI 0)]) rfl rfl ?_
                              exact y_retZ rfl rfl (by decide) h
                          · rcases zif_inv h with ⟨hc15, h⟩ | ⟨hc15, h⟩
                            · refine y_sw (k := 12) (t := 500) rfl (by rw [hc15]; decide) (by decide) rfl rfl ?_
                              refine y_pure (pc' := 501) (st' := [.ref 64]) rfl rfl ?_
                              refine y_pure (pc' := 502) (st' := [.ref 0, .ref 64]) rfl rfl ?_
                              refine y_pure (pc' := 503) (st' := [.int x3, .ref 0, .ref 64]) rfl rfl ?_
                              refine y_pure (pc' := 504) (st' := [.int (nI 1), .int x3, .ref 0, .ref 64]) rfl rfl ?_
                              refine y_pure (pc' := 505) (st' := [.int (x3 + (nI 1)), .ref 0, .ref 64]) rfl rfl ?_
                              obtain ⟨hi153, h⟩ := zg_inv h
                              refine y_sald (pc' := 506) rfl hi153 rfl ?_
                              obtain ⟨v156, M155, he154, h⟩ := zC1_inv h
                              refine y_callV (pc' := 509) (y := zmC_keep) (a' := [.int (M.1 0 (Int32.toNatClampNeg (x3 + (nI 1))))]) (st' := []) rfl rfl rfl rfl rfl (zrecv_o (o := 9) zc_64 rfl) rfl he154 rfl rfl ?_
                              refine y_pure (pc' := 510) (st' := [.ref 866, .int v156]) rfl rfl ?_
                              refine y_pure (pc' := 511) (st' := [.ref 0, .ref 866, .int v156]) rfl rfl ?_
                              refine y_pure (pc' := 512) (st' := [.int x3, .ref 0, .ref 866, .int v156]) rfl rfl ?_
                              refine y_pure (pc' := 513) (st' := [.int (nI 1), .int x3, .ref 0, .ref 866, .int v156]) rfl rfl ?_
                              refine y_pure (pc' := 514) (st' := [.int (x3 + (nI 1)), .ref 0, .ref 866, .int v156]) rfl rfl ?_
                              obtain ⟨hi157, h⟩ := zg_inv h
                              refine y_sald (pc' := 515) rfl hi157 rfl ?_
                              obtain ⟨v160, M159, he158, h⟩ := zC1_inv h
                              refine y_callV (pc' := 518) (y := zmM_keep) (a' := [.int (M155.1 0 (Int32.toNatClampNeg (x3 + (nI 1))))]) (st' := [.int v156]) rfl rfl rfl rfl rfl (zrecv_o (o := 10) zc_866 rfl) rfl he158 rfl rfl ?_
                              rcases zif_inv h with ⟨hc161, h⟩ | ⟨hc161, h⟩
                              · refine y_cmp (pc' := 1114) rfl rfl (zc_eqT hc161) rfl ?_
                                refine y_pure (pc' := 1117) (ls' := [(0, .ref 0), (1, .ref 64), (2, .ref 866), (3, .int (x3 + (nI 6)))]) (st' := []) rfl rfl ?_
                                refine y_pure (pc' := 18) rfl rfl ?_
                                refine zEx_sub ?_ h
                                exact ⟨rfl, rfl, rfl, rfl, trivial⟩
                              · refine y_cmp (pc' := 521) rfl rfl (zc_eqF hc161) rfl ?_
                                refine y_pure (pc' := 522) (st' := [.int (nI 0)]) rfl rfl ?_
                                exact y_retZ rfl rfl (by decide) h
                            · rcases zif_inv h with ⟨hc16, h⟩ | ⟨hc16, h⟩
                              · refine y_sw (k := 13) (t := 523) rfl (by rw [hc16]; decide) (by decide) rfl rfl ?_
                                refine y_pure (pc' := 524) (st' := [.ref 64]) rfl rfl ?_
                                refine y_pure (pc' := 525) (st' := [.ref 0, .ref 64]) rfl rfl ?_
                                refine y_pure (pc' := 526) (st' := [.int x3, .ref 0, .ref 64]) rfl rfl ?_
                                refine y_pure (pc' := 527) (st' := [.int (nI 1), .int x3, .ref 0, .ref 64]) rfl rfl ?_
                                refine y_pure (pc' := 528) (st' := [.int (x3 + (nI 1)), .ref 0, .ref 64]) rfl rfl ?_
                                obtain ⟨hi162, h⟩ := zg_inv h
                                refine y_sald (pc' := 529) rfl hi162 rfl ?_
                                obtain ⟨v165, M164, he163, h⟩ := zC1_inv h
                                refine y_callV (pc' := 532) (y := zmC_back) (a' := [.int (M.1 0 (Int32.toNatClampNeg (x3 + (nI 1))))]) (st' := []) rfl rfl rfl rfl rfl (zrecv_o (o := 9) zc_64 rfl) rfl he163 rfl rfl ?_
                                refine y_pure (pc' := 533) (st' := [.ref 866, .int v165]) rfl rfl ?_
                                refine y_pure (pc' := 534) (st' := [.ref 0, .ref 866, .int v165]) rfl rfl ?_
                                refine y_pure (pc' := 535) (st' := [.int x3, .ref 0, .ref 866, .int v165]) rfl rfl ?_
                                refine y_pure (pc' := 536) (st' := [.int (nI 1), .int x3, .ref 0, .ref 866, .int v165]) rfl rfl ?_
                                refine y_pure (pc' := 537) (st' := [.int (x3 + (nI 1)), .ref 0, .ref 866, .int v165]) rfl rfl ?_
                                obtain ⟨hi166, h⟩ := zg_inv h
                                refine y_sald (pc' := 538) rfl hi166 rfl ?_
                                obtain ⟨v169, M168, he167, h⟩ := zC1_inv h
                                refine y_callV (pc' := 541) (y := zmM_back) (a' := [.int (M164.1 0 (Int32.toNatClampNeg (x3 + (nI 1))))]) (st' := [.int v165]) rfl rfl rfl rfl rfl (zrecv_o (o := 10) zc_866 rfl) rfl he167 rfl rfl ?_
                                rcases zif_inv h with ⟨hc170, h⟩ | ⟨hc170, h⟩
                                · refine y_cmp (pc' := 1114) rfl rfl (zc_eqT hc170) rfl ?_
                                  refine y_pure (pc' := 1117) (ls' := [(0, .ref 0), (1, .ref 64), (2, .ref 866), (3, .int (x3 + (nI 6)))]) (st' := []) rfl rfl ?_
                                  refine y_pure (pc' := 18) rfl rfl ?_
                                  refine zEx_sub ?_ h
                                  exact ⟨rfl, rfl, rfl, rfl, trivial⟩
                                · refine y_cmp (pc' := 544) rfl rfl (zc_eqF hc170) rfl ?_
                                  refine y_pure (pc' := 545) (st' := [.int (nI 0)]) rfl rfl ?_
                                  exact y_retZ rfl rfl (by decide) h
                              · rcases zif_inv h with ⟨hc17, h⟩ | ⟨hc17, h⟩
                                · refine y_sw (k := 14) (t := 546) rfl (by rw [hc17]; decide) (by decide) rfl rfl ?_
                                  refine y_pure (pc' := 547) (st' := [.ref 64]) rfl rfl ?_
                                  refine y_pure (pc' := 548) (st' := [.ref 0, .ref 64]) rfl rfl ?_
                                  refine y_pure (pc' := 549) (st' := [.int x3, .ref 0, .ref 64]) rfl rfl ?_
                                  refine y_pure (pc' := 550) (st' := [.int (nI 1), .int x3, .ref 0, .ref 64]) rfl rfl ?_
                                  refine y_pure (pc' := 551) (st' := [.int (x3 + (nI 1)), .ref 0, .ref 64]) rfl rfl ?_
                                  obtain ⟨hi171, h⟩ := zg_inv h
                                  refine y_sald (pc' := 552) rfl hi171 rfl ?_
                                  refine y_pure (pc' := 553) (st' := [.ref 0, .int (M.1 0 (Int32.toNatClampNeg (x3 + (nI 1)))), .ref 64]) rfl rfl ?_
                                  refine y_pure (pc' := 554) (st' := [.int x3, .ref 0, .int (M.1 0 (Int32.toNatClampNeg (x3 + (nI 1)))), .ref 64]) rfl rfl ?_
                                  refine y_pure (pc' := 555) (st' := [.int (nI 2), .int x3, .ref 0, .int (M.1 0 (Int32.toNatClampNeg (x3 + (nI 1)))), .ref 64]) rfl rfl ?_
                                  refine y_pure (pc' := 556) (st' := [.int (x3 + (nI 2)), .ref 0, .int (M.1 0 (Int32.toNatClampNeg (x3 + (nI 1)))), .ref 64]) rfl rfl ?_
                                  obtain ⟨hi172, h⟩ := zg_inv h
                                  refine y_sald (pc' := 557) rfl hi172 rfl ?_
                                  obtain ⟨v175, M174, he173, h⟩ := zC1_inv h
                                  refine y_callV (pc' := 560) (y := zmC_cell) (a' := [.int (M.1 0 (Int32.toNatClampNeg (x3 + (nI 1)))), .int (M.1 0 (Int32.toNatClampNeg (x3 + (nI 2))))]) (st' := []) rfl rfl rfl rfl rfl (zrecv_o (o := 9) zc_64 rfl) rfl he173 rfl rfl ?_
                                  refine y_pure (pc' := 561) (st' := [.ref 866, .int v175]) rfl rfl ?_
                                  refine y_pure (pc' := 562) (st' := [.ref 0, .ref 866, .int v175]) rfl rfl ?_
                                  refine y_pure (pc' := 563) (st' := [.int x3, .ref 0, .ref 866, .int v175]) rfl rfl ?_
                                  refine y_pure (pc' := 564) (st' := [.int (nI 1), .int x3, .ref 0, .ref 866, .int v175]) rfl rfl ?_
                                  refine y_pure (pc' := 565) (st' := [.int (x3 + (nI 1)), .ref 0, .ref 866, .int v175]) rfl rfl ?_
                                  obtain ⟨hi176, h⟩ := zg_inv h
                                  refine y_sald (pc' := 566) rfl hi176 rfl ?_
                                  refine y_pure (pc' := 567) (st' := [.ref 0, .int (M174.1 0 (Int32.toNatClampNeg (x3 + (nI 1)))), .ref 866, .int v175]) rfl rfl ?_
                                  refine y_pure (pc' := 568) (st' := [.int x3, .ref 0, .int (M174.1 0 (Int32.toNatClampNeg (x3 + (nI 1)))), .ref 866, .int v175]) rfl rfl ?_
                                  refine y_pure (pc' := 569) (st' := [.int (nI 2), .int x3, .ref 0, .int (M174.1 0 (Int32.toNatClampNeg (x3 + (nI 1)))), .ref 866, .int v175]) rfl rfl ?_
                                  refine y_pure (pc' := 570) (st' := [.int (x3 + (nI 2)), .ref 0, .int (M174.1 0 (Int32.toNatClampNeg (x3 + (nI 1)))), .ref 866, .int v175]) rfl rfl ?_
                                  obtain ⟨hi177, h⟩ := zg_inv h
                                  refine y_sald (pc' := 571) rfl hi177 rfl ?_
                                  obtain ⟨v180, M179, he178, h⟩ := zC1_inv h
                                  refine y_callV (pc' := 574) (y := zmM_cell) (a' := [.int (M174.1 0 (Int32.toNatClampNeg (x3 + (nI 1)))), .int (M174.1 0 (Int32.toNatClampNeg (x3 + (nI 2))))]) (st' := [.int v175]) rfl rfl rfl rfl rfl (zrecv_o (o := 10) zc_866 rfl) rfl he178 rfl rfl ?_
                                  rcases zif_inv h with ⟨hc181, h⟩ | ⟨hc181, h⟩
                                  · refine y_cmp (pc' := 1114) rfl rfl (zc_eqT hc181) rfl ?_
                                    refine y_pure (pc' := 1117) (ls' := [(0, .ref 0), (1, .ref 64), (2, .ref 866), (3, .int (x3 + (nI 6)))]) (st' := []) rfl rfl ?_
                                    refine y_pure (pc' := 18) rfl rfl ?_
                                    refine zEx_sub ?_ h
                                    exact ⟨rfl, rfl, rfl, rfl, trivial⟩
                                  · refine y_cmp (pc' := 577) rfl rfl (zc_eqF hc181) rfl ?_
                                    refine y_pure (pc' := 578) (st' := [.int (nI 0)]) rfl rfl ?_
                                    exact y_retZ rfl rfl (by decide) h
                                · rcases zif_inv h with ⟨hc18, h⟩ | ⟨hc18, h⟩
                                  · refine y_sw (k := 15) (t := 579) rfl (by rw [hc18]; decide) (by decide) rfl rfl ?_
                                    refine y_pure (pc' := 580) (st' := [.ref 64]) rfl rfl ?_
                                    refine y_pure (pc' := 581) (st' := [.ref 0, .ref 64]) rfl rfl ?_
                                    refine y_pure (pc' := 582) (st' := [.int x3, .ref 0, .ref 64]) rfl rfl ?_
                                    refine y_pure (pc' := 583) (st' := [.int (nI 1), .int x3, .ref 0, .ref 64]) rfl rfl ?_
                                    refine y_pure (pc' := 584) (st' := [.int (x3 + (nI 1)), .ref 0, .ref 64]) rfl rfl ?_
                                    obtain ⟨hi182, h⟩ := zg_inv h
                                    refine y_sald (pc' := 585) rfl hi182 rfl ?_
                                    refine y_pure (pc' := 586) (st' := [.ref 0, .int (M.1 0 (Int32.toNatClampNeg (x3 + (nI 1)))), .ref 64]) rfl rfl ?_
                                    refine y_pure (pc' := 587) (st' := [.int x3, .ref 0, .int (M.1 0 (Int32.toNatClampNeg (x3 + (nI 1)))), .ref 64]) rfl rfl ?_
                                    refine y_pure (pc' := 588) (st' := [.int (nI 2), .int x3, .ref 0, .int (M.1 0 (Int32.toNatClampNeg (x3 + (nI 1)))), .ref 64]) rfl rfl ?_
                                    refine y_pure (pc' := 589) (st' := [.int (x3 + (nI 2)), .ref 0, .int (M.1 0 (Int32.toNatClampNeg (x3 + (nI 1)))), .ref 64]) rfl rfl ?_
                                    obtain ⟨hi183, h⟩ := zg_inv h
                                    refine y_sald (pc' := 590) rfl hi183 rfl ?_
                                    obtain ⟨v186, M185, he184, h⟩ := zC1_inv h
                                    refine y_callV (pc' := 593) (y := zmC_cage) (a' := [.int (M.1 0 (Int32.toNatClampNeg (x3 + (nI 1)))), .int (M.1 0 (Int32.toNatClampNeg (x3 + (nI 2))))]) (st' := []) rfl rfl rfl rfl rfl (zrecv_o (o := 9) zc_64 rfl) rfl he184 rfl rfl ?_
                                    refine y_pure (pc' := 594) (st' := [.ref 866, .int v186]) rfl rfl ?_
                                    refine y_pure (pc' := 595) (st' := [.ref 0, .ref 866, .int v186]) rfl rfl ?_
                                    refine y_pure (pc' := 596) (st' := [.int x3, .ref 0, .ref 866, .int v186]) rfl rfl ?_
                                    refine y_pure (pc' := 597) (st' := [.int (nI 1), .int x3, .ref 0, .ref 866, .int v186]) rfl rfl ?_
                                    refine y_pure (pc' := 598) (st' := [.int (x3 + (nI 1)), .ref 0, .ref 866, .int v186]) rfl rfl ?_
                                    obtain ⟨hi187, h⟩ := zg_inv h
                                    refine y_sald (pc' := 599) rfl hi187 rfl ?_
                                    refine y_pure (pc' := 600) (st' := [.ref 0, .int (M185.1 0 (Int32.toNatClampNeg (x3 + (nI 1)))), .ref 866, .int v186]) rfl rfl ?_
                                    refine y_pure (pc' := 601) (st' := [.int x3, .ref 0, .int (M185.1 0 (Int32.toNatClampNeg (x3 + (nI 1)))), .ref 866, .int v186]) rfl rfl ?_
                                    refine y_pure (pc' := 602) (st' := [.int (nI 2), .int x3, .ref 0, .int (M185.1 0 (Int32.toNatClampNeg (x3 + (nI 1)))), .ref 866, .int v186]) rfl rfl ?_
                                    refine y_pure (pc' := 603) (st' := [.int (x3 + (nI 2)), .ref 0, .int (M185.1 0 (Int32.toNatClampNeg (x3 + (nI 1)))), .ref 866, .int v186]) rfl rfl ?_
                                    obtain ⟨hi188, h⟩ := zg_inv h
                                    refine y_sald (pc' := 604) rfl hi188 rfl ?_
                                    obtain ⟨v191, M190, he189, h⟩ := zC1_inv h
                                    refine y_callV (pc' := 607) (y := zmM_cage) (a' := [.int (M185.1 0 (Int32.toNatClampNeg (x3 + (nI 1)))), .int (M185.1 0 (Int32.toNatClampNeg (x3 + (nI 2))))]) (st' := [.int v186]) rfl rfl rfl rfl rfl (zrecv_o (o := 10) zc_866 rfl) rfl he189 rfl rfl ?_
                                    rcases zif_inv h with ⟨hc192, h⟩ | ⟨hc192, h⟩
                                    · refine y_cmp (pc' := 1114) rfl rfl (zc_eqT hc192) rfl ?_
                                      refine y_pure (pc' := 1117) (ls' := [(0, .ref 0), (1, .ref 64), (2, .ref 866), (3, .int (x3 + (nI 6)))]) (st' := []) rfl rfl ?_
                                      refine y_pure (pc' := 18) rfl rfl ?_
                                      refine zEx_sub ?_ h
                                      exact ⟨rfl, rfl, rfl, rfl, trivial⟩
                                    · refine y_cmp (pc' := 610) rfl rfl (zc_eqF hc192) rfl ?_
                                      refine y_pure (pc' := 611) (st' := [.int (nI 0)]) rfl rfl ?_
                                      exact y_retZ rfl rfl (by decide) h
                                  · rcases zif_inv h with ⟨hc19, h⟩ | ⟨hc19, h⟩
                                    · refine y_sw (k := 16) (t := 612) rfl (by rw [hc19]; decide) (by decide) rfl rfl ?_
                                      refine y_pure (pc' := 613) (st' := [.ref 64]) rfl rfl ?_
                                      refine y_pure (pc' := 614) (st' := [.ref 0, .ref 64]) rfl rfl ?_
                                      refine y_pure (pc' := 615) (st' := [.int x3, .ref 0, .ref 64]) rfl rfl ?_
                                      refine y_pure (pc' := 616) (st' := [.int (nI 1), .int x3, .ref 0, .ref 64]) rfl rfl ?_
                                      refine y_pure (pc' := 617) (st' := [.int (x3 + (nI 1)), .ref 0, .ref 64]) rfl rfl ?_
                                      obtain ⟨hi193, h⟩ := zg_inv h
                                      refine y_sald (pc' := 618) rfl hi193 rfl ?_
                                      refine y_pure (pc' := 619) (st' := [.ref 0, .int (M.1 0 (Int32.toNatClampNeg (x3 + (nI 1)))), .ref 64]) rfl rfl ?_
                                      refine y_pure (pc' := 620) (st' := [.int x3, .ref 0, .int (M.1 0 (Int32.toNatClampNeg (x3 + (nI 1)))), .ref 64]) rfl rfl ?_
                                      refine y_pure (pc' := 621) (st' := [.int (nI 2), .int x3, .ref 0, .int (M.1 0 (Int32.toNatClampNeg (x3 + (nI 1)))), .ref 64]) rfl rfl ?_
                                      refine y_pure (pc' := 622) (st' := [.int (x3 + (nI 2)), .ref 0, .int (M.1 0 (Int32.toNatClampNeg (x3 + (nI 1)))), .ref 64]) rfl rfl ?_
                                      obtain ⟨hi194, h⟩ := zg_inv h
                                      refine y_sald (pc' := 623) rfl hi194 rfl ?_
                                      obtain ⟨v197, M196, he195, h⟩ := zC1_inv h
                                      refine y_callV (pc' := 626) (y := zmC_has) (a' := [.int (M.1 0 (Int32.toNatClampNeg (x3 + (nI 1)))), .int (M.1 0 (Int32.toNatClampNeg (x3 + (nI 2))))]) (st' := []) rfl rfl rfl rfl rfl (zrecv_o (o := 9) zc_64 rfl) rfl he195 rfl rfl ?_
                                      refine y_pure (pc' := 627) (st' := [.ref 866, .int v197]) rfl rfl ?_
                                      refine y_pure (pc' := 628) (st' := [.ref 0, .ref 866, .int v197]) rfl rfl ?_
                                      refine y_pure (pc' := 629) (st' := [.int x3, .ref 0, .ref 866, .int v197]) rfl rfl ?_
                                      refine y_pure (pc' := 630) (st' := [.int (nI 1), .int x3, .ref 0, .ref 866, .int v197]) rfl rfl ?_
                                      refine y_pure (pc' := 631) (st' := [.int (x3 + (nI 1)), .ref 0, .ref 866, .int v197]) rfl rfl ?_
                                      obtain ⟨hi198, h⟩ := zg_inv h
                                      refine y_sald (pc' := 632) rfl hi198 rfl ?_
                                      refine y_pure (pc' := 633) (st' := [.ref 0, .int (M196.1 0 (Int32.toNatClampNeg (x3 + (nI 1)))), .ref 866, .int v197]) rfl rfl ?_
                                      refine y_pure (pc' := 634) (st' := [.int x3, .ref 0, .int (M196.1 0 (Int32.toNatClampNeg (x3 + (nI 1)))), .ref 866, .int v197]) rfl rfl ?_
                                      refine y_pure (pc' := 635) (st' := [.int (nI 2), .int x3, .ref 0, .int (M196.1 0 (Int32.toNatClampNeg (x3 + (nI 1)))), .ref 866, .int v197]) rfl rfl ?_
                                      refine y_pure (pc' := 636) (st' := [.int (x3 + (nI 2)), .ref 0, .int (M196.1 0 (Int32.toNatClampNeg (x3 + (nI 1)))), .ref 866, .int v197]) rfl rfl ?_
                                      obtain ⟨hi199, h⟩ := zg_inv h
                                      refine y_sald (pc' := 637) rfl hi199 rfl ?_
                                      obtain ⟨v202, M201, he200, h⟩ := zC1_inv h
                                      refine y_callV (pc' := 640) (y := zmM_has) (a' := [.int (M196.1 0 (Int32.toNatClampNeg (x3 + (nI 1)))), .int (M196.1 0 (Int32.toNatClampNeg (x3 + (nI 2))))]) (st' := [.int v197]) rfl rfl rfl rfl rfl (zrecv_o (o := 10) zc_866 rfl) rfl he200 rfl rfl ?_
                                      rcases zif_inv h with ⟨hc203, h⟩ | ⟨hc203, h⟩
                                      · refine y_cmp (pc' := 1114) rfl rfl (zc_eqT hc203) rfl ?_
                                        refine y_pure (pc' := 1117) (ls' := [(0, .ref 0), (1, .ref 64), (2, .ref 866), (3, .int (x3 + (nI 6)))]) (st' := []) rfl rfl ?_
                                        refine y_pure (pc' := 18) rfl rfl ?_
                                        refine zEx_sub ?_ h
                                        exact ⟨rfl, rfl, rfl, rfl, trivial⟩
                                      · refine y_cmp (pc' := 643) rfl rfl (zc_eqF hc203) rfl ?_
                                        refine y_pure (pc' := 644) (st' := [.int (nI 0)]) rfl rfl ?_
                                        exact y_retZ rfl rfl (by decide) h
                                    · rcases zif_inv h with ⟨hc20, h⟩ | ⟨hc20, h⟩
                                      · refine y_sw (k := 17) (t := 645) rfl (by rw [hc20]; decide) (by decide) rfl rfl ?_
                                        refine y_pure (pc' := 646) (st' := [.ref 64]) rfl rfl ?_
                                        refine y_pure (pc' := 647) (st' := [.ref 0, .ref 64]) rfl rfl ?_
                                        refine y_pure (pc' := 648) (st' := [.int x3, .ref 0, .ref 64]) rfl rfl ?_
                                        refine y_pure (pc' := 649) (st' := [.int (nI 1), .int x3, .ref 0, .ref 64]) rfl rfl ?_
                                        refine y_pure (pc' := 650) (st' := [.int (x3 + (nI 1)), .ref 0, .ref 64]) rfl rfl ?_
                                        obtain ⟨hi204, h⟩ := zg_inv h
                                        refine y_sald (pc' := 651) rfl hi204 rfl ?_
                                        refine y_pure (pc' := 652) (st' := [.ref 0, .int (M.1 0 (Int32.toNatClampNeg (x3 + (nI 1)))), .ref 64]) rfl rfl ?_
                                        refine y_pure (pc' := 653) (st' := [.int x3, .ref 0, .int (M.1 0 (Int32.toNatClampNeg (x3 + (nI 1)))), .ref 64]) rfl rfl ?_
                                        refine y_pure (pc' := 654) (st' := [.int (nI 2), .int x3, .ref 0, .int (M.1 0 (Int32.toNatClampNeg (x3 + (nI 1)))), .ref 64]) rfl rfl ?_
                                        refine y_pure (pc' := 655) (st' := [.int (x3 + (nI 2)), .ref 0, .int (M.1 0 (Int32.toNatClampNeg (x3 + (nI 1)))), .ref 64]) rfl rfl ?_
                                        obtain ⟨hi205, h⟩ := zg_inv h
                                        refine y_sald (pc' := 656) rfl hi205 rfl ?_
                                        obtain ⟨v208, M207, he206, h⟩ := zC1_inv h
                                        refine y_callV (pc' := 659) (y := zmC_could) (a' := [.int (M.1 0 (Int32.toNatClampNeg (x3 + (nI 1)))), .int (M.1 0 (Int32.toNatClampNeg (x3 + (nI 2))))]) (st' := []) rfl rfl rfl rfl rfl (zrecv_o (o := 9) zc_64 rfl) rfl he206 rfl rfl ?_
                                        refine y_pure (pc' := 660) (st' := [.ref 866, .int v208]) rfl rfl ?_
                                        refine y_pure (pc' := 661) (st' := [.ref 0, .ref 866, .int v208]) rfl rfl ?_
                                        refine y_pure (pc' := 662) (st' := [.int x3, .ref 0, .ref 866, .int v208]) rfl rfl ?_
                                        refine y_pure (pc' := 663) (st' := [.int (nI 1), .int x3, .ref 0, .ref 866, .int v208]) rfl rfl ?_
                                        refine y_pure (pc' := 664) (st' := [.int (x3 + (nI 1)), .ref 0, .ref 866, .int v208]) rfl rfl ?_
                                        obtain ⟨hi209, h⟩ := zg_inv h
                                        refine y_sald (pc' := 665) rfl hi209 rfl ?_
                                        refine y_pure (pc' := 666) (st' := [.ref 0, .int (M207.1 0 (Int32.toNatClampNeg (x3 + (nI 1)))), .ref 866, .int v208]) rfl rfl ?_
                                        refine y_pure (pc' := 667) (st' := [.int x3, .ref 0, .int (M207.1 0 (Int32.toNatClampNeg (x3 + (nI 1)))), .ref 866, .int v208]) rfl rfl ?_
                                        refine y_pure (pc' := 668) (st' := [.int (nI 2), .int x3, .ref 0, .int (M207.1 0 (Int32.toNatClampNeg (x3 + (nI 1)))), .ref 866, .int v208]) rfl rfl ?_
                                        refine y_pure (pc' := 669) (st' := [.int (x3 + (nI 2)), .ref 0, .int (M207.1 0 (Int32.toNatClampNeg (x3 + (nI 1)))), .ref 866, .int v208]) rfl rfl ?_
                                        obtain ⟨hi210, h⟩ := zg_inv h
                                        refine y_sald (pc' := 670) rfl hi210 rfl ?_
                                        obtain ⟨v213, M212, he211, h⟩ := zC1_inv h
                                        refine y_callV (pc' := 673) (y := zmM_could) (a' := [.int (M207.1 0 (Int32.toNatClampNeg (x3 + (nI 1)))), .int (M207.1 0 (Int32.toNatClampNeg (x3 + (nI 2))))]) (st' := [.int v208]) rfl rfl rfl rfl rfl (zrecv_o (o := 10) zc_866 rfl) rfl he211 rfl rfl ?_
                                        rcases zif_inv h with ⟨hc214, h⟩ | ⟨hc214, h⟩
                                        · refine y_cmp (pc' := 1114) rfl rfl (zc_eqT hc214) rfl ?_
                                          refine y_pure (pc' := 1117) (ls' := [(0, .ref 0), (1, .ref 64), (2, .ref 866), (3, .int (x3 + (nI 6)))]) (st' := []) rfl rfl ?_
                                          refine y_pure (pc' := 18) rfl rfl ?_
                                          refine zEx_sub ?_ h
                                          exact ⟨rfl, rfl, rfl, rfl, trivial⟩
                                        · refine y_cmp (pc' := 676) rfl rfl (zc_eqF hc214) rfl ?_
                                          refine y_pure (pc' := 677) (st' := [.int (nI 0)]) rfl rfl ?_
                                          exact y_retZ rfl rfl (by decide) h
                                      · rcases zif_inv h with ⟨hc21, h⟩ | ⟨hc21, h⟩
                                        · refine y_sw (k := 18) (t := 678) rfl (by rw [hc21]; decide) (by decide) rfl rfl ?_
                                          refine y_pure (pc' := 679) (st' := [.ref 64]) rfl rfl ?_
                                          refine y_pure (pc' := 680) (st' := [.ref 0, .ref 64]) rfl rfl ?_
                                          refine y_pure (pc' := 681) (st' := [.int x3, .ref 0, .ref 64]) rfl rfl ?_
                                          refine y_pure (pc' := 682) (st' := [.int (nI 1), .int x3, .ref 0, .ref 64]) rfl rfl ?_
                                          refine y_pure (pc' := 683) (st' := [.int (x3 + (nI 1)), .ref 0, .ref 64]) rfl rfl ?_
                                          obtain ⟨hi215, h⟩ := zg_inv h
                                          refine y_sald (pc' := 684) rfl hi215 rfl ?_
                                          obtain ⟨v218, M217, he216, h⟩ := zC1_inv h
                                          refine y_callV (pc' := 687) (y := zmC_must) (a' := [.int (M.1 0 (Int32.toNatClampNeg (x3 + (nI 1))))]) (st' := []) rfl rfl rfl rfl rfl (zrecv_o (o := 9) zc_64 rfl) rfl he216 rfl rfl ?_
                                          refine y_pure (pc' := 688) (st' := [.ref 866, .int v218]) rfl rfl ?_
                                          refine y_pure (pc' := 689) (st' := [.ref 0, .ref 866, .int v218]) rfl rfl ?_
                                          refine y_pure (pc' := 690) (st' := [.int x3, .ref 0, .ref 866, .int v218]) rfl rfl ?_
                                          refine y_pure (pc' := 691) (st' := [.int (nI 1), .int x3, .ref 0, .ref 866, .int v218]) rfl rfl ?_
                                          refine y_pure (pc' := 692) (st' := [.int (x3 + (nI 1)), .ref 0, .ref 866, .int v218]) rfl rfl ?_
                                          obtain ⟨hi219, h⟩ := zg_inv h
                                          refine y_sald (pc' := 693) rfl hi219 rfl ?_
                                          obtain ⟨v222, M221, he220, h⟩ := zC1_inv h
                                          refine y_callV (pc' := 696) (y := zmM_must) (a' := [.int (M217.1 0 (Int32.toNatClampNeg (x3 + (nI 1))))]) (st' := [.int v218]) rfl rfl rfl rfl rfl (zrecv_o (o := 10) zc_866 rfl) rfl he220 rfl rfl ?_
                                          rcases zif_inv h with ⟨hc223, h⟩ | ⟨hc223, h⟩
                                          · refine y_cmp (pc' := 1114) rfl rfl (zc_eqT hc223) rfl ?_
                                            refine y_pure (pc' := 1117) (ls' := [(0, .ref 0), (1, .ref 64), (2, .ref 866), (3, .int (x3 + (nI 6)))]) (st' := []) rfl rfl ?_
                                            refine y_pure (pc' := 18) rfl rfl ?_
                                            refine zEx_sub ?_ h
                                            exact ⟨rfl, rfl, rfl, rfl, trivial⟩
                                          · refine y_cmp (pc' := 699) rfl rfl (zc_eqF hc223) rfl ?_
                                            refine y_pure (pc' := 700) (st' := [.int (nI 0)]) rfl rfl ?_
                                            exact y_retZ rfl rfl (by decide) h
                                        · rcases zif_inv h with ⟨hc22, h⟩ | ⟨hc22, h⟩
                                          · refine y_sw (k := 19) (t := 701) rfl (by rw [hc22]; decide) (by decide) rfl rfl ?_
                                            refine y_pure (pc' := 702) (st' := [.ref 64]) rfl rfl ?_
                                            refine y_pure (pc' := 703) (st' := [.ref 0, .ref 64]) rfl rfl ?_
                                            refine y_pure (pc' := 704) (st' := [.int x3, .ref 0, .ref 64]) rfl rfl ?_
                                            refine y_pure (pc' := 705) (st' := [.int (nI 1), .int x3, .ref 0, .ref 64]) rfl rfl ?_
                                            refine y_pure (pc' := 706) (st' := [.int (x3 + (nI 1)), .ref 0, .ref 64]) rfl rfl ?_
                                            obtain ⟨hi224, h⟩ := zg_inv h
                                            refine y_sald (pc' := 707) rfl hi224 rfl ?_
                                            refine y_pure (pc' := 708) (st' := [.ref 0, .int (M.1 0 (Int32.toNatClampNeg (x3 + (nI 1)))), .ref 64]) rfl rfl ?_
                                            refine y_pure (pc' := 709) (st' := [.int x3, .ref 0, .int (M.1 0 (Int32.toNatClampNeg (x3 + (nI 1)))), .ref 64]) rfl rfl ?_
                                            refine y_pure (pc' := 710) (st' := [.int (nI 2), .int x3, .ref 0, .int (M.1 0 (Int32.toNatClampNeg (x3 + (nI 1)))), .ref 64]) rfl rfl ?_
                                            refine y_pure (pc' := 711) (st' := [.int (x3 + (nI 2)), .ref 0, .int (M.1 0 (Int32.toNatClampNeg (x3 + (nI 1)))), .ref 64]) rfl rfl ?_
                                            obtain ⟨hi225, h⟩ := zg_inv h
                                            refine y_sald (pc' := 712) rfl hi225 rfl ?_
                                            obtain ⟨v228, M227, he226, h⟩ := zC1_inv h
                                            refine y_callV (pc' := 715) (y := zmC_sets) (a' := [.int (M.1 0 (Int32.toNatClampNeg (x3 + (nI 1)))), .int (M.1 0 (Int32.toNatClampNeg (x3 + (nI 2))))]) (st' := []) rfl rfl rfl rfl rfl (zrecv_o (o := 9) zc_64 rfl) rfl he226 rfl rfl ?_
                                            refine y_pure (pc' := 716) (st' := [.ref 866, .int v228]) rfl rfl ?_
                                            refine y_pure (pc' := 717) (st' := [.ref 0, .ref 866, .int v228]) rfl rfl ?_
                                            refine y_pure (pc' := 718) (st' := [.int x3, .ref 0, .ref 866, .int v228]) rfl rfl ?_
                                            refine y_pure (pc' := 719) (st' := [.int (nI 1), .int x3, .ref 0, .ref 866, .int v228]) rfl rfl ?_
                                            refine y_pure (pc' := 720) (st' := [.int (x3 + (nI 1)), .ref 0, .ref 866, .int v228]) rfl rfl ?_
                                            obtain ⟨hi229, h⟩ := zg_inv h
                                            refine y_sald (pc' := 721) rfl hi229 rfl ?_
                                            refine y_pure (pc' := 722) (st' := [.ref 0, .int (M227.1 0 (Int32.toNatClampNeg (x3 + (nI 1)))), .ref 866, .int v228]) rfl rfl ?_
                                            refine y_pure (pc' := 723) (st' := [.int x3, .ref 0, .int (M227.1 0 (Int32.toNatClampNeg (x3 + (nI 1)))), .ref 866, .int v228]) rfl rfl ?_
                                            refine y_pure (pc' := 724) (st' := [.int (nI 2), .int x3, .ref 0, .int (M227.1 0 (Int32.toNatClampNeg (x3 + (nI 1)))), .ref 866, .int v228]) rfl rfl ?_
                                            refine y_pure (pc' := 725) (st' := [.int (x3 + (nI 2)), .ref 0, .int (M227.1 0 (Int32.toNatClampNeg (x3 + (nI 1)))), .ref 866, .int v228]) rfl rfl ?_
                                            obtain ⟨hi230, h⟩ := zg_inv h
                                            refine y_sald (pc' := 726) rfl hi230 rfl ?_
                                            obtain ⟨v233, M232, he231, h⟩ := zC1_inv h
                                            refine y_callV (pc' := 729) (y := zmM_sets) (a' := [.int (M227.1 0 (Int32.toNatClampNeg (x3 + (nI 1)))), .int (M227.1 0 (Int32.toNatClampNeg (x3 + (nI 2))))]) (st' := [.int v228]) rfl rfl rfl rfl rfl (zrecv_o (o := 10) zc_866 rfl) rfl he231 rfl rfl ?_
                                            rcases zif_inv h with ⟨hc234, h⟩ | ⟨hc234, h⟩
                                            · refine y_cmp (pc' := 1114) rfl rfl (zc_eqT hc234) rfl ?_
                                              refine y_pure (pc' := 1117) (ls' := [(0, .ref 0), (1, .ref 64), (2, .ref 866), (3, .int (x3 + (nI 6)))]) (st' := []) rfl rfl ?_
                                              refine y_pure (pc' := 18) rfl rfl ?_
                                              refine zEx_sub ?_ h
                                              exact ⟨rfl, rfl, rfl, rfl, trivial⟩
                                            · refine y_cmp (pc' := 732) rfl rfl (zc_eqF hc234) rfl ?_
                                              refine y_pure (pc' := 733) (st' := [.int (nI 0)]) rfl rfl ?_
                                              exact y_retZ rfl rfl (by decide) h
                                          · rcases zif_inv h with ⟨hc23, h⟩ | ⟨hc23, h⟩
                                            · refine y_sw (k := 20) (t := 734) rfl (by rw [hc23]; decide) (by decide) rfl rfl ?_
                                              refine y_pure (pc' := 735) (st' := [.ref 64]) rfl rfl ?_
                                              refine y_pure (pc' := 736) (st' := [.ref 0, .ref 64]) rfl rfl ?_
                                              refine y_pure (pc' := 737) (st' := [.int x3, .ref 0, .ref 64]) rfl rfl ?_
                                              refine y_pure (pc' := 738) (st' := [.int (nI 1), .int x3, .ref 0, .ref 64]) rfl rfl ?_
                                              refine y_pure (pc' := 739) (st' := [.int (x3 + (nI 1)), .ref 0, .ref 64]) rfl rfl ?_
                                              obtain ⟨hi235, h⟩ := zg_inv h
                                              refine y_sald (pc' := 740) rfl hi235 rfl ?_
                                              obtain ⟨v238, M237, he236, h⟩ := zC1_inv h
                                              refine y_callV (pc' := 743) (y := zmC_next) (a' := [.int (M.1 0 (Int32.toNatClampNeg (x3 + (nI 1))))]) (st' := []) rfl rfl rfl rfl rfl (zrecv_o (o := 9) zc_64 rfl) rfl he236 rfl rfl ?_
                                              refine y_pure (pc' := 744) (st' := [.ref 866, .int v238]) rfl rfl ?_
                                              refine y_pure (pc' := 745) (st' := [.ref 0, .ref 866, .int v238]) rfl rfl ?_
                                              refine y_pure (pc' := 746) (st' := [.int x3, .ref 0, .ref 866, .int v238]) rfl rfl ?_
                                              refine y_pure (pc' := 747) (st' := [.int (nI 1), .int x3, .ref 0, .ref 866, .int v238]) rfl rfl ?_
                                              refine y_pure (pc' := 748) (st' := [.int (x3 + (nI 1)), .ref 0, .ref 866, .int v238]) rfl rfl ?_
                                              obtain ⟨hi239, h⟩ := zg_inv h
                                              refine y_sald (pc' := 749) rfl hi239 rfl ?_
                                              obtain ⟨v242, M241, he240, h⟩ := zC1_inv h
                                              refine y_callV (pc' := 752) (y := zmM_next) (a' := [.int (M237.1 0 (Int32.toNatClampNeg (x3 + (nI 1))))]) (st' := [.int v238]) rfl rfl rfl rfl rfl (zrecv_o (o := 10) zc_866 rfl) rfl he240 rfl rfl ?_
                                              rcases zif_inv h with ⟨hc243, h⟩ | ⟨hc243, h⟩
                                              · refine y_cmp (pc' := 1114) rfl rfl (zc_eqT hc243) rfl ?_
                                                refine y_pure (pc' := 1117) (ls' := [(0, .ref 0), (1, .ref 64), (2, .ref 866), (3, .int (x3 + (nI 6)))]) (st' := []) rfl rfl ?_
                                                refine y_pure (pc' := 18) rfl rfl ?_
                                                refine zEx_sub ?_ h
                                                exact ⟨rfl, rfl, rfl, rfl, trivial⟩
                                              · refine y_cmp (pc' := 755) rfl rfl (zc_eqF hc243) rfl ?_
                                                refine y_pure (pc' := 756) (st' := [.int (nI 0)]) rfl rfl ?_
                                                exact y_retZ rfl rfl (by decide) h
                                            · rcases zif_inv h with ⟨hc24, h⟩ | ⟨hc24, h⟩
                                              · refine y_sw (k := 21) (t := 757) rfl (by rw [hc24]; decide) (by decide) rfl rfl ?_
                                                refine y_pure (pc' := 758) (st' := [.ref 64]) rfl rfl ?_
                                                refine y_pure (pc' := 759) (st' := [.ref 0, .ref 64]) rfl rfl ?_
                                                refine y_pure (pc' := 760) (st' := [.int x3, .ref 0, .ref 64]) rfl rfl ?_
                                                refine y_pure (pc' := 761) (st' := [.int (nI 1), .int x3, .ref 0, .ref 64]) rfl rfl ?_
                                                refine y_pure (pc' := 762) (st' := [.int (x3 + (nI 1)), .ref 0, .ref 64]) rfl rfl ?_
                                                obtain ⟨hi244, h⟩ := zg_inv h
                                                refine y_sald (pc' := 763) rfl hi244 rfl ?_
                                                obtain ⟨v247, M246, he245, h⟩ := zC1_inv h
                                                refine y_callV (pc' := 766) (y := zmC_weight) (a' := [.int (M.1 0 (Int32.toNatClampNeg (x3 + (nI 1))))]) (st' := []) rfl rfl rfl rfl rfl (zrecv_o (o := 9) zc_64 rfl) rfl he245 rfl rfl ?_
                                                refine y_pure (pc' := 767) (st' := [.ref 866, .int v247]) rfl rfl ?_
                                                refine y_pure (pc' := 768) (st' := [.ref 0, .ref 866, .int v247]) rfl rfl ?_
                                                refine y_pure (pc' := 769) (st' := [.int x3, .ref 0, .ref 866, .int v247]) rfl rfl ?_
                                                refine y_pure (pc' := 770) (st' := [.int (nI 1), .int x3, .ref 0, .ref 866, .int v247]) rfl rfl ?_
                                                refine y_pure (pc' := 771) (st' := [.int (x3 + (nI 1)), .ref 0, .ref 866, .int v247]) rfl rfl ?_
                                                obtain ⟨hi248, h⟩ := zg_inv h
                                                refine y_sald (pc' := 772) rfl hi248 rfl ?_
                                                obtain ⟨v251, M250, he249, h⟩ := zC1_inv h
                                                refine y_callV (pc' := 775) (y := zmM_weight) (a' := [.int (M246.1 0 (Int32.toNatClampNeg (x3 + (nI 1))))]) (st' := [.int v247]) rfl rfl rfl rfl rfl (zrecv_o (o := 10) zc_866 rfl) rfl he249 rfl rfl ?_
                                                rcases zif_inv h with ⟨hc252, h⟩ | ⟨hc252, h⟩
                                                · refine y_cmp (pc' := 1114) rfl rfl (zc_eqT hc252) rfl ?_
                                                  refine y_pure (pc' := 1117) (ls' := [(0, .ref 0), (1, .ref 64), (2, .ref 866), (3, .int (x3 + (nI 6)))]) (st' := []) rfl rfl ?_
                                                  refine y_pure (pc' := 18) rfl rfl ?_
                                                  refine zEx_sub ?_ h
                                                  exact ⟨rfl, rfl, rfl, rfl, trivial⟩
                                                · refine y_cmp (pc' := 778) rfl rfl (zc_eqF hc252) rfl ?_
                                                  refine y_pure (pc' := 779) (st' := [.int (nI 0)]) rfl rfl ?_
                                                  exact y_retZ rfl rfl (by decide) h
                                              · rcases zif_inv h with ⟨hc25, h⟩ | ⟨hc25, h⟩
                                                · refine y_sw (k := 22) (t := 780) rfl (by rw [hc25]; decide) (by decide) rfl rfl ?_
                                                  refine y_pure (pc' := 781) (st' := [.ref 64]) rfl rfl ?_
                                                  refine y_pure (pc' := 782) (st' := [.ref 0, .ref 64]) rfl rfl ?_
                                                  refine y_pure (pc' := 783) (st' := [.int x3, .ref 0, .ref 64]) rfl rfl ?_
                                                  refine y_pure (pc' := 784) (st' := [.int (nI 1), .int x3, .ref 0, .ref 64]) rfl rfl ?_
                                                  refine y_pure (pc' := 785) (st' := [.int (x3 + (nI 1)), .ref 0, .ref 64]) rfl rfl ?_
                                                  obtain ⟨hi253, h⟩ := zg_inv h
                                                  refine y_sald (pc' := 786) rfl hi253 rfl ?_
                                                  obtain ⟨v256, M255, he254, h⟩ := zC1_inv h
                                                  refine y_callV (pc' := 789) (y := zmC_solve) (a' := [.int (M.1 0 (Int32.toNatClampNeg (x3 + (nI 1))))]) (st' := []) rfl rfl rfl rfl rfl (zrecv_o (o := 9) zc_64 rfl) rfl he254 rfl rfl ?_
                                                  refine y_pure (pc' := 790) (st' := [.ref 866, .int v256]) rfl rfl ?_
                                                  refine y_pure (pc' := 791) (st' := [.ref 0, .ref 866, .int v256]) rfl rfl ?_
                                                  refine y_pure (pc' := 792) (st' := [.int x3, .ref 0, .ref 866, .int v256]) rfl rfl ?_
                                                  refine y_pure (pc' := 793) (st' := [.int (nI 1), .int x3, .ref 0, .ref 866, .int v256]) rfl rfl ?_
                                                  refine y_pure (pc' := 794) (st' := [.int (x3 + (nI 1)), .ref 0, .ref 866, .int v256]) rfl rfl ?_
                                                  obtain ⟨hi257, h⟩ := zg_inv h
                                                  refine y_sald (pc' := 795) rfl hi257 rfl ?_
                                                  obtain ⟨v260, M259, he258, h⟩ := zC1_inv h
                                                  refine y_callV (pc' := 798) (y := zmM_solve) (a' := [.int (M255.1 0 (Int32.toNatClampNeg (x3 + (nI 1))))]) (st' := [.int v256]) rfl rfl rfl rfl rfl (zrecv_o (o := 10) zc_866 rfl) rfl he258 rfl rfl ?_
                                                  rcases zif_inv h with ⟨hc261, h⟩ | ⟨hc261, h⟩
                                                  · refine y_cmp (pc' := 1114) rfl rfl (zc_eqT hc261) rfl ?_
                                                    refine y_pure (pc' := 1117) (ls' := [(0, .ref 0), (1, .ref 64), (2, .ref 866), (3, .int (x3 + (nI 6)))]) (st' := []) rfl rfl ?_
                                                    refine y_pure (pc' := 18) rfl rfl ?_
                                                    refine zEx_sub ?_ h
                                                    exact ⟨rfl, rfl, rfl, rfl, trivial⟩
                                                  · refine y_cmp (pc' := 801) rfl rfl (zc_eqF hc261) rfl ?_
                                                    refine y_pure (pc' := 802) (st' := [.int (nI 0)]) rfl rfl ?_
                                                    exact y_retZ rfl rfl (by decide) h
                                                · rcases zif_inv h with ⟨hc26, h⟩ | ⟨hc26, h⟩
                                                  · refine y_sw (k := 23) (t := 803) rfl (by rw [hc26]; decide) (by decide) rfl rfl ?_
                                                    refine y_pure (pc' := 804) (st' := [.ref 64]) rfl rfl ?_
                                                    refine y_pure (pc' := 805) (st' := [.ref 0, .ref 64]) rfl rfl ?_
                                                    refine y_pure (pc' := 806) (st' := [.int x3, .ref 0, .ref 64]) rfl rfl ?_
                                                    refine y_pure (pc' := 807) (st' := [.int (nI 1), .int x3, .ref 0, .ref 64]) rfl rfl ?_
                                                    refine y_pure (pc' := 808) (st' := [.int (x3 + (nI 1)), .ref 0, .ref 64]) rfl rfl ?_
                                                    obtain ⟨hi262, h⟩ := zg_inv h
                                                    refine y_sald (pc' := 809) rfl hi262 rfl ?_
                                                    refine y_pure (pc' := 810) (st' := [.ref 0, .int (M.1 0 (Int32.toNatClampNeg (x3 + (nI 1)))), .ref 64]) rfl rfl ?_
                                                    refine y_pure (pc' := 811) (st' := [.int x3, .ref 0, .int (M.1 0 (Int32.toNatClampNeg (x3 + (nI 1)))), .ref 64]) rfl rfl ?_
                                                    refine y_pure (pc' := 812) (st' := [.int (nI 2), .int x3, .ref 0, .int (M.1 0 (Int32.toNatClampNeg (x3 + (nI 1)))), .ref 64]) rfl rfl ?_
                                                    refine y_pure (pc' := 813) (st' := [.int (x3 + (nI 2)), .ref 0, .int (M.1 0 (Int32.toNatClampNeg (x3 + (nI 1)))), .ref 64]) rfl rfl ?_
                                                    obtain ⟨hi263, h⟩ := zg_inv h
                                                    refine y_sald (pc' := 814) rfl hi263 rfl ?_
                                                    obtain ⟨v266, M265, he264, h⟩ := zC1_inv h
                                                    refine y_callV (pc' := 817) (y := zmC_solution) (a' := [.int (M.1 0 (Int32.toNatClampNeg (x3 + (nI 1)))), .int (M.1 0 (Int32.toNatClampNeg (x3 + (nI 2))))]) (st' := []) rfl rfl rfl rfl rfl (zrecv_o (o := 9) zc_64 rfl) rfl he264 rfl rfl ?_
                                                    refine y_pure (pc' := 818) (st' := [.ref 866, .int v266]) rfl rfl ?_
                                                    refine y_pure (pc' := 819) (st' := [.ref 0, .ref 866, .int v266]) rfl rfl ?_
                                                    refine y_pure (pc' := 820) (st' := [.int x3, .ref 0, .ref 866, .int v266]) rfl rfl ?_
                                                    refine y_pure (pc' := 821) (st' := [.int (nI 1), .int x3, .ref 0, .ref 866, .int v266]) rfl rfl ?_
                                                    refine y_pure (pc' := 822) (st' := [.int (x3 + (nI 1)), .ref 0, .ref 866, .int v266]) rfl rfl ?_
                                                    obtain ⟨hi267, h⟩ := zg_inv h
                                                    refine y_sald (pc' := 823) rfl hi267 rfl ?_
                                                    refine y_pure (pc' := 824) (st' := [.ref 0, .int (M265.1 0 (Int32.toNatClampNeg (x3 + (nI 1)))), .ref 866, .int v266]) rfl rfl ?_
                                                    refine y_pure (pc' := 825) (st' := [.int x3, .ref 0, .int (M265.1 0 (Int32.toNatClampNeg (x3 + (nI 1)))), .ref 866, .int v266]) rfl rfl ?_
                                                    refine y_pure (pc' := 826) (st' := [.int (nI 2), .int x3, .ref 0, .int (M265.1 0 (Int32.toNatClampNeg (x3 + (nI 1)))), .ref 866, .int v266]) rfl rfl ?_
                                                    refine y_pure (pc' := 827) (st' := [.int (x3 + (nI 2)), .ref 0, .int (M265.1 0 (Int32.toNatClampNeg (x3 + (nI 1)))), .ref 866, .int v266]) rfl rfl ?_
                                                    obtain ⟨hi268, h⟩ := zg_inv h
                                                    refine y_sald (pc' := 828) rfl hi268 rfl ?_
                                                    obtain ⟨v271, M270, he269, h⟩ := zC1_inv h
                                                    refine y_callV (pc' := 831) (y := zmM_solution) (a' := [.int (M265.1 0 (Int32.toNatClampNeg (x3 + (nI 1)))), .int (M265.1 0 (Int32.toNatClampNeg (x3 + (nI 2))))]) (st' := [.int v266]) rfl rfl rfl rfl rfl (zrecv_o (o := 10) zc_866 rfl) rfl he269 rfl rfl ?_
                                                    rcases zif_inv h with ⟨hc272, h⟩ | ⟨hc272, h⟩
                                                    · refine y_cmp (pc' := 1114) rfl rfl (zc_eqT hc272) rfl ?_
                                                      refine y_pure (pc' := 1117) (ls' := [(0, .ref 0), (1, .ref 64), (2, .ref 866), (3, .int (x3 + (nI 6)))]) (st' := []) rfl rfl ?_
                                                      refine y_pure (pc' := 18) rfl rfl ?_
                                                      refine zEx_sub ?_ h
                                                      exact ⟨rfl, rfl, rfl, rfl, trivial⟩
                                                    · refine y_cmp (pc' := 834) rfl rfl (zc_eqF hc272) rfl ?_
                                                      refine y_pure (pc' := 835) (st' := [.int (nI 0)]) rfl rfl ?_
                                                      exact y_retZ rfl rfl (by decide) h
                                                  · rcases zif_inv h with ⟨hc27, h⟩ | ⟨hc27, h⟩
                                                    · refine y_sw (k := 24) (t := 836) rfl (by rw [hc27]; decide) (by decide) rfl rfl ?_
                                                      refine y_pure (pc' := 837) (st' := [.ref 64]) rfl rfl ?_
                                                      refine y_pure (pc' := 838) (st' := [.ref 0, .ref 64]) rfl rfl ?_
                                                      refine y_pure (pc' := 839) (st' := [.int x3, .ref 0, .ref 64]) rfl rfl ?_
                                                      refine y_pure (pc' := 840) (st' := [.int (nI 1), .int x3, .ref 0, .ref 64]) rfl rfl ?_
                                                      refine y_pure (pc' := 841) (st' := [.int (x3 + (nI 1)), .ref 0, .ref 64]) rfl rfl ?_
                                                      obtain ⟨hi273, h⟩ := zg_inv h
                                                      refine y_sald (pc' := 842) rfl hi273 rfl ?_
                                                      obtain ⟨v276, M275, he274, h⟩ := zC1_inv h
                                                      refine y_callV (pc' := 845) (y := zmC_agree) (a' := [.int (M.1 0 (Int32.toNatClampNeg (x3 + (nI 1))))]) (st' := []) rfl rfl rfl rfl rfl (zrecv_o (o := 9) zc_64 rfl) rfl he274 rfl rfl ?_
                                                      refine y_pure (pc' := 846) (st' := [.ref 866, .int v276]) rfl rfl ?_
                                                      refine y_pure (pc' := 847) (st' := [.ref 0, .ref 866, .int v276]) rfl rfl ?_
                                                      refine y_pure (pc' := 848) (st' := [.int x3, .ref 0, .ref 866, .int v276]) rfl rfl ?_
                                                      refine y_pure (pc' := 849) (st' := [.int (nI 1), .int x3, .ref 0, .ref 866, .int v276]) rfl rfl ?_
                                                      refine y_pure (pc' := 850) (st' := [.int (x3 + (nI 1)), .ref 0, .ref 866, .int v276]) rfl rfl ?_
                                                      obtain ⟨hi277, h⟩ := zg_inv h
                                                      refine y_sald (pc' := 851) rfl hi277 rfl ?_
                                                      obtain ⟨v280, M279, he278, h⟩ := zC1_inv h
                                                      refine y_callV (pc' := 854) (y := zmM_agree) (a' := [.int (M275.1 0 (Int32.toNatClampNeg (x3 + (nI 1))))]) (st' := [.int v276]) rfl rfl rfl rfl rfl (zrecv_o (o := 10) zc_866 rfl) rfl he278 rfl rfl ?_
                                                      rcases zif_inv h with ⟨hc281, h⟩ | ⟨hc281, h⟩
                                                      · refine y_cmp (pc' := 1114) rfl rfl (zc_eqT hc281) rfl ?_
                                                        refine y_pure (pc' := 1117) (ls' := [(0, .ref 0), (1, .ref 64), (2, .ref 866), (3, .int (x3 + (nI 6)))]) (st' := []) rfl rfl ?_
                                                        refine y_pure (pc' := 18) rfl rfl ?_
                                                        refine zEx_sub ?_ h
                                                        exact ⟨rfl, rfl, rfl, rfl, trivial⟩
                                                      · refine y_cmp (pc' := 857) rfl rfl (zc_eqF hc281) rfl ?_
                                                        refine y_pure (pc' := 858) (st' := [.int (nI 0)]) rfl rfl ?_
                                                        exact y_retZ rfl rfl (by decide) h
                                                    · rcases zif_inv h with ⟨hc28, h⟩ | ⟨hc28, h⟩
                                                      · refine y_sw (k := 25) (t := 859) rfl (by rw [hc28]; decide) (by decide) rfl rfl ?_
                                                        refine y_pure (pc' := 860) (st' := [.ref 64]) rfl rfl ?_
                                                        refine y_pure (pc' := 861) (st' := [.ref 0, .ref 64]) rfl rfl ?_
                                                        refine y_pure (pc' := 862) (st' := [.int x3, .ref 0, .ref 64]) rfl rfl ?_
                                                        refine y_pure (pc' := 863) (st' := [.int (nI 1), .int x3, .ref 0, .ref 64]) rfl rfl ?_
                                                        refine y_pure (pc' := 864) (st' := [.int (x3 + (nI 1)), .ref 0, .ref 64]) rfl rfl ?_
                                                        obtain ⟨hi282, h⟩ := zg_inv h
                                                        refine y_sald (pc' := 865) rfl hi282 rfl ?_
                                                        obtain ⟨v285, M284, he283, h⟩ := zC1_inv h
                                                        refine y_callV (pc' := 868) (y := zmC_hint) (a' := [.int (M.1 0 (Int32.toNatClampNeg (x3 + (nI 1))))]) (st' := []) rfl rfl rfl rfl rfl (zrecv_o (o := 9) zc_64 rfl) rfl he283 rfl rfl ?_
                                                        refine y_pure (pc' := 869) (st' := [.ref 866, .int v285]) rfl rfl ?_
                                                        refine y_pure (pc' := 870) (st' := [.ref 0, .ref 866, .int v285]) rfl rfl ?_
                                                        refine y_pure (pc' := 871) (st' := [.int x3, .ref 0, .ref 866, .int v285]) rfl rfl ?_
                                                        refine y_pure (pc' := 872) (st' := [.int (nI 1), .int x3, .ref 0, .ref 866, .int v285]) rfl rfl ?_
                                                        refine y_pure (pc' := 873) (st' := [.int (x3 + (nI 1)), .ref 0, .ref 866, .int v285]) rfl rfl ?_
                                                        obtain ⟨hi286, h⟩ := zg_inv h
                                                        refine y_sald (pc' := 874) rfl hi286 rfl ?_
                                                        obtain ⟨v289, M288, he287, h⟩ := zC1_inv h
                                                        refine y_callV (pc' := 877) (y := zmM_hint) (a' := [.int (M284.1 0 (Int32.toNatClampNeg (x3 + (nI 1))))]) (st' := [.int v285]) rfl rfl rfl rfl rfl (zrecv_o (o := 10) zc_866 rfl) rfl he287 rfl rfl ?_
                                                        rcases zif_inv h with ⟨hc290, h⟩ | ⟨hc290, h⟩
                                                        · refine y_cmp (pc' := 1114) rfl rfl (zc_eqT hc290) rfl ?_
                                                          refine y_pure (pc' := 1117) (ls' := [(0, .ref 0), (1, .ref 64), (2, .ref 866), (3, .int (x3 + (nI 6)))]) (st' := []) rfl rfl ?_
                                                          refine y_pure (pc' := 18) rfl rfl ?_
                                                          refine zEx_sub ?_ h
                                                          exact ⟨rfl, rfl, rfl, rfl, trivial⟩
                                                        · refine y_cmp (pc' := 880) rfl rfl (zc_eqF hc290) rfl ?_
                                                          refine y_pure (pc' := 881) (st' := [.int (nI 0)]) rfl rfl ?_
                                                          exact y_retZ rfl rfl (by decide) h
                                                      · rcases zif_inv h with ⟨hc29, h⟩ | ⟨hc29, h⟩
                                                        · refine y_sw (k := 26) (t := 882) rfl (by rw [hc29]; decide) (by decide) rfl rfl ?_
                                                          refine y_pure (pc' := 883) (st' := [.ref 64]) rfl rfl ?_
                                                          refine y_pure (pc' := 884) (st' := [.ref 0, .ref 64]) rfl rfl ?_
                                                          refine y_pure (pc' := 885) (st' := [.int x3, .ref 0, .ref 64]) rfl rfl ?_
                                                          refine y_pure (pc' := 886) (st' := [.int (nI 1), .int x3, .ref 0, .ref 64]) rfl rfl ?_
                                                          refine y_pure (pc' := 887) (st' := [.int (x3 + (nI 1)), .ref 0, .ref 64]) rfl rfl ?_
                                                          obtain ⟨hi291, h⟩ := zg_inv h
                                                          refine y_sald (pc' := 888) rfl hi291 rfl ?_
                                                          obtain ⟨v294, M293, he292, h⟩ := zC1_inv h
                                                          refine y_callV (pc' := 891) (y := zmC_wrong) (a' := [.int (M.1 0 (Int32.toNatClampNeg (x3 + (nI 1))))]) (st' := []) rfl rfl rfl rfl rfl (zrecv_o (o := 9) zc_64 rfl) rfl he292 rfl rfl ?_
                                                          refine y_pure (pc' := 892) (st' := [.ref 866, .int v294]) rfl rfl ?_
                                                          refine y_pure (pc' := 893) (st' := [.ref 0, .ref 866, .int v294]) rfl rfl ?_
                                                          refine y_pure (pc' := 894) (st' := [.int x3, .ref 0, .ref 866, .int v294]) rfl rfl ?_
                                                          refine y_pure (pc' := 895) (st' := [.int (nI 1), .int x3, .ref 0, .ref 866, .int v294]) rfl rfl ?_
                                                          refine y_pure (pc' := 896) (st' := [.int (x3 + (nI 1)), .ref 0, .ref 866, .int v294]) rfl rfl ?_
                                                          obtain ⟨hi295, h⟩ := zg_inv h
                                                          refine y_sald (pc' := 897) rfl hi295 rfl ?_
                                                          obtain ⟨v298, M297, he296, h⟩ := zC1_inv h
                                                          refine y_callV (pc' := 900) (y := zmM_wrong) (a' := [.int (M293.1 0 (Int32.toNatClampNeg (x3 + (nI 1))))]) (st' := [.int v294]) rfl rfl rfl rfl rfl (zrecv_o (o := 10) zc_866 rfl) rfl he296 rfl rfl ?_
                                                          rcases zif_inv h with ⟨hc299, h⟩ | ⟨hc299, h⟩
                                                          · refine y_cmp (pc' := 1114) rfl rfl (zc_eqT hc299) rfl ?_
                                                            refine y_pure (pc' := 1117) (ls' := [(0, .ref 0), (1, .ref 64), (2, .ref 866), (3, .int (x3 + (nI 6)))]) (st' := []) rfl rfl ?_
                                                            refine y_pure (pc' := 18) rfl rfl ?_
                                                            refine zEx_sub ?_ h
                                                            exact ⟨rfl, rfl, rfl, rfl, trivial⟩
                                                          · refine y_cmp (pc' := 903) rfl rfl (zc_eqF hc299) rfl ?_
                                                            refine y_pure (pc' := 904) (st' := [.int (nI 0)]) rfl rfl ?_
                                                            exact y_retZ rfl rfl (by decide) h
                                                        · rcases zif_inv h with ⟨hc30, h⟩ | ⟨hc30, h⟩
                                                          · refine y_sw (k := 27) (t := 905) rfl (by rw [hc30]; decide) (by decide) rfl rfl ?_
                                                            refine y_pure (pc' := 906) (st' := [.ref 64]) rfl rfl ?_
                                                            refine y_pure (pc' := 907) (st' := [.ref 0, .ref 64]) rfl rfl ?_
                                                            refine y_pure (pc' := 908) (st' := [.int x3, .ref 0, .ref 64]) rfl rfl ?_
                                                            refine y_pure (pc' := 909) (st' := [.int (nI 1), .int x3, .ref 0, .ref 64]) rfl rfl ?_
                                                            refine y_pure (pc' := 910) (st' := [.int (x3 + (nI 1)), .ref 0, .ref 64]) rfl rfl ?_
                                                            obtain ⟨hi300, h⟩ := zg_inv h
                                                            refine y_sald (pc' := 911) rfl hi300 rfl ?_
                                                            refine y_pure (pc' := 912) (st' := [.ref 0, .int (M.1 0 (Int32.toNatClampNeg (x3 + (nI 1)))), .ref 64]) rfl rfl ?_
                                                            refine y_pure (pc' := 913) (st' := [.int x3, .ref 0, .int (M.1 0 (Int32.toNatClampNeg (x3 + (nI 1)))), .ref 64]) rfl rfl ?_
                                                            refine y_pure (pc' := 914) (st' := [.int (nI 2), .int x3, .ref 0, .int (M.1 0 (Int32.toNatClampNeg (x3 + (nI 1)))), .ref 64]) rfl rfl ?_
                                                            refine y_pure (pc' := 915) (st' := [.int (x3 + (nI 2)), .ref 0, .int (M.1 0 (Int32.toNatClampNeg (x3 + (nI 1)))), .ref 64]) rfl rfl ?_
                                                            obtain ⟨hi301, h⟩ := zg_inv h
                                                            refine y_sald (pc' := 916) rfl hi301 rfl ?_
                                                            obtain ⟨v304, M303, he302, h⟩ := zC2_inv h
                                                            refine y_callV (pc' := 919) (y := zmC_shared) (a' := [.int (M.1 0 (Int32.toNatClampNeg (x3 + (nI 1)))), .int (M.1 0 (Int32.toNatClampNeg (x3 + (nI 2))))]) (st' := []) rfl rfl rfl rfl rfl (zrecv_o (o := 9) zc_64 rfl) rfl he302 rfl rfl ?_
                                                            refine y_pure (pc' := 920) (st' := [.ref 866, .long v304]) rfl rfl ?_
                                                            refine y_pure (pc' := 921) (st' := [.ref 0, .ref 866, .long v304]) rfl rfl ?_
                                                            refine y_pure (pc' := 922) (st' := [.int x3, .ref 0, .ref 866, .long v304]) rfl rfl ?_
                                                            refine y_pure (pc' := 923) (st' := [.int (nI 1), .int x3, .ref 0, .ref 866, .long v304]) rfl rfl ?_
                                                            refine y_pure (pc' := 924) (st' := [.int (x3 + (nI 1)), .ref 0, .ref 866, .long v304]) rfl rfl ?_
                                                            obtain ⟨hi305, h⟩ := zg_inv h
                                                            refine y_sald (pc' := 925) rfl hi305 rfl ?_
                                                            refine y_pure (pc' := 926) (st' := [.ref 0, .int (M303.1 0 (Int32.toNatClampNeg (x3 + (nI 1)))), .ref 866, .long v304]) rfl rfl ?_
                                                            refine y_pure (pc' := 927) (st' := [.int x3, .ref 0, .int (M303.1 0 (Int32.toNatClampNeg (x3 + (nI 1)))), .ref 866, .long v304]) rfl rfl ?_
                                                            refine y_pure (pc' := 928) (st' := [.int (nI 2), .int x3, .ref 0, .int (M303.1 0 (Int32.toNatClampNeg (x3 + (nI 1)))), .ref 866, .long v304]) rfl rfl ?_
                                                            refine y_pure (pc' := 929) (st' := [.int (x3 + (nI 2)), .ref 0, .int (M303.1 0 (Int32.toNatClampNeg (x3 + (nI 1)))), .ref 866, .long v304]) rfl rfl ?_
                                                            obtain ⟨hi306, h⟩ := zg_inv h
                                                            refine y_sald (pc' := 930) rfl hi306 rfl ?_
                                                            obtain ⟨v309, M308, he307, h⟩ := zC2_inv h
                                                            refine y_callV (pc' := 933) (y := zmM_shared) (a' := [.int (M303.1 0 (Int32.toNatClampNeg (x3 + (nI 1)))), .int (M303.1 0 (Int32.toNatClampNeg (x3 + (nI 2))))]) (st' := [.long v304]) rfl rfl rfl rfl rfl (zrecv_o (o := 10) zc_866 rfl) rfl he307 rfl rfl ?_
                                                            refine y_pure (pc' := 934) (st' := [.int (lg_cmp v304 v309)]) rfl rfl ?_
                                                            rcases zif_inv h with ⟨hc310, h⟩ | ⟨hc310, h⟩
                                                            · refine y_cnd (pc' := 1114) rfl rfl (zc_eqT hc310) rfl ?_
                                                              refine y_pure (pc' := 1117) (ls' := [(0, .ref 0), (1, .ref 64), (2, .ref 866), (3, .int (x3 + (nI 6)))]) (st' := []) rfl rfl ?_
                                                              refine y_pure (pc' := 18) rfl rfl ?_
                                                              refine zEx_sub ?_ h
                                                              exact ⟨rfl, rfl, rfl, rfl, trivial⟩
                                                            · refine y_cnd (pc' := 937) rfl rfl (zc_eqF hc310) rfl ?_
                                                              refine y_pure (pc' := 938) (st' := [.int (nI 0)]) rfl rfl ?_
                                                              exact y_retZ rfl rfl (by decide) h
                                                          · rcases zif_inv h with ⟨hc31, h⟩ | ⟨hc31, h⟩
                                                            · refine y_sw (k := 28) (t := 939) rfl (by rw [hc31]; decide) (by decide) rfl rfl ?_
                                                              refine y_pure (pc' := 940) (st' := [.ref 64]) rfl rfl ?_
                                                              refine y_pure (pc' := 941) (st' := [.ref 0, .ref 64]) rfl rfl ?_
                                                              refine y_pure (pc' := 942) (st' := [.int x3, .ref 0, .ref 64]) rfl rfl ?_
                                                              refine y_pure (pc' := 943) (st' := [.int (nI 1), .int x3, .ref 0, .ref 64]) rfl rfl ?_
                                                              refine y_pure (pc' := 944) (st' := [.int (x3 + (nI 1)), .ref 0, .ref 64]) rfl rfl ?_
                                                              obtain ⟨hi311, h⟩ := zg_inv h
                                                              refine y_sald (pc' := 945) rfl hi311 rfl ?_
                                                              refine y_pure (pc' := 946) (st' := [.ref 0, .int (M.1 0 (Int32.toNatClampNeg (x3 + (nI 1)))), .ref 64]) rfl rfl ?_
                                                              refine y_pure (pc' := 947) (st' := [.int x3, .ref 0, .int (M.1 0 (Int32.toNatClampNeg (x3 + (nI 1)))), .ref 64]) rfl rfl ?_
                                                              refine y_pure (pc' := 948) (st' := [.int (nI 2), .int x3, .ref 0, .int (M.1 0 (Int32.toNatClampNeg (x3 + (nI 1)))), .ref 64]) rfl rfl ?_
                                                              refine y_pure (pc' := 949) (st' := [.int (x3 + (nI 2)), .ref 0, .int (M.1 0 (Int32.toNatClampNeg (x3 + (nI 1)))), .ref 64]) rfl rfl ?_
                                                              obtain ⟨hi312, h⟩ := zg_inv h
                                                              refine y_sald (pc' := 950) rfl hi312 rfl ?_
                                                              refine y_pure (pc' := 951) (st' := [.ref 0, .int (M.1 0 (Int32.toNatClampNeg (x3 + (nI 2)))), .int (M.1 0 (Int32.toNatClampNeg (x3 + (nI 1)))), .ref 64]) rfl rfl ?_
                                                              refine y_pure (pc' := 952) (st' := [.int x3, .ref 0, .int (M.1 0 (Int32.toNatClampNeg (x3 + (nI 2)))), .int (M.1 0 (Int32.toNatClampNeg (x3 + (nI 1)))), .ref 64]) rfl rfl ?_
                                                              refine y_pure (pc' := 953) (st' := [.int (nI 3), .int x3, .ref 0, .int (M.1 0 (Int32.toNatClampNeg (x3 + (nI 2)))), .int (M.1 0 (Int32.toNatClampNeg (x3 + (nI 1)))), .ref 64]) rfl rfl ?_
                                                              refine y_pure (pc' := 954) (st' := [.int (x3 + (nI 3)), .ref 0, .int (M.1 0 (Int32.toNatClampNeg (x3 + (nI 2)))), .int (M.1 0 (Int32.toNatClampNeg (x3 + (nI 1)))), .ref 64]) rfl rfl ?_
                                                              obtain ⟨hi313, h⟩ := zg_inv h
                                                              refine y_sald (pc' := 955) rfl hi313 rfl ?_
                                                              obtain ⟨v316, M315, he314, h⟩ := zC1_inv h
                                                              refine y_callV (pc' := 958) (y := zmC_combos) (a' := [.int (M.1 0 (Int32.toNatClampNeg (x3 + (nI 1)))), .int (M.1 0 (Int32.toNatClampNeg (x3 + (nI 2)))), .int (M.1 0 (Int32.toNatClampNeg (x3 + (nI 3))))]) (st' := []) rfl rfl rfl rfl rfl (zrecv_o (o := 9) zc_64 rfl) rfl he314 rfl rfl ?_
                                                              refine y_pure (pc' := 959) (st' := [.ref 866, .int v316]) rfl rfl ?_
                                                              refine y_pure (pc' := 960) (st' := [.ref 0, .ref 866, .int v316]) rfl rfl ?_
                                                              refine y_pure (pc' := 961) (st' := [.int x3, .ref 0, .ref 866, .int v316]) rfl rfl ?_
                                                              refine y_pure (pc' := 962) (st' := [.int (nI 1), .int x3, .ref 0, .ref 866, .int v316]) rfl rfl ?_
                                                              refine y_pure (pc' := 963) (st' := [.int (x3 + (nI 1)), .ref 0, .ref 866, .int v316]) rfl rfl ?_
                                                              obtain ⟨hi317, h⟩ := zg_inv h
                                                              refine y_sald (pc' := 964) rfl hi317 rfl ?_
                                                              refine y_pure (pc' := 965) (st' := [.ref 0, .int (M315.1 0 (Int32.toNatClampNeg (x3 + (nI 1)))), .ref 866, .int v316]) rfl rfl ?_
                                                              refine y_pure (pc' := 966) (st' := [.int x3, .ref 0, .int (M315.1 0 (Int32.toNatClampNeg (x3 + (nI 1)))), .ref 866, .int v316]) rfl rfl ?_
                                                              refine y_pure (pc' := 967) (st' := [.int (nI 2), .int x3, .ref 0, .int (M315.1 0 (Int32.toNatClampNeg (x3 + (nI 1)))), .ref 866, .int v316]) rfl rfl ?_
                                                              refine y_pure (pc' := 968) (st' := [.int (x3 + (nI 2)), .ref 0, .int (M315.1 0 (Int32.toNatClampNeg (x3 + (nI 1)))), .ref 866, .int v316]) rfl rfl ?_
                                                              obtain ⟨hi318, h⟩ := zg_inv h
                                                              refine y_sald (pc' := 969) rfl hi318 rfl ?_
                                                              refine y_pure (pc' := 970) (st' := [.ref 0, .int (M315.1 0 (Int32.toNatClampNeg (x3 + (nI 2)))), .int (M315.1 0 (Int32.toNatClampNeg (x3 + (nI 1)))), .ref 866, .int v316]) rfl rfl ?_
                                                              refine y_pure (pc' := 971) (st' := [.int x3, .ref 0, .int (M315.1 0 (Int32.toNatClampNeg (x3 + (nI 2)))), .int (M315.1 0 (Int32.toNatClampNeg (x3 + (nI 1)))), .ref 866, .int v316]) rfl rfl ?_
                                                              refine y_pure (pc' := 972) (st' := [.int (nI 3), .int x3, .ref 0, .int (M315.1 0 (Int32.toNatClampNeg (x3 + (nI 2)))), .int (M315.1 0 (Int32.toNatClampNeg (x3 + (nI 1)))), .ref 866, .int v316]) rfl rfl ?_
                                                              refine y_pure (pc' := 973) (st' := [.int (x3 + (nI 3)), .ref 0, .int (M315.1 0 (Int32.toNatClampNeg (x3 + (nI 2)))), .int (M315.1 0 (Int32.toNatClampNeg (x3 + (nI 1)))), .ref 866, .int v316]) rfl rfl ?_
                                                              obtain ⟨hi319, h⟩ := zg_inv h
                                                              refine y_sald (pc' := 974) rfl hi319 rfl ?_
                                                              obtain ⟨v322, M321, he320, h⟩ := zC1_inv h
                                                              refine y_callV (pc' := 977) (y := zmM_combos) (a' := [.int (M315.1 0 (Int32.toNatClampNeg (x3 + (nI 1)))), .int (M315.1 0 (Int32.toNatClampNeg (x3 + (nI 2)))), .int (M315.1 0 (Int32.toNatClampNeg (x3 + (nI 3))))]) (st' := [.int v316]) rfl rfl rfl rfl rfl (zrecv_o (o := 10) zc_866 rfl) rfl he320 rfl rfl ?_
                                                              rcases zif_inv h with ⟨hc323, h⟩ | ⟨hc323, h⟩
                                                              · refine y_cmp (pc' := 1114) rfl rfl (zc_eqT hc323) rfl ?_
                                                                refine y_pure (pc' := 1117) (ls' := [(0, .ref 0), (1, .ref 64), (2, .ref 866), (3, .int (x3 + (nI 6)))]) (st' := []) rfl rfl ?_
                                                                refine y_pure (pc' := 18) rfl rfl ?_
                                                                refine zEx_sub ?_ h
                                                                exact ⟨rfl, rfl, rfl, rfl, trivial⟩
                                                              · refine y_cmp (pc' := 980) rfl rfl (zc_eqF hc323) rfl ?_
                                                                refine y_pure (pc' := 981) (st' := [.int (nI 0)]) rfl rfl ?_
                                                                exact y_retZ rfl rfl (by decide) h
                                                            · rcases zif_inv h with ⟨hc32, h⟩ | ⟨hc32, h⟩
                                                              · refine y_sw (k := 29) (t := 982) rfl (by rw [hc32]; decide) (by decide) rfl rfl ?_
                                                                refine y_pure (pc' := 983) (st' := [.ref 64]) rfl rfl ?_
                                                                refine y_pure (pc' := 984) (st' := [.ref 0, .ref 64]) rfl rfl ?_
                                                                refine y_pure (pc' := 985) (st' := [.int x3, .ref 0, .ref 64]) rfl rfl ?_
                                                                refine y_pure (pc' := 986) (st' := [.int (nI 1), .int x3, .ref 0, .ref 64]) rfl rfl ?_
                                                                refine y_pure (pc' := 987) (st' := [.int (x3 + (nI 1)), .ref 0, .ref 64]) rfl rfl ?_
                                                                obtain ⟨hi324, h⟩ := zg_inv h
                                                                refine y_sald (pc' := 988) rfl hi324 rfl ?_
                                                                obtain ⟨v327, M326, he325, h⟩ := zC1_inv h
                                                                refine y_callV (pc' := 991) (y := zmC_broken) (a' := [.int (M.1 0 (Int32.toNatClampNeg (x3 + (nI 1))))]) (st' := []) rfl rfl rfl rfl rfl (zrecv_o (o := 9) zc_64 rfl) rfl he325 rfl rfl ?_
                                                                refine y_pure (pc' := 992) (st' := [.ref 866, .int v327]) rfl rfl ?_
                                                                refine y_pure (pc' := 993) (st' := [.ref 0, .ref 866, .int v327]) rfl rfl ?_
                                                                refine y_pure (pc' := 994) (st' := [.int x3, .ref 0, .ref 866, .int v327]) rfl rfl ?_
                                                                refine y_pure (pc' := 995) (st' := [.int (nI 1), .int x3, .ref 0, .ref 866, .int v327]) rfl rfl ?_
                                                                refine y_pure (pc' := 996) (st' := [.int (x3 + (nI 1)), .ref 0, .ref 866, .int v327]) rfl rfl ?_
                                                                obtain ⟨hi328, h⟩ := zg_inv h
                                                                refine y_sald (pc' := 997) rfl hi328 rfl ?_
                                                                obtain ⟨v331, M330, he329, h⟩ := zC1_inv h
                                                                refine y_callV (pc' := 1000) (y := zmM_broken) (a' := [.int (M326.1 0 (Int32.toNatClampNeg (x3 + (nI 1))))]) (st' := [.int v327]) rfl rfl rfl rfl rfl (zrecv_o (o := 10) zc_866 rfl) rfl he329 rfl rfl ?_
                                                                rcases zif_inv h with ⟨hc332, h⟩ | ⟨hc332, h⟩
                                                                · refine y_cmp (pc' := 1114) rfl rfl (zc_eqT hc332) rfl ?_
                                                                  refine y_pure (pc' := 1117) (ls' := [(0, .ref 0), (1, .ref 64), (2, .ref 866), (3, .int (x3 + (nI 6)))]) (st' := []) rfl rfl ?_
                                                                  refine y_pure (pc' := 18) rfl rfl ?_
                                                                  refine zEx_sub ?_ h
                                                                  exact ⟨rfl, rfl, rfl, rfl, trivial⟩
                                                                · refine y_cmp (pc' := 1003) rfl rfl (zc_eqF hc332) rfl ?_
                                                                  refine y_pure (pc' := 1004) (st' := [.int (nI 0)]) rfl rfl ?_
                                                                  exact y_retZ rfl rfl (by decide) h
                                                              · rcases zif_inv h with ⟨hc33, h⟩ | ⟨hc33, h⟩
                                                                · refine y_sw (k := 30) (t := 1005) rfl (by rw [hc33]; decide) (by decide) rfl rfl ?_
                                                                  refine y_pure (pc' := 1006) (st' := [.ref 64]) rfl rfl ?_
                                                                  refine y_pure (pc' := 1007) (st' := [.ref 0, .ref 64]) rfl rfl ?_
                                                                  refine y_pure (pc' := 1008) (st' := [.int x3, .ref 0, .ref 64]) rfl rfl ?_
                                                                  refine y_pure (pc' := 1009) (st' := [.int (nI 1), .int x3, .ref 0, .ref 64]) rfl rfl ?_
                                                                  refine y_pure (pc' := 1010) (st' := [.int (x3 + (nI 1)), .ref 0, .ref 64]) rfl rfl ?_
                                                                  obtain ⟨hi333, h⟩ := zg_inv h
                                                                  refine y_sald (pc' := 1011) rfl hi333 rfl ?_
                                                                  refine y_pure (pc' := 1012) (st' := [.ref 0, .int (M.1 0 (Int32.toNatClampNeg (x3 + (nI 1)))), .ref 64]) rfl rfl ?_
                                                                  refine y_pure (pc' := 1013) (st' := [.int x3, .ref 0, .int (M.1 0 (Int32.toNatClampNeg (x3 + (nI 1)))), .ref 64]) rfl rfl ?_
                                                                  refine y_pure (pc' := 1014) (st' := [.int (nI 2), .int x3, .ref 0, .int (M.1 0 (Int32.toNatClampNeg (x3 + (nI 1)))), .ref 64]) rfl rfl ?_
                                                                  refine y_pure (pc' := 1015) (st' := [.int (x3 + (nI 2)), .ref 0, .int (M.1 0 (Int32.toNatClampNeg (x3 + (nI 1)))), .ref 64]) rfl rfl ?_
                                                                  obtain ⟨hi334, h⟩ := zg_inv h
                                                                  refine y_sald (pc' := 1016) rfl hi334 rfl ?_
                                                                  rcases zif_inv h with ⟨hc335, h⟩ | ⟨hc335, h⟩
                                                                  · refine y_cnd (pc' := 1023) rfl rfl (zc_eqT hc335) rfl ?_
                                                                    refine y_pure (pc' := 1024) (st' := [.int (nI 0), .int (M.1 0 (Int32.toNatClampNeg (x3 + (nI 1)))), .ref 64]) rfl rfl ?_
                                                                    obtain ⟨v338, M337, he336, h⟩ := zC1_inv h
                                                                    refine y_callV (pc' := 1027) (y := zmC_range) (a' := [.int (M.1 0 (Int32.toNatClampNeg (x3 + (nI 1)))), .int (nI 0)]) (st' := []) rfl rfl rfl rfl rfl (zrecv_o (o := 9) zc_64 rfl) rfl he336 rfl rfl ?_
                                                                    refine y_pure (pc' := 1028) (st' := [.ref 866, .int v338]) rfl rfl ?_
                                                                    refine y_pure (pc' := 1029) (st' := [.ref 0, .ref 866, .int v338]) rfl rfl ?_
                                                                    refine y_pure (pc' := 1030) (st' := [.int x3, .ref 0, .ref 866, .int v338]) rfl rfl ?_
                                                                    refine y_pure (pc' := 1031) (st' := [.int (nI 1), .int x3, .ref 0, .ref 866, .int v338]) rfl rfl ?_
                                                                    refine y_pure (pc' := 1032) (st' := [.int (x3 + (nI 1)), .ref 0, .ref 866, .int v338]) rfl rfl ?_
                                                                    obtain ⟨hi339, h⟩ := zg_inv h
                                                                    refine y_sald (pc' := 1033) rfl hi339 rfl ?_
                                                                    refine y_pure (pc' := 1034) (st' := [.ref 0, .int (M337.1 0 (Int32.toNatClampNeg (x3 + (nI 1)))), .ref 866, .int v338]) rfl rfl ?_
                                                                    refine y_pure (pc' := 1035) (st' := [.int x3, .ref 0, .int (M337.1 0 (Int32.toNatClampNeg (x3 + (nI 1)))), .ref 866, .int v338]) rfl rfl ?_
                                                                    refine y_pure (pc' := 1036) (st' := [.int (nI 2), .int x3, .ref 0, .int (M337.1 0 (Int32.toNatClampNeg (x3 + (nI 1)))), .ref 866, .int v338]) rfl rfl ?_
                                                                    refine y_pure (pc' := 1037) (st' := [.int (x3 + (nI 2)), .ref 0, .int (M337.1 0 (Int32.toNatClampNeg (x3 + (nI 1)))), .ref 866, .int v338]) rfl rfl ?_
                                                                    obtain ⟨hi340, h⟩ := zg_inv h
                                                                    refine y_sald (pc' := 1038) rfl hi340 rfl ?_
                                                                    rcases zif_inv h with ⟨hc341, h⟩ | ⟨hc341, h⟩
                                                                    · refine y_cnd (pc' := 1045) rfl rfl (zc_eqT hc341) rfl ?_
                                                                      refine y_pure (pc' := 1046) (st' := [.int (nI 0), .int (M337.1 0 (Int32.toNatClampNeg (x3 + (nI 1)))), .ref 866, .int v338]) rfl rfl ?_
                                                                      obtain ⟨v344, M343, he342, h⟩ := zC1_inv h
                                                                      refine y_callV (pc' := 1049) (y := zmM_range) (a' := [.int (M337.1 0 (Int32.toNatClampNeg (x3 + (nI 1)))), .int (nI 0)]) (st' := [.int v338]) rfl rfl rfl rfl rfl (zrecv_o (o := 10) zc_866 rfl) rfl he342 rfl rfl ?_
                                                                      rcases zif_inv h with ⟨hc345, h⟩ | ⟨hc345, h⟩
                                                                      · refine y_cmp (pc' := 1114) rfl rfl (zc_eqT hc345) rfl ?_
                                                                        refine y_pure (pc' := 1117) (ls' := [(0, .ref 0), (1, .ref 64), (2, .ref 866), (3, .int (x3 + (nI 6)))]) (st' := []) rfl rfl ?_
                                                                        refine y_pure (pc' := 18) rfl rfl ?_
                                                                        refine zEx_sub ?_ h
                                                                        exact ⟨rfl, rfl, rfl, rfl, trivial⟩
                                                                      · refine y_cmp (pc' := 1052) rfl rfl (zc_eqF hc345) rfl ?_
                                                                        refine y_pure (pc' := 1053) (st' := [.int (nI 0)]) rfl rfl ?_
                                                                        exact y_retZ rfl rfl (by decide) h
                                                                    · refine y_cnd (pc' := 1041) rfl rfl (zc_eqF hc341) rfl ?_
                                                                      refine y_pure (pc' := 1042) (st' := [.int (nI 1), .int (M337.1 0 (Int32.toNatClampNeg (x3 + (nI 1)))), .ref 866, .int v338]) rfl rfl ?_
                                                                      refine y_pure (pc' := 1046) rfl rfl ?_
                                                                      obtain ⟨v348, M347, he346, h⟩ := zC1_inv h
                                                                      refine y_callV (pc' := 1049) (y := zmM_range) (a' := [.int (M337.1 0 (Int32.toNatClampNeg (x3 + (nI 1)))), .int (nI 1)]) (st' := [.int v338]) rfl rfl rfl rfl rfl (zrecv_o (o := 10) zc_866 rfl) rfl he346 rfl rfl ?_
                                                                      rcases zif_inv h with ⟨hc349, h⟩ | ⟨hc349, h⟩
                                                                      · refine y_cmp (pc' := 1114) rfl rfl (zc_eqT hc349) rfl ?_
                                                                        refine y_pure (pc' := 1117) (ls' := [(0, .ref 0), (1, .ref 64), (2, .ref 866), (3, .int (x3 + (nI 6)))]) (st' := []) rfl rfl ?_
                                                                        refine y_pure (pc' := 18) rfl rfl ?_
                                                                        refine zEx_sub ?_ h
                                                                        exact ⟨rfl, rfl, rfl, rfl, trivial⟩
                                                                      · refine y_cmp (pc' := 1052) rfl rfl (zc_eqF hc349) rfl ?_
                                                                        refine y_pure (pc' := 1053) (st' := [.int (nI 0)]) rfl rfl ?_
                                                                        exact y_retZ rfl rfl (by decide) h
                                                                  · refine y_cnd (pc' := 1019) rfl rfl (zc_eqF hc335) rfl ?_
                                                                    refine y_pure (pc' := 1020) (st' := [.int (nI 1), .int (M.1 0 (Int32.toNatClampNeg (x3 + (nI 1)))), .ref 64]) rfl rfl ?_
                                                                    refine y_pure (pc' := 1024) rfl rfl ?_
                                                                    obtain ⟨v352, M351, he350, h⟩ := zC1_inv h
                                                                    refine y_callV (pc' := 1027) (y := zmC_range) (a' := [.int (M.1 0 (Int32.toNatClampNeg (x3 + (nI 1)))), .int (nI 1)]) (st' := []) rfl rfl rfl rfl rfl (zrecv_o (o := 9) zc_64 rfl) rfl he350 rfl rfl ?_
                                                                    refine y_pure (pc' := 1028) (st' := [.ref 866, .int v352]) rfl rfl ?_
                                                                    refine y_pure (pc' := 1029) (st' := [.ref 0, .ref 866, .int v352]) rfl rfl ?_
                                                                    refine y_pure (pc' := 1030) (st' := [.int x3, .ref 0, .ref 866, .int v352]) rfl rfl ?_
                                                                    refine y_pure (pc' := 1031) (st' := [.int (nI 1), .int x3, .ref 0, .ref 866, .int v352]) rfl rfl ?_
                                                                    refine y_pure (pc' := 1032) (st' := [.int (x3 + (nI 1)), .ref 0, .ref 866, .int v352]) rfl rfl ?_
                                                                    obtain ⟨hi353, h⟩ := zg_inv h
                                                                    refine y_sald (pc' := 1033) rfl hi353 rfl ?_
                                                                    refine y_pure (pc' := 1034) (st' := [.ref 0, .int (M351.1 0 (Int32.toNatClampNeg (x3 + (nI 1)))), .ref 866, .int v352]) rfl rfl ?_
                                                                    refine y_pure (pc' := 1035) (st' := [.int x3, .ref 0, .int (M351.1 0 (Int32.toNatClampNeg (x3 + (nI 1)))), .ref 866, .int v352]) rfl rfl ?_
                                                                    refine y_pure (pc' := 1036) (st' := [.int (nI 2), .int x3, .ref 0, .int (M351.1 0 (Int32.toNatClampNeg (x3 + (nI 1)))), .ref 866, .int v352]) rfl rfl ?_
                                                                    refine y_pure (pc' := 1037) (st' := [.int (x3 + (nI 2)), .ref 0, .int (M351.1 0 (Int32.toNatClampNeg (x3 + (nI 1)))), .ref 866, .int v352]) rfl rfl ?_
                                                                    obtain ⟨hi354, h⟩ := zg_inv h
                                                                    refine y_sald (pc' := 1038) rfl hi354 rfl ?_
                                                                    rcases zif_inv h with ⟨hc355, h⟩ | ⟨hc355, h⟩
                                                                    · refine y_cnd (pc' := 1045) rfl rfl (zc_eqT hc355) rfl ?_
                                                                      refine y_pure (pc' := 1046) (st' := [.int (nI 0), .int (M351.1 0 (Int32.toNatClampNeg (x3 + (nI 1)))), .ref 866, .int v352]) rfl rfl ?_
                                                                      obtain ⟨v358, M357, he356, h⟩ := zC1_inv h
                                                                      refine y_callV (pc' := 1049) (y := zmM_range) (a' := [.int (M351.1 0 (Int32.toNatClampNeg (x3 + (nI 1)))), .int (nI 0)]) (st' := [.int v352]) rfl rfl rfl rfl rfl (zrecv_o (o := 10) zc_866 rfl) rfl he356 rfl rfl ?_
                                                                      rcases zif_inv h with ⟨hc359, h⟩ | ⟨hc359, h⟩
                                                                      · refine y_cmp (pc' := 1114) rfl rfl (zc_eqT hc359) rfl ?_
                                                                        refine y_pure (pc' := 1117) (ls' := [(0, .ref 0), (1, .ref 64), (2, .ref 866), (3, .int (x3 + (nI 6)))]) (st' := []) rfl rfl ?_
                                                                        refine y_pure (pc' := 18) rfl rfl ?_
                                                                        refine zEx_sub ?_ h
                                                                        exact ⟨rfl, rfl, rfl, rfl, trivial⟩
                                                                      · refine y_cmp (pc' := 1052) rfl rfl (zc_eqF hc359) rfl ?_
                                                                        refine y_pure (pc' := 1053) (st' := [.int (nI 0)]) rfl rfl ?_
                                                                        exact y_retZ rfl rfl (by decide) h
                                                                    · refine y_cnd (pc' := 1041) rfl rfl (zc_eqF hc355) rfl ?_
                                                                      refine y_pure (pc' := 1042) (st' := [.int (nI 1), .int (M351.1 0 (Int32.toNatClampNeg (x3 + (nI 1)))), .ref 866, .int v352]) rfl rfl ?_
                                                                      refine y_pure (pc' := 1046) rfl rfl ?_
                                                                      obtain ⟨v362, M361, he360, h⟩ := zC1_inv h
                                                                      refine y_callV (pc' := 1049) (y := zmM_range) (a' := [.int (M351.1 0 (Int32.toNatClampNeg (x3 + (nI 1)))), .int (nI 1)]) (st' := [.int v352]) rfl rfl rfl rfl rfl (zrecv_o (o := 10) zc_866 rfl) rfl he360 rfl rfl ?_
                                                                      rcases zif_inv h with ⟨hc363, h⟩ | ⟨hc363, h⟩
                                                                      · refine y_cmp (pc' := 1114) rfl rfl (zc_eqT hc363) rfl ?_
                                                                        refine y_pure (pc' := 1117) (ls' := [(0, .ref 0), (1, .ref 64), (2, .ref 866), (3, .int (x3 + (nI 6)))]) (st' := []) rfl rfl ?_
                                                                        refine y_pure (pc' := 18) rfl rfl ?_
                                                                        refine zEx_sub ?_ h
                                                                        exact ⟨rfl, rfl, rfl, rfl, trivial⟩
                                                                      · refine y_cmp (pc' := 1052) rfl rfl (zc_eqF hc363) rfl ?_
                                                                        refine y_pure (pc' := 1053) (st' := [.int (nI 0)]) rfl rfl ?_
                                                                        exact y_retZ rfl rfl (by decide) h
                                                                · rcases zif_inv h with ⟨hc34, h⟩ | ⟨hc34, h⟩
                                                                  · refine y_sw (k := 31) (t := 1054) rfl (by rw [hc34]; decide) (by decide) rfl rfl ?_
                                                                    refine y_pure (pc' := 1055) (st' := [.ref 64]) rfl rfl ?_
                                                                    obtain ⟨v366, M365, he364, h⟩ := zC2_inv h
                                                                    refine y_callV (pc' := 1058) (y := zmC_idle) (a' := []) (st' := []) rfl rfl rfl rfl rfl (zrecv_o (o := 9) zc_64 rfl) rfl he364 rfl rfl ?_
                                                                    refine y_pure (pc' := 1059) (st' := [.ref 866, .long v366]) rfl rfl ?_
                                                                    obtain ⟨v369, M368, he367, h⟩ := zC2_inv h
                                                                    refine y_callV (pc' := 1062) (y := zmM_idle) (a' := []) (st' := [.long v366]) rfl rfl rfl rfl rfl (zrecv_o (o := 10) zc_866 rfl) rfl he367 rfl rfl ?_
                                                                    refine y_pure (pc' := 1063) (st' := [.int (lg_cmp v366 v369)]) rfl rfl ?_
                                                                    rcases zif_inv h with ⟨hc370, h⟩ | ⟨hc370, h⟩
                                                                    · refine y_cnd (pc' := 1114) rfl rfl (zc_eqT hc370) rfl ?_
                                                                      refine y_pure (pc' := 1117) (ls' := [(0, .ref 0), (1, .ref 64), (2, .ref 866), (3, .int (x3 + (nI 6)))]) (st' := []) rfl rfl ?_
                                                                      refine y_pure (pc' := 18) rfl rfl ?_
                                                                      refine zEx_sub ?_ h
                                                                      exact ⟨rfl, rfl, rfl, rfl, trivial⟩
                                                                    · refine y_cnd (pc' := 1066) rfl rfl (zc_eqF hc370) rfl ?_
                                                                      refine y_pure (pc' := 1067) (st' := [.int (nI 0)]) rfl rfl ?_
                                                                      exact y_retZ rfl rfl (by decide) h
                                                                  · rcases zif_inv h with ⟨hc35, h⟩ | ⟨hc35, h⟩
                                                                    · refine y_sw (k := 32) (t := 1068) rfl (by rw [hc35]; decide) (by decide) rfl rfl ?_
                                                                      refine y_pure (pc' := 1069) (st' := [.ref 64]) rfl rfl ?_
                                                                      refine y_pure (pc' := 1070) (st' := [.ref 0, .ref 64]) rfl rfl ?_
                                                                      refine y_pure (pc' := 1071) (st' := [.int x3, .ref 0, .ref 64]) rfl rfl ?_
                                                                      refine y_pure (pc' := 1072) (st' := [.int (nI 1), .int x3, .ref 0, .ref 64]) rfl rfl ?_
                                                                      refine y_pure (pc' := 1073) (st' := [.int (x3 + (nI 1)), .ref 0, .ref 64]) rfl rfl ?_
                                                                      obtain ⟨hi371, h⟩ := zg_inv h
                                                                      refine y_sald (pc' := 1074) rfl hi371 rfl ?_
                                                                      obtain ⟨v374, M373, he372, h⟩ := zC1_inv h
                                                                      refine y_callV (pc' := 1077) (y := zmC_letter) (a' := [.int (M.1 0 (Int32.toNatClampNeg (x3 + (nI 1))))]) (st' := []) rfl rfl rfl rfl rfl (zrecv_o (o := 9) zc_64 rfl) rfl he372 rfl rfl ?_
                                                                      refine y_pure (pc' := 1078) (st' := [.ref 866, .int v374]) rfl rfl ?_
                                                                      refine y_pure (pc' := 1079) (st' := [.ref 0, .ref 866, .int v374]) rfl rfl ?_
                                                                      refine y_pure (pc' := 1080) (st' := [.int x3, .ref 0, .ref 866, .int v374]) rfl rfl ?_
                                                                      refine y_pure (pc' := 1081) (st' := [.int (nI 1), .int x3, .ref 0, .ref 866, .int v374]) rfl rfl ?_
                                                                      refine y_pure (pc' := 1082) (st' := [.int (x3 + (nI 1)), .ref 0, .ref 866, .int v374]) rfl rfl ?_
                                                                      obtain ⟨hi375, h⟩ := zg_inv h
                                                                      refine y_sald (pc' := 1083) rfl hi375 rfl ?_
                                                                      obtain ⟨v378, M377, he376, h⟩ := zC1_inv h
                                                                      refine y_callV (pc' := 1086) (y := zmM_letter) (a' := [.int (M373.1 0 (Int32.toNatClampNeg (x3 + (nI 1))))]) (st' := [.int v374]) rfl rfl rfl rfl rfl (zrecv_o (o := 10) zc_866 rfl) rfl he376 rfl rfl ?_
                                                                      rcases zif_inv h with ⟨hc379, h⟩ | ⟨hc379, h⟩
                                                                      · refine y_cmp (pc' := 1114) rfl rfl (zc_eqT hc379) rfl ?_
                                                                        refine y_pure (pc' := 1117) (ls' := [(0, .ref 0), (1, .ref 64), (2, .ref 866), (3, .int (x3 + (nI 6)))]) (st' := []) rfl rfl ?_
                                                                        refine y_pure (pc' := 18) rfl rfl ?_
                                                                        refine zEx_sub ?_ h
                                                                        exact ⟨rfl, rfl, rfl, rfl, trivial⟩
                                                                      · refine y_cmp (pc' := 1089) rfl rfl (zc_eqF hc379) rfl ?_
                                                                        refine y_pure (pc' := 1090) (st' := [.int (nI 0)]) rfl rfl ?_
                                                                        exact y_retZ rfl rfl (by decide) h
                                                                    · rcases zif_inv h with ⟨hc36, h⟩ | ⟨hc36, h⟩
                                                                      · refine y_sw (k := 33) (t := 1091) rfl (by rw [hc36]; decide) (by decide) rfl rfl ?_
                                                                        refine y_pure (pc' := 1092) (st' := [.ref 64]) rfl rfl ?_
                                                                        refine y_pure (pc' := 1093) (st' := [.ref 0, .ref 64]) rfl rfl ?_
                                                                        refine y_pure (pc' := 1094) (st' := [.int x3, .ref 0, .ref 64]) rfl rfl ?_
                                                                        refine y_pure (pc' := 1095) (st' := [.int (nI 1), .int x3, .ref 0, .ref 64]) rfl rfl ?_
                                                                        refine y_pure (pc' := 1096) (st' := [.int (x3 + (nI 1)), .ref 0, .ref 64]) rfl rfl ?_
                                                                        obtain ⟨hi380, h⟩ := zg_inv h
                                                                        refine y_sald (pc' := 1097) rfl hi380 rfl ?_
                                                                        obtain ⟨v383, M382, he381, h⟩ := zC1_inv h
                                                                        refine y_callV (pc' := 1100) (y := zmC_count) (a' := [.int (M.1 0 (Int32.toNatClampNeg (x3 + (nI 1))))]) (st' := []) rfl rfl rfl rfl rfl (zrecv_o (o := 9) zc_64 rfl) rfl he381 rfl rfl ?_
                                                                        refine y_pure (pc' := 1101) (st' := [.ref 866, .int v383]) rfl rfl ?_
                                                                        refine y_pure (pc' := 1102) (st' := [.ref 0, .ref 866, .int v383]) rfl rfl ?_
                                                                        refine y_pure (pc' := 1103) (st' := [.int x3, .ref 0, .ref 866, .int v383]) rfl rfl ?_
                                                                        refine y_pure (pc' := 1104) (st' := [.int (nI 1), .int x3, .ref 0, .ref 866, .int v383]) rfl rfl ?_
                                                                        refine y_pure (pc' := 1105) (st' := [.int (x3 + (nI 1)), .ref 0, .ref 866, .int v383]) rfl rfl ?_
                                                                        obtain ⟨hi384, h⟩ := zg_inv h
                                                                        refine y_sald (pc' := 1106) rfl hi384 rfl ?_
                                                                        obtain ⟨v387, M386, he385, h⟩ := zC1_inv h
                                                                        refine y_callV (pc' := 1109) (y := zmM_count) (a' := [.int (M382.1 0 (Int32.toNatClampNeg (x3 + (nI 1))))]) (st' := [.int v383]) rfl rfl rfl rfl rfl (zrecv_o (o := 10) zc_866 rfl) rfl he385 rfl rfl ?_
                                                                        rcases zif_inv h with ⟨hc388, h⟩ | ⟨hc388, h⟩
                                                                        · refine y_cmp (pc' := 1114) rfl rfl (zc_eqT hc388) rfl ?_
                                                                          refine y_pure (pc' := 1117) (ls' := [(0, .ref 0), (1, .ref 64), (2, .ref 866), (3, .int (x3 + (nI 6)))]) (st' := []) rfl rfl ?_
                                                                          refine y_pure (pc' := 18) rfl rfl ?_
                                                                          refine zEx_sub ?_ h
                                                                          exact ⟨rfl, rfl, rfl, rfl, trivial⟩
                                                                        · refine y_cmp (pc' := 1112) rfl rfl (zc_eqF hc388) rfl ?_
                                                                          refine y_pure (pc' := 1113) (st' := [.int (nI 0)]) rfl rfl ?_
                                                                          exact y_retZ rfl rfl (by decide) h
                                                                      · refine y_swD (t := 1114) rfl (by have q0 := zsw_ne (k := 0) (by decide) hc3; have q1 := zsw_ne (k := 1) (by decide) hc4; have q2 := zsw_ne (k := 2) (by decide) hc5; have q3 := zsw_ne (k := 3) (by decide) hc6; have q4 := zsw_ne (k := 4) (by decide) hc7; have q5 := zsw_ne (k := 5) (by decide) hc8; have q6 := zsw_ne (k := 6) (by decide) hc9; have q7 := zsw_ne (k := 7) (by decide) hc10; have q8 := zsw_ne (k := 8) (by decide) hc11; have q9 := zsw_ne (k := 9) (by decide) hc12; have q10 := zsw_ne (k := 10) (by decide) hc13; have q11 := zsw_ne (k := 11) (by decide) hc14; have q12 := zsw_ne (k := 12) (by decide) hc15; have q13 := zsw_ne (k := 13) (by decide) hc16; have q14 := zsw_ne (k := 14) (by decide) hc17; have q15 := zsw_ne (k := 15) (by decide) hc18; have q16 := zsw_ne (k := 16) (by decide) hc19; have q17 := zsw_ne (k := 17) (by decide) hc20; have q18 := zsw_ne (k := 18) (by decide) hc21; have q19 := zsw_ne (k := 19) (by decide) hc22; have q20 := zsw_ne (k := 20) (by decide) hc23; have q21 := zsw_ne (k := 21) (by decide) hc24; have q22 := zsw_ne (k := 22) (by decide) hc25; have q23 := zsw_ne (k := 23) (by decide) hc26; have q24 := zsw_ne (k := 24) (by decide) hc27; have q25 := zsw_ne (k := 25) (by decide) hc28; have q26 := zsw_ne (k := 26) (by decide) hc29; have q27 := zsw_ne (k := 27) (by decide) hc30; have q28 := zsw_ne (k := 28) (by decide) hc31; have q29 := zsw_ne (k := 29) (by decide) hc32; have q30 := zsw_ne (k := 30) (by decide) hc33; have q31 := zsw_ne (k := 31) (by decide) hc34; have q32 := zsw_ne (k := 32) (by decide) hc35; have q33 := zsw_ne (k := 33) (by decide) hc36; omega) rfl ?_
                                                                        refine y_pure (pc' := 1117) (ls' := [(0, .ref 0), (1, .ref 64), (2, .ref 866), (3, .int (x3 + (nI 6)))]) (st' := []) rfl rfl ?_
                                                                        refine y_pure (pc' := 18) rfl rfl ?_
                                                                        refine zEx_sub ?_ h
                                                                        exact ⟨rfl, rfl, rfl, rfl, trivial⟩