/-! SOUNDNESS of the small machine, 3: calls, returns, a whole method -/
def zTs (m : ZMeth) : List Jvm.Cond := Jvm.Cond.code (zmN m) (zmB m) (zmL m) (zmR m) :: lw_good
def zRm (d : Nat) : Room := { frames := d + 8, cells := 0, slots := 0, locals := 60 * d + 600 }
def zB0 (ad : Nat → Nat) (Bz : Nat) (cA : Nat → ClassId) (D : va_G) (X : ZX) (M : ZM) : State → Prop := fun U => zK ad D cA U ∧ zF0 ad Bz X U U.heap ∧ zWd ad Bz cA D X M U.heap
def zQ (ad : Nat → Nat) (Bz : Nat) (cA : Nat → ClassId) (D : va_G) (X : ZX) (r : ZR) : Array Value → State → Outcome → State → Prop := fun _ st oc t => (oc = .returned (r.1.map (zcv ad)) ∧ zWd ad Bz cA D X r.2 t.heap) ∧ va_F (zAf Bz) st t
def zMet (l : Launch) (ad : Nat → Nat) (Bz : Nat) (cA : Nat → ClassId) (D : va_G) (X : ZX) (d : Nat) (m : ZMeth) (a : List Value) (M : ZM) (r : ZR) : Prop := Met l (zmN m) (zTs m) (zRm d) (va_Pc (a.map (zcv ad)) (zB0 ad Bz cA D X M)) (zQ ad Bz cA D X r) 0 0 (zAf Bz)
theorem zB0_blind {ad : Nat → Nat} {Bz : Nat} {cA : Nat → ClassId} {D : va_G} {X : ZX} {M : ZM} {av : List Value} : FrameBlind (va_Pc av (zB0 ad Bz cA D X M)) :=
  fun _ U _ _ h => ⟨h.1, zK.same (s := U) rfl h.2.1, zF0.moved (u := U) (Vm.Alike.refl U.vm) h.2.2.1, h.2.2.2⟩
theorem zB0_pre {ad : Nat → Nat} {Bz : Nat} {cA : Nat → ClassId} {D : va_G} {X : ZX} {M : ZM} {s : State} {H : Heap} {locs : List Loc} (hK : zK ad D cA s) (hF0 : zF0 ad Bz X s s.heap) (hH : zWd ad Bz cA D X M H) (hS : va_S (zAf Bz) s.heap H locs) : ∀ U : State, U.heap = H → s.WarmedH U.vm → zB0 ad Bz cA D X M U := by
  intro U hU hW
  refine ⟨hK.warm hW, ?_, by rw [hU]; exact hH⟩
  rw [hU]
  exact (hF0.kept hS.1 hS.2.1).moved hW.alike
theorem zgood {w : Jvm.Cond} (h : w ∈ lw_good) : w ∈ lw_good ∧ ((w.onTables && w.keeps) = true ∨ ∃ ty, w = .arrayClass ty) := ⟨h, good_of_word (List.mem_filter.mp h).2⟩
theorem zTs_good {y : ZMeth} (hy : zOK y) : GoodIn lw_good (zTs y) := by
  intro w hw
  rcases List.mem_cons.mp hw with rfl | h
  · exact zgood hy.2.1.1
  · exact zgood h
theorem zcat_map {ad : Nat → Nat} (l : List Value) : ((l.map (zcv ad)).map fun v => v.category) = l.map fun v => v.category := by
  rw [List.map_map]
  exact List.map_congr_left fun v _ => zcv_cat ad v
theorem zargs_map {ad : Nat → Nat} : ∀ (a : List Value) (k : Nat), lv_args k (a.map (zcv ad)) = (zarg k a).map fun q => (q.1, zcv ad q.2)
  | [], k => rfl
  | v :: l, k => by
    simp only [List.map_cons, lv_args, zarg]
    rw [zargs_map l, zcv_cat]
    congr 2
    cases h : zc2 v with
    | true => rw [if_pos ((zc2_cat v).mp h)]; rfl
    | false => rw [if_neg (by rw [zc2_f h]; decide)]; rfl
theorem zsl_len : ∀ (a : List Value), (lg_sl a).length = (a.map fun v => v.category).sum
  | [] => rfl
  | v :: l => by
    have ih := zsl_len l
    unfold lg_sl at ih ⊢
    rw [List.flatMap_cons, List.length_append, ih, List.map_cons, List.sum_cons]
    congr 1
    cases v <;> rfl
theorem zRR {r d L : Nat} (h : 8 + 51 + (60 * d + 600) ≤ r) (hL : L ≤ 40) : 8 + (L + 11) + (60 * d + 600) ≤ r := Nat.le_trans (Nat.add_le_add_right (show 8 + (L + 11) ≤ 8 + 51 from Nat.add_le_add_left (Nat.add_le_add_right hL 11) 8) _) h
section ZCALL
variable {p : Program} {l : Launch} {e : Env} {R : Room} {s : State} {m : MethodId} {args : Array Value} {below : List Frame} {meth : Method} {c : Code} {H : Heap} {locs : List Loc} {cells slots : Nat} {Q : State → Prop}
variable {cc : ByteArray} {pc len nL d : Nat} {L : Array Slot} {ad : Nat → Nat} {o Bz : Nat} {ls : ZL} {st : List Value} {M : ZM} {x : ZS} {D : va_G} {cA : Nat → ClassId} {X : ZX} {i : Instr}
theorem za_call {rest st0 : List Value} {a : Array Value} {r : ZR} (hr : va_Run p l e R s m args below meth c H locs cells slots 0 0 (F0 m pc L st0) rest (zQ ad Bz cA D X r a) (zAf Bz)) (hS : va_S (zAf Bz) s.heap H locs)
    (kk : ∀ (H1 : Heap) (locs1 : List Loc), zWd ad Bz cA D X r.2 H1 → va_S (zAf Bz) s.heap H1 locs1 → W p l e R s m args below meth c H1 locs1 cells slots Q (F0 m (pc + 3) L ((r.1.map (zcv ad)).toList ++ rest))) : W p l e R s m args below meth c H locs cells slots Q (F0 m pc L st0) := by
  intro T hT Y
  obtain ⟨v, st₀, t, T', L', h0, Y', hL, e1, e2, ⟨⟨hv, hw⟩, hz, hk⟩, st⟩ := hr T hT Y
  have hv : v = r.1.map (zcv ad) := by
    injection hv
  subst hv
  rw [h0] at hz hk
  obtain ⟨t2, a1, b1⟩ := kk T'.heap (locs ++ L') (by rw [e1]; exact hw)
    ⟨Nat.le_trans hS.1 (by rw [e1]; exact hz), fun q h1 h2 => by rw [e1, hk q (Nat.lt_of_lt_of_le h1 hS.1) h2]; exact hS.2.1 q h1 h2, fun q hq => by
      rcases List.mem_append.mp hq with h | h
      · exact hS.2.2 q h
      · exact hL q h⟩ T' rfl Y'
  exact ⟨t2, st t2 a1, b1⟩
theorem zrecv_spec (hK : zK ad D cA s) (hF0 : zF0 ad Bz X s s.heap) (hH : zWd ad Bz cA D X M H) (hS : va_S (zAf Bz) s.heap H locs) {q o2 : Nat} (ho : o2 < 11 ∨ o2 = 15) (h : zrecv q o2 = true) : ∃ cell : Cell, H[ad q]? = some cell ∧ cell.vm.isStatics = false ∧ s.vm.findClass (zcn o2) = some cell.cls := by
  unfold zrecv at h
  by_cases h15 : o2 = 15
  · subst h15
    rw [if_pos rfl] at h
    obtain ⟨h17, hq⟩ := zkd7 (of_decide_eq_true h)
    have g := vk_recv hF0.2.2.1.1 h17 hS
    rw [← hq] at g
    exact g
  · rw [if_neg h15] at h
    have h1 := of_decide_eq_true h
    have he := zWs_get (ad := ad) (cA := cA) (M := M) (zkd_ro h1)
    rw [zE_o h1] at he
    exact va_recv hK.1 hH.1 (zcls_get (by omega)) he
theorem zrest_le {st : List Value} (h : zrest st = true) : ((st.map (zcv ad)).map fun v => v.category).sum ≤ 8 := by
  rw [zcat_map]
  exact of_decide_eq_true h
theorem zs_call {y : ZMeth} {a st' : List Value} {r : ZR} (A : zA p s m args c cc o) (hml : c.maxLocals = nL) (hK : zK ad D cA s) (hF0 : zF0 ad Bz X s s.heap) (hH : zWd ad Bz cA D X M H) (hS : va_S (zAf Bz) s.heap H locs) (hR : d + 8 + 1 ≤ R.frames ∧ 8 + 51 + (60 * d + 600) ≤ R.locals) (hcs : cells ≤ R.cells ∧ slots ≤ R.slots)
    (hM : zOK y → (a.map fun v => v.category).sum ≤ zmL y → zMet l ad Bz cA D X d y a M r) (hL : L.size = nL) (hdg : decode cc pc = .ok (i, len)) (hlen : zlen i len = true) (hz : zcallee o i st = some (y, a, st'))
    (kk : ∀ (H1 : Heap) (locs1 : List Loc), zWd ad Bz cA D X r.2 H1 → va_S (zAf Bz) s.heap H1 locs1 → W p l e R s m args below meth c H1 locs1 cells slots Q (F0 m (pc + len) L ((r.1.map (zcv ad)).toList ++ st'.map (zcv ad)))) : W p l e R s m args below meth c H locs cells slots Q (F0 m pc L (st.map (zcv ad))) := by
  obtain ⟨hx, hb, ho, hown, hts⟩ := A
  cases i
  case invokevirtual k =>
    obtain rfl : len = 3 := Nat.eq_of_beq_eq_true hlen
    simp only [zcallee] at hz
    split at hz
    · rename_i y' nst hMk
      split at hz
      · rename_i q a0 hrev hrest
        split at hz
        · rename_i hc
          cases hz
          obtain ⟨hrc, hlen0, hS0, hfit⟩ := hc
          have hy := zM_ok ho hMk
          obtain ⟨i, hw⟩ := zM_mem ho hMk
          obtain ⟨hO1, ⟨hcode, hini⟩, ⟨hcls, -, hmh, hpd, -, hL40⟩, hinst, -⟩ := id hy
          obtain ⟨ho2, hin, hsel⟩ := hinst hS0
          rw [if_neg (by rw [hS0]; decide)] at hpd
          have hM' := hM hy (of_decide_eq_true hfit)
          have est : st.map (zcv ad) = (a0.map (zcv ad)).reverse ++ .ref (ad q) :: (st.drop (zmA y)).map (zcv ad) := by
            have e1 : st.take (zmA y) = a0.reverse ++ [.ref q] := by
              rw [← List.reverse_reverse (st.take (zmA y)), hrev, List.reverse_cons]
            conv => lhs; rw [← List.take_append_drop (zmA y) st, e1]
            simp [zcv]
          rw [est]
          have hrecv := zrecv_spec (ad := ad) hK hF0 hH hS ho2 hrc
          have hPre : PreV s H (zcn (zmO y)) (ad q) (va_Pc ((.ref q :: a0 : List Value).map (zcv ad)) (zB0 ad Bz cA D X M)) (a0.map (zcv ad)) := ⟨zB0_blind, hrecv, fun U hU hW => ⟨rfl, zB0_pre hK hF0 hH hS U hU hW⟩⟩
          have hRR : (zRm d).frames + 1 ≤ R.frames ∧ 8 + (zmL y + 11) + (zRm d).locals ≤ R.locals := ⟨hR.1, zRR hR.2 hL40⟩
          have hn : (a0.map (zcv ad)).length = zmA y - 1 := by rw [List.length_map]; omega
          match nst, hw with
          | 0, hw =>
            have hw' : Jvm.Cond.methodLink (zcn o) k (zmN y) ∈ lw_good := zgw i hw rfl
            have hgood : GoodIn lw_good (wsV (zcn o) k (zcn (zmO y)) (zmN y) (zTs y)) := by
              intro w hw
              rcases List.mem_append.mp hw with h | h
              · simp only [List.mem_cons, List.not_mem_nil, or_false] at h
                rcases h with rfl | rfl | rfl | rfl
                · exact zgood hw'
                · exact zgood hin
                · rw [← hcls]; exact zgood hsel
                · rw [← hcls]; exact zgood hini
              · exact zTs_good hy w h
            exact za_call (va_runV (As := a0.map (zcv ad)) (rest := (st.drop (zmA y)).map (zcv ad)) ⟨hx, hb, hml, hown, hts⟩ hM' (cwV (zmA y - 1) hts hgood rfl rfl rfl ⟨hcls, hmh.1, hmh.2, hpd⟩ hRR) hPre rfl hn hL rfl (lv_room (zrest_le hrest)) hdg hcs) hS kk
          | nst + 1, hw =>
            have hw' := hK.2.1 o k (zmN y) i ho hw
            exact za_call (va_runVN (host := "CrossSums") (C := zcn (zmO y)) (As := a0.map (zcv ad)) (rest := (st.drop (zmA y)).map (zcv ad)) ⟨hx, hb, hml, hown, hts⟩ hM' ⟨va_cnB (zmA y - 1) hts (zTs_good hy) rfl rfl rfl hw' (hts _ hini) ⟨hmh.1, hmh.2, hpd⟩ hRR, hts _ hin, by rw [← hcls]; exact hts _ hsel⟩ hPre rfl hn hL rfl (lv_room (zrest_le hrest)) hdg hcs) hS kk
        · cases hz
      · cases hz
    · cases hz
  case invokestatic k =>
    obtain rfl : len = 3 := Nat.eq_of_beq_eq_true hlen
    simp only [zcallee] at hz
    split at hz
    · rename_i y' nst hMk
      split at hz
      · rename_i hc
        cases hz
        obtain ⟨hlen0, hS0, hrest, hfit⟩ := hc
        have hy := zM_ok ho hMk
        obtain ⟨i, hw⟩ := zM_mem ho hMk
        obtain ⟨hO1, ⟨hcode, hini⟩, ⟨hcls, -, hmh, hpd, -, hL40⟩, -, hstat⟩ := id hy
        have hst := hstat hS0
        rw [if_pos hS0] at hpd
        have hM' := hM hy (of_decide_eq_true hfit)
        have est : st.map (zcv ad) = ((st.take (zmA y)).reverse.map (zcv ad)).reverse ++ (st.drop (zmA y)).map (zcv ad) := by
          rw [← List.map_reverse, List.reverse_reverse, ← List.map_append, List.take_append_drop]
        rw [est]
        have hPre : PreS s H (va_Pc ((st.take (zmA y)).reverse.map (zcv ad)) (zB0 ad Bz cA D X M)) ((st.take (zmA y)).reverse.map (zcv ad)) := ⟨zB0_blind, fun U hU hW => ⟨rfl, zB0_pre hK hF0 hH hS U hU hW⟩⟩
        have hRR : (zRm d).frames + 1 ≤ R.frames ∧ 8 + (zmL y + 11) + (zRm d).locals ≤ R.locals := ⟨hR.1, zRR hR.2 hL40⟩
        have hn : ((st.take (zmA y)).reverse.map (zcv ad)).length = zmA y := by rw [List.length_map, List.length_reverse]; exact hlen0
        match nst, hw with
        | 0, hw =>
          have hw' : Jvm.Cond.methodLink (zcn o) k (zmN y) ∈ lw_good := zgw i hw rfl
          have hgood : GoodIn lw_good (va_wsS (zcn o) k (zmN y) (zTs y)) := by
            intro w hw
            rcases List.mem_append.mp hw with h | h
            · simp only [List.mem_cons, List.not_mem_nil, or_false] at h
              rcases h with rfl | rfl | rfl
              · exact zgood hw'
              · exact zgood hst
              · exact zgood hini
            · exact zTs_good hy w h
          exact za_call (va_runS (As := (st.take (zmA y)).reverse.map (zcv ad)) (rest := (st.drop (zmA y)).map (zcv ad)) ⟨hx, hb, hml, hown, hts⟩ hM' (va_cwS (zmA y) hts hgood rfl rfl rfl ⟨hmh.1, hmh.2, hpd⟩ hRR) hPre rfl hn hL rfl (lv_room (zrest_le hrest)) hdg hcs) hS kk
        | nst + 1, hw =>
          have hw' := hK.2.1 o k (zmN y) i ho hw
          exact za_call (va_runSN (host := "CrossSums") (As := (st.take (zmA y)).reverse.map (zcv ad)) (rest := (st.drop (zmA y)).map (zcv ad)) ⟨hx, hb, hml, hown, hts⟩ hM' ⟨va_cnB (zmA y) hts (zTs_good hy) rfl rfl rfl hw' (hts _ hini) ⟨hmh.1, hmh.2, hpd⟩ hRR, hts _ hst, trivial⟩ hPre rfl hn hL rfl (lv_room (zrest_le hrest)) hdg hcs) hS kk
      · cases hz
    · cases hz
  all_goals (simp only [zcallee] at hz; cases hz)
theorem zs_copy (A : zA p s m args c cc o) (hml : c.maxLocals = nL) (hK : zK ad D cA s) (hH : zWd ad Bz cA D X M H) (hS : va_S (zAf Bz) s.heap H locs) (hR : 1 ≤ R.frames ∧ 100 ≤ R.locals) (hL : L.size = nL) (hdg : decode cc pc = .ok (i, len)) (hlen : zlen i len = true) (hz : zbuilt o i len pc ls st M = some x)
    (kk : x.2.1 = ls → ∀ (H1 : Heap) (locs1 : List Loc), zWd ad Bz cA D X x.2.2.2 H1 → va_S (zAf Bz) s.heap H1 locs1 → W p l e R s m args below meth c H1 locs1 cells slots Q (F0 m x.1 L (x.2.2.1.map (zcv ad)))) : W p l e R s m args below meth c H locs cells slots Q (F0 m pc L (st.map (zcv ad))) := by
  obtain ⟨hx, hb, ho, hown, hts⟩ := A
  cases i
  case invokestatic k =>
    obtain rfl : len = 3 := Nat.eq_of_beq_eq_true hlen
    simp only [zbuilt] at hz
    split at hz
    · rename_i n dp qd sp q r hB
      split at hz
      · rename_i hc
        obtain ⟨hn, hdp, hsp, hrest⟩ := hc
        split at hz
        · rename_i M' hcp
          cases hz
          have hall : ∀ o, o < 18 → ∀ e ∈ zBl o, e.2 = 3 → ∃ i ∈ [852, 1064, 1185, 1377], lw_tbl[i]? = some (Jvm.Cond.methodLink (zcn o) e.1 arraycopyName) := by decide +kernel
          obtain ⟨i, -, hlw⟩ := hall o ho _ (zlk_mem hB) rfl
          have hlink := hts _ (zgw i hlw rfl)
          have nn : ∀ {z : Int32}, 0 ≤ z.toInt → ¬ z < 0 := by
            intro z h0 hz
            have := Int32.lt_iff_toInt_lt.mp hz
            simp at this
            omega
          have hloc : ((r.map (zcv ad)).map fun v => v.category).sum + (nativeFrameWords "java/lang/System" "arraycopy" 5 + 11) ≤ R.locals := by
            have h1 := zrest_le (ad := ad) hrest
            have h2 : nativeFrameWords "java/lang/System" "arraycopy" 5 = 7 := by decide +kernel
            omega
          have hnat := hts (.native arraycopyName) (zgw 854 (by decide +kernel) rfl)
          have hstat := hts (.static arraycopyName) (zgw 853 (by decide +kernel) rfl)
          have hini := hts (.initialized "java/lang/System") (zgw 184 (by decide +kernel) rfl)
          unfold zcopy at hcp
          split at hcp
          · rename_i hk
            cases hcp
            obtain ⟨k1, k2, hne, k3, k4⟩ := hk
            have r1 := zkd_r k1 (by decide)
            have r2 := zkd_r k2 (by decide)
            have g1 := zWs_get (ad := ad) (cA := cA) (M := M) r1
            have g2 := zWs_get (ad := ad) (cA := cA) (M := M) r2
            rw [zE_1 k1] at g1
            rw [zE_1 k2] at g2
            refine va_copyi hx hb (hml.trans hL.symm) hown hlink hnat hstat hini hK.1 hH.1 hH.2.1 hS (q - 64) (qd - 64) 0 0 g1 g2 (ty := .int) rfl rfl rfl (nn hsp) (nn hdp) (nn hn) k3 k4 (fun _ _ => rfl) hR.1 hloc hdg (fun H1 locs1 f1 f2 f3 => ?_)
            rw [zWs_set (M' := zsi M qd (va_cpy (M.1 q) (M.1 qd) sp.toNatClampNeg dp.toNatClampNeg n.toNatClampNeg)) r2 (by rw [zE_1 k2, zsi_eq]) zE_zsi] at f1 f2
            exact kk rfl H1 locs1 ⟨f1, f2, (zsi_ne (by have := r2.1; omega)).trans hH.2.2.1, (zsi_ne (by have := r2.1; omega)).trans hH.2.2.2⟩ f3
          · split at hcp
            · rename_i hk
              cases hcp
              obtain ⟨k1, k2, hne, k3, k4⟩ := hk
              have r1 := zkd_r k1 (by decide)
              have r2 := zkd_r k2 (by decide)
              have g1 := zWs_get (ad := ad) (cA := cA) (M := M) r1
              have g2 := zWs_get (ad := ad) (cA := cA) (M := M) r2
              rw [zE_2 k1] at g1
              rw [zE_2 k2] at g2
              refine va_copyl hx hb (hml.trans hL.symm) hown hlink hnat hstat hini hK.1 hH.1 hH.2.1 hS (q - 64) (qd - 64) 1 1 g1 g2 (ty := .long) rfl rfl rfl (nn hsp) (nn hdp) (nn hn) k3 k4 (fun _ _ => rfl) hR.1 hloc hdg (fun H1 locs1 f1 f2 f3 => ?_)
              rw [zWs_set (M' := zsl' M qd (va_cpy (M.2 q) (M.2 qd) sp.toNatClampNeg dp.toNatClampNeg n.toNatClampNeg)) r2 (by rw [zE_2 k2, zsl_eq]) zE_zsl] at f1 f2
              exact kk rfl H1 locs1 ⟨f1, f2, hH.2.2.1, hH.2.2.2⟩ f3
            · cases hcp
        · cases hz
      · cases hz
    · cases hz
  all_goals (simp only [zbuilt] at hz; cases hz)
theorem zs_ret {y : ZMeth} {v : Option Value} (hexec : p.tables.exec = Jvm.exec) (hb : c.code = cc) (hr : meth.sig.returnType = zmR y) (hrk : zrk (zmK y) (zmR y) = true) (hlocks : meth.locks = false) (hH : zWd ad Bz cA D X M H) (hS : va_S (zAf Bz) s.heap H locs) (hdg : decode cc pc = .ok (i, len)) (hlen : zlen i len = true) (hz : zends y i st = some v) :
    W p l e R s m args below meth c H locs 0 0 (MQ below (zQ ad Bz cA D X (v, M)) args s 0 0 (zAf Bz)) (F0 m pc L (st.map (zcv ad))) := by
  have hf : ∀ q ∈ locs, zAf Bz q.base := hS.2.2
  have hq : ∀ w, w = v.map (zcv ad) → ∀ t : State, t.heap = H → s.WarmedH t.vm → zQ ad Bz cA D X (v, M) args s (.returned w) t := fun w hw t ht _ => ⟨⟨by rw [hw], by rw [ht]; exact hH⟩, hS.F ht⟩
  unfold zends at hz
  split at hz
  · rename_i hk
    cases hz
    rw [hk] at hrk
    have hr' : meth.sig.returnType = none := by
      rw [hr]
      cases h : zmR y with
      | none => rfl
      | some t => rw [h] at hrk; simp [zrk] at hrk
    obtain rfl : len = 1 := Nat.eq_of_beq_eq_true hlen
    exact W.vret hexec hb hr' (hq none rfl) hf hdg hlocks
  · rename_i a hk
    cases hz
    rw [hk] at hrk
    have hr' : meth.sig.returnType = some .int := by
      rw [hr]
      unfold zrk at hrk
      split at hrk <;> first | assumption | (simp_all)
    obtain rfl : len = 1 := Nat.eq_of_beq_eq_true hlen
    exact W.iret hexec hb hr' (hq _ rfl) hf hdg hlocks
  · rename_i a hk
    rw [hk] at hrk
    have hr' : meth.sig.returnType = some .boolean := by
      rw [hr]
      unfold zrk at hrk
      split at hrk <;> first | assumption | (simp_all)
    obtain rfl : len = 1 := Nat.eq_of_beq_eq_true hlen
    split at hz
    · rename_i h01
      cases hz
      exact W.zret hexec hb hr' (by rcases h01 with e | e <;> (rw [e]; rfl)) (hq _ rfl) hf hdg hlocks
    · cases hz
  · rename_i a hk
    rw [hk] at hrk
    have hr' : meth.sig.returnType = some .byte := by
      rw [hr]
      unfold zrk at hrk
      split at hrk <;> first | assumption | (simp_all)
    obtain rfl : len = 1 := Nat.eq_of_beq_eq_true hlen
    split at hz
    · rename_i h01
      cases hz
      exact W.zret hexec hb hr' (show Value.int a.toInt8.toInt32 = .int a by rw [h01]) (hq _ rfl) hf hdg hlocks
    · cases hz
  · rename_i a hk
    rw [hk] at hrk
    have hr' : meth.sig.returnType = some .char := by
      rw [hr]
      unfold zrk at hrk
      split at hrk <;> first | assumption | (simp_all)
    obtain rfl : len = 1 := Nat.eq_of_beq_eq_true hlen
    split at hz
    · rename_i h01
      cases hz
      exact W.zret hexec hb hr' (show Value.int (a.toUInt32 % 65536).toInt32 = .int a by rw [h01]) (hq _ rfl) hf hdg hlocks
    · cases hz
  · rename_i a hk
    cases hz
    rw [hk] at hrk
    have hr' : meth.sig.returnType = some .long := by
      rw [hr]
      unfold zrk at hrk
      split at hrk <;> first | assumption | (simp_all)
    obtain rfl : len = 1 := Nat.eq_of_beq_eq_true hlen
    exact W.lret hexec hb hr' (hq _ rfl) hf hdg hlocks
  · rename_i a hk
    cases hz
    rw [hk] at hrk
    have hr' : ∃ n, meth.sig.returnType = some (.object n) := by
      rw [hr]
      unfold zrk at hrk
      split at hrk <;> first | (simp_all; done) | exact ⟨_, by assumption⟩
    obtain ⟨n9, hr'⟩ := hr'
    obtain rfl : len = 1 := Nat.eq_of_beq_eq_true hlen
    exact W.aret hexec hb hr' (Or.inl ⟨n9, rfl⟩) (Or.inr ⟨ad a, rfl⟩) (hq _ rfl) hf hdg hlocks
  · cases hz
theorem zpush_app {y : ZMeth} {v : Option Value} {st st2 : List Value} (h : zpush y v st = some st2) : st2.map (zcv ad) = (v.map (zcv ad)).toList ++ st.map (zcv ad) := by
  unfold zpush at h
  split at h <;> first | (cases h; rfl) | (cases h)
/-- a method's body, from any of its places -/
theorem z_body {y : ZMeth} {r : ZR} (hdec : ∀ e ∈ zmC y, decode cc e.1 = .ok e.2 ∧ zlen e.2.1 e.2.2 = true) (A : zA p s m args c cc (zmO y)) (hml : c.maxLocals = zmL y) (hK : zK ad D cA s) (hF0 : zF0 ad Bz X s s.heap) (hR : d + 8 + 1 ≤ R.frames ∧ 8 + 51 + (60 * d + 600) ≤ R.locals) (hcs : cells ≤ R.cells ∧ slots ≤ R.slots)
    (IH : ∀ (w : ZMeth) (a : List Value) (M : ZM) (r : ZR), zEv d w a M = some r → zOK w → (a.map fun v => v.category).sum ≤ zmL w → zMet l ad Bz cA D X d w a M r)
    (hend : ∀ (pc : Nat) (i : Instr) (len : Nat) (L : Array Slot) (st : List Value) (H : Heap) (locs : List Loc), decode cc pc = .ok (i, len) → zlen i len = true → zends y i st = some r.1 → zWd ad Bz cA D X r.2 H → va_S (zAf Bz) s.heap H locs → W p l e R s m args below meth c H locs cells slots Q (F0 m pc L (st.map (zcv ad)))) :
    ∀ (n pc : Nat) (ls : ZL) (st : List Value) (M : ZM) (L : Array Slot) (H : Heap) (locs : List Loc), zexec (zEv d) y n (pc, ls, st, M) = some r → zWd ad Bz cA D X M H → va_S (zAf Bz) s.heap H locs → zLR ad (zmL y) ls L → W p l e R s m args below meth c H locs cells slots Q (F0 m pc L (st.map (zcv ad))) := by
  intro n
  induction n with
  | zero => intro pc ls st M L H locs h; simp [zexec] at h
  | succ n ih =>
    intro pc ls st M L H locs h hH hS hl
    simp only [zexec] at h
    have A' := A
    obtain ⟨hx, hb, ho, hown, hts⟩ := A'
    unfold zstep at h
    cases hf : zfind (zmC y) pc with
    | none => simp only [hf] at h; cases h
    | some il =>
      obtain ⟨i, len⟩ := il
      simp only [hf] at h
      obtain ⟨hdg, hlen⟩ := hdec _ (zfind_mem hf)
      dsimp only at hdg hlen
      unfold zins1 at h
      dsimp only at h
      cases h1 : zpure (zmO y) (zmL y) i len pc ls st with
      | some x =>
        obtain ⟨pc', ls', st'⟩ := x
        simp only [h1] at h
        exact z_pure hx hb hown (fun k v hk => hts _ (zI_mem ho hk)) (fun k v hk => hts _ (zJ_mem ho hk)) hl (fun L2 hl2 => ih _ _ _ _ _ _ _ h hH hS hl2) hdg hlen h1
      | none =>
        simp only [h1] at h
        cases h2 : zheap (zmO y) i len pc ls st M with
        | some x =>
          obtain ⟨pc', ls', st', M'⟩ := x
          simp only [h2] at h
          obtain rfl : ls' = ls := zheap_ls h2
          exact zs_heap A hK hF0 hH hS hdg hlen h2 (fun H1 locs1 g1 g2 => ih _ _ _ _ _ _ _ h g1 g2 hl)
        | none =>
          simp only [h2] at h
          cases h3 : zends y i st with
          | some v =>
            simp only [h3] at h
            have hr : (v, M) = r := by injection h
            subst hr
            exact hend pc i len L st H locs hdg hlen h3 hH hS
          | none =>
            simp only [h3] at h
            cases h4 : zbuilt (zmO y) i len pc ls st M with
            | some x =>
              obtain ⟨pc', ls', st', M'⟩ := x
              simp only [h4] at h
              refine zs_copy (ls := ls) A hml hK hH hS ⟨by omega, by omega⟩ hl.1 hdg hlen h4 (fun hls H1 locs1 g1 g2 => ?_)
              dsimp only at hls g1 ⊢
              subst hls
              exact ih _ _ _ _ _ _ _ h g1 g2 hl
            | none =>
              simp only [h4] at h
              cases h5 : zcallee (zmO y) i st with
              | none => simp only [h5] at h; cases h
              | some z =>
                obtain ⟨w, a, st'⟩ := z
                simp only [h5] at h
                cases h6 : zEv d w a M with
                | none => simp only [h6] at h; cases h
                | some rr =>
                  obtain ⟨v, M'⟩ := rr
                  simp only [h6] at h
                  cases h7 : zpush w v st' with
                  | none => simp only [h7] at h; cases h
                  | some st2 =>
                    simp only [h7] at h
                    refine zs_call (r := (v, M')) A hml hK hF0 hH hS hR hcs (fun g1 g2 => IH w a M _ h6 g1 g2) hl.1 hdg hlen h5 (fun H1 locs1 g1 g2 => ?_)
                    rw [← zpush_app h7]
                    exact ih _ _ _ _ _ _ _ h g1 g2 hl
end ZCALL
theorem zcode_ne : (lw_tbl.all fun w => match w with | .code y _ _ _ => y.cls != "" | _ => true) = true := by decide +kernel
theorem zcn_out {y : ZMeth} (h : 18 ≤ zmO y) (hy : zOK y) : ¬ (zmN y).cls = zcn (zmO y) := by
  have h1 : zcn (zmO y) = "" := by
    unfold zcn
    rw [List.getD_eq_getElem?_getD, List.getElem?_eq_none (by simpa using h)]
    rfl
  rw [h1]
  have h2 := List.all_eq_true.mp zcode_ne _ (List.mem_filter.mp hy.2.1.1).1
  simpa using h2
/-- what the small machine says of a method is so -/
theorem zSound (l : Launch) (ad : Nat → Nat) (Bz : Nat) (cA : Nat → ClassId) (D : va_G) (X : ZX) : ∀ (d : Nat) (y : ZMeth) (a : List Value) (M : ZM) (r : ZR), zEv d y a M = some r → zOK y → (a.map fun v => v.category).sum ≤ zmL y → zMet l ad Bz cA D X d y a M r := by
  intro d
  induction d with
  | zero => intro y a M r h; simp [zEv] at h
  | succ d IH =>
    intro y a M r h hy hfit
    rw [zEv_succ] at h
    obtain ⟨n, hn⟩ := zEx0_iff.mp h
    obtain ⟨hdec, -, ⟨hcls, hpl, -, -, hrk, -⟩, -, -⟩ := id hy
    refine va_MetF (cc := zmB y) (maxL := zmL y) (ret := zmR y) hpl rfl ?_
    intro p e s m args below meth c s₁ B hml hv
    obtain ⟨rfl, hK, hF0, hH⟩ := hv
    have hx := B.exec
    have hb := B.bytes
    have hr := B.returns
    have hts := atoms_spec (ws := zTs y) B.pre
    have hown : s.vm.findClass (zcn (zmO y)) = some m.cls := by
      rw [← hcls]
      exact findClass_of_methodNamed B.named
    have hlocks := B.notSynchronized
    have hS : va_S (zAf Bz) s.heap s.heap [] := va_S.rf
    have hl := lv_entry (a.map (zcv ad)) (n := zmL y) (by rw [zsl_len, zcat_map]; exact hfit)
    rw [lg_entry_eq]
    generalize (lg_sl (a.map (zcv ad)) ++ List.replicate (zmL y - (lg_sl (a.map (zcv ad))).length) Slot.unset).toArray = L at hl ⊢
    rw [zargs_map] at hl
    have ho : zmO y < 18 := by
      have h1 := hcls
      by_cases h : zmO y < 18
      · exact h
      · exact absurd h1 (zcn_out (by omega) hy)
    exact z_body (R := zRm (d + 1)) (cells := 0) (slots := 0) (y := y) (r := r) hdec ⟨hx, hb, ho, hown, fun w hw => hts w (List.mem_cons_of_mem _ hw)⟩ hml hK hF0 ⟨by show d + 8 + 1 ≤ d + 1 + 8; omega, by show 8 + 51 + (60 * d + 600) ≤ 60 * (d + 1) + 600; omega⟩ ⟨Nat.le_refl 0, Nat.le_refl 0⟩ IH
      (fun pc i len L st H locs hdg hlen hz hH hS => zs_ret hx hb hr hrk hlocks hH hS hdg hlen hz) n 0 _ [] M L s.heap [] hn hH hS hl
