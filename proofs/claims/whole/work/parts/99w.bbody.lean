/-! THE BEGINNING, 6: soundness of a whole constructor -/
def zbR (d : Nat) (b b1 : ZB) : Room := { frames := d + 8, cells := b1.1 - b.1, slots := zss b1.1 - zss b.1, locals := 60 * d + 600 }
def zbB (ad : Nat → Nat) (Bz : Nat) (cA : Nat → ClassId) (D : va_G) (b : ZB) : State → Prop := fun U => (zK ad D cA U ∧ zKe cA U) ∧ zcW ad Bz cA D b U.heap
def zbQ (ad : Nat → Nat) (Bz : Nat) (cA : Nat → ClassId) (D : va_G) (b : ZB) : Array Value → State → Outcome → State → Prop := fun _ u oc t => (oc = .returned none ∧ zcW ad Bz cA D b t.heap) ∧ va_F (zAf Bz) u t
def zMb (l : Launch) (ad : Nat → Nat) (Bz : Nat) (cA : Nat → ClassId) (D : va_G) (d : Nat) (y : ZMeth) (q : Nat) (b b1 : ZB) : Prop := Met l (zmN y) (zTs y) (zbR d b b1) (va_Pc [.ref (ad q)] (zbB ad Bz cA D b)) (zbQ ad Bz cA D b1) (b1.1 - b.1) (zss b1.1 - zss b.1) (zAf Bz)
theorem zNw_lt {o k : Nat} {v : Nat × Nat} (h : zNw o k = some v) : o < 15 := by
  by_cases ho : o < 15
  · exact ho
  · have e : zNl o = [] := by
      unfold zNl
      rw [List.getD_eq_getElem?_getD, List.getElem?_eq_none (by show 15 ≤ o; omega)]
      rfl
    unfold zNw at h
    rw [e] at h
    cases h
theorem zinit_all : ∀ o, o < 18 → ∀ e ∈ zMl o, zmS e.2.1 = 2 → (zmR e.2.1 = none ∧ (zmN e.2.1).name = "<init>") ∧ lw_tbl[([37, 254, 375, 175, 168, 310, 31, 241, 362, 23, 1344] : List Nat).getD (zmO e.2.1) 0 + 166]? = some (Jvm.Cond.instanceMethod (zmN e.2.1)) := by decide +kernel
theorem zobj_all : ∀ o, o < 18 → ∀ e ∈ zBl o, e.2 = 4 → lw_tbl[([39, 256, 377, 177, 170, 312, 33, 243, 364, 25, 1346] : List Nat).getD o 0 + 166]? = some (Jvm.Cond.methodLink (zcn o) e.1 Lib.objectInit) := by decide +kernel
section QBV
variable {p : Program} {l : Launch} {e : Env} {R : Room} {s : State} {m : MethodId} {args : Array Value} {below : List Frame} {meth : Method} {c : Code} {H : Heap} {locs : List Loc} {cells slots : Nat} {Q : State → Prop}
variable {cc : ByteArray} {pc len d nL : Nat} {L : Array Slot} {ad : Nat → Nat} {o Bz : Nat} {ls : ZL} {st : List Value} {b : ZB} {x : ZBS} {D : va_G} {cA : Nat → ClassId} {i : Instr}
theorem zb_bn (A : zA p s m args c cc o) (hAd : zAd ad Bz) (hK : zK ad D cA s) (hE : zKe cA s) (hin : o ≠ 14 → meth.name = "<init>") (hW : zbH ad Bz cA D b s H locs cells) (hdg : decode cc pc = .ok (i, len)) (hlen : zlen i len = true) (hz : zbn i o len pc ls st b = some x) (hcs : cells + (x.2.2.2.1 - b.1) ≤ R.cells ∧ slots + (zss x.2.2.2.1 - zss b.1) ≤ R.slots)
    (kk : x.2.1 = ls → ∀ H1 locs1, zbH ad Bz cA D x.2.2.2 s H1 locs1 (cells + (x.2.2.2.1 - b.1)) → W p l e R s m args below meth c H1 locs1 (cells + (x.2.2.2.1 - b.1)) (slots + (zss x.2.2.2.1 - zss b.1)) Q (F0 m x.1 L (x.2.2.1.map (zcv ad)))) : W p l e R s m args below meth c H locs cells slots Q (F0 m pc L (st.map (zcv ad))) := by
  have e1 : b.1 + 1 - b.1 = 1 := Nat.add_sub_cancel_left _ _
  have e2 : zss (b.1 + 1) - zss b.1 = zsz (64 + b.1) := Nat.add_sub_cancel_left _ _
  cases i
  case new k =>
    obtain rfl : len = 3 := Nat.eq_of_beq_eq_true hlen
    simp only [zbn] at hz
    split at hz
    · rename_i ci ti hN
      split at hz
      · rename_i hc
        cases hz
        dsimp only at kk hcs
        rw [e1, e2] at kk hcs
        exact zb_new A hAd hK hW (zNw_lt hN) hN hc.1 hc.2 hdg hcs fun H1 g => kk rfl H1 locs g
      · cases hz
    · cases hz
  case newarray t =>
    obtain rfl : len = 2 := Nat.eq_of_beq_eq_true hlen
    simp only [zbn] at hz
    split at hz
    · rename_i n r
      split at hz
      · rename_i hc
        cases hz
        dsimp only at kk hcs
        rw [e1, e2] at kk hcs
        exact zb_newa A hAd hK hW hc.1 hc.2.1 hc.2.2.1 hc.2.2.2 hdg hcs fun H1 g => kk rfl H1 locs g
      · cases hz
    · cases hz
  case anewarray k =>
    obtain rfl : len = 3 := Nat.eq_of_beq_eq_true hlen
    simp only [zbn] at hz
    split at hz
    · rename_i ci ti n r hN
      by_cases hc : (ci = 0 ∨ ci = 3) ∧ 0 ≤ n.toInt ∧ (zkd (64 + b.1)).1 = 5 ∧ zrc (zkd (64 + b.1)).2 = (if ci = 0 then 6 else 7) ∧ (zra (zkd (64 + b.1)).2).1 = n.toNatClampNeg ∧ n.toNatClampNeg ≤ 1000
      · rw [if_pos hc] at hz
        cases hz
        dsimp only at kk hcs
        rw [e1, e2] at kk hcs
        exact zb_anew A hAd hK hE hW (zNw_lt hN) hN hc.1 hc.2.1 hc.2.2.1 hc.2.2.2.1 hc.2.2.2.2.1 hc.2.2.2.2.2 hdg hcs fun H1 g => kk rfl H1 locs g
      · rw [if_neg hc] at hz
        cases hz
    · cases hz
  case multianewarray k dm =>
    obtain rfl : len = 4 := Nat.eq_of_beq_eq_true hlen
    by_cases hdm : dm = 2
    · subst hdm
      simp only [zbn] at hz
      split at hz
      · rename_i ti mm n r hN
        split at hz
        · rename_i hc
          cases hz
          dsimp only at kk hcs
          rw [Nat.add_sub_cancel_left] at kk hcs
          exact zb_mna A hAd hK hE hW (zNw_lt hN) hN hc.1 hc.2.1 hc.2.2.1 hc.2.2.2.1 hc.2.2.2.2.1 hc.2.2.2.2.2.1 hc.2.2.2.2.2.2.1 hc.2.2.2.2.2.2.2 hdg hcs fun H1 g => kk rfl H1 locs g
        · cases hz
      · cases hz
    · unfold zbn at hz
      split at hz <;> first | (rename_i e9; cases e9; done) | (rename_i e9; injection e9; omega) | (cases hz; done) | (exfalso; simp_all; done)
  case putfield k =>
    obtain rfl : len = 3 := Nat.eq_of_beq_eq_true hlen
    simp only [zbn] at hz
    split at hz
    · rename_i ci f t v q r hF
      split at hz
      · rename_i hc
        obtain ⟨hkd, hco, hq⟩ := hc
        obtain ⟨i9, g1, g2, g3, g4, g5, g6⟩ := zF_mem A.2.2.1 hF
        dsimp only at g2 g3 g5
        have hnm : meth.name = "<init>" := hin (by omega)
        split at hz
        · rename_i z
          cases hz
          dsimp only at kk hcs
          rw [Nat.sub_self, Nat.sub_self] at kk hcs
          have hty := (zyt_ok ci g2 f g3).1.1 g5
          exact zb_putf (v := .int z) (z := z.toInt) A hAd hK (n := b.1) (w := b.2) hW hnm hF hkd hco hq (by unfold zfW; rw [zwl_eq]; simp) (by rw [hty]; exact ⟨rfl, rfl⟩) hdg fun H1 locs1 g => kk rfl H1 locs1 g
        · rename_i t' a
          split at hz
          · rename_i hc2
            cases hz
            dsimp only at kk hcs
            rw [Nat.sub_self, Nat.sub_self] at kk hcs
            have hd5 := zft_ok ci g2 f g3
            have ht3 : (zft ci).getD f 0 = t' + 3 := by rw [hd5] at g5; exact Option.some.inj g5
            exact zb_putf (v := .ref a) (z := (a : Int)) A hAd hK (n := b.1) (w := b.2) hW hnm hF hkd hco hq (by unfold zfW; simp only [zwl_eq]; rfl) (ref_nf (zyr_ok ci g2 f g3 (by omega))) hdg fun H1 locs1 g => kk rfl H1 locs1 g
          · cases hz
        · cases hz
      · cases hz
    · cases hz
  case getfield k =>
    obtain rfl : len = 3 := Nat.eq_of_beq_eq_true hlen
    simp only [zbn] at hz
    split at hz
    · rename_i ci f t q r hF
      split at hz
      · rename_i hc
        split at hz
        · rename_i z hzw
          cases hz
          dsimp only at kk hcs
          rw [Nat.sub_self, Nat.sub_self] at kk hcs
          exact zb_getf A hK hW hF hc.1 ⟨hc.2.1, hc.2.2.1⟩ hc.2.2.2 hzw hdg (kk rfl H locs hW)
        · cases hz
      · cases hz
    · cases hz
  case aastore =>
    obtain rfl : len = 1 := Nat.eq_of_beq_eq_true hlen
    simp only [zbn] at hz
    split at hz
    · rename_i v ii q r
      split at hz
      · rename_i hc
        cases hz
        dsimp only at kk hcs
        rw [Nat.sub_self, Nat.sub_self] at kk hcs
        exact zb_aast A hAd hK (n := b.1) (w := b.2) hW hc.1 hc.2.1 hc.2.2.1 hc.2.2.2.1 hc.2.2.2.2 hdg fun H1 locs1 g => kk rfl H1 locs1 g
      · cases hz
    · cases hz
  all_goals (simp only [zbn] at hz; cases hz)
theorem zb_call {b1 : ZB} {rest st0 : List Value} {a : Array Value} {mc ms : Nat} (hr : va_Run p l e R s m args below meth c H locs cells slots mc ms (F0 m pc L st0) rest (zbQ ad Bz cA D b1 a) (zAf Bz)) (hS : va_S (zAf Bz) s.heap H locs)
    (kk : ∀ (H1 : Heap) (locs1 : List Loc), zcW ad Bz cA D b1 H1 → va_S (zAf Bz) s.heap H1 locs1 → W p l e R s m args below meth c H1 locs1 (cells + mc) (slots + ms) Q (F0 m (pc + 3) L rest)) : W p l e R s m args below meth c H locs cells slots Q (F0 m pc L st0) := by
  intro T hT Y
  obtain ⟨v, st₀, t, T', L', h0, Y', hL, e1, e2, ⟨⟨hv, hw⟩, hz, hk⟩, st⟩ := hr T hT Y
  have hv : v = none := by
    injection hv
  subst hv
  rw [h0] at hz hk
  obtain ⟨t2, a1, b1⟩ := kk T'.heap (locs ++ L') (by rw [e1]; exact hw)
    ⟨Nat.le_trans hS.1 (by rw [e1]; exact hz), fun q h1 h2 => by rw [e1, hk q (Nat.lt_of_lt_of_le h1 hS.1) h2]; exact hS.2.1 q h1 h2, fun q hq => by
      rcases List.mem_append.mp hq with h | h
      · exact hS.2.2 q h
      · exact hL q h⟩ T' rfl Y'
  exact ⟨t2, st t2 a1, b1⟩
/-- a constructor called -/
theorem zb_init {w : ZMeth} {nst k q : Nat} {b1 : ZB} {r : List Value} (A : zA p s m args c cc o) (hml : c.maxLocals = nL) (hK : zK ad D cA s) (hE : zKe cA s) (hW : zbH ad Bz cA D b s H locs cells) (hR : d + 8 + 1 ≤ R.frames ∧ 8 + 51 + (60 * d + 600) ≤ R.locals) (hM : zMb l ad Bz cA D d w q b b1) (hMk : zM o k = some (w, nst)) (hS2 : zmS w = 2) (hA1 : zmA w = 1) (hrest : zrest r = true) (hL : L.size = nL) (hle : b.1 ≤ b1.1) (hdg : decode cc pc = .ok (.invokespecial k, 3)) (hcs : cells + (b1.1 - b.1) ≤ R.cells ∧ slots + (zss b1.1 - zss b.1) ≤ R.slots)
    (kk : ∀ H1 locs1, zbH ad Bz cA D b1 s H1 locs1 (cells + (b1.1 - b.1)) → W p l e R s m args below meth c H1 locs1 (cells + (b1.1 - b.1)) (slots + (zss b1.1 - zss b.1)) Q (F0 m (pc + 3) L (r.map (zcv ad)))) : W p l e R s m args below meth c H locs cells slots Q (F0 m pc L (.ref (ad q) :: r.map (zcv ad))) := by
  obtain ⟨hx, hb, ho, hown, hts⟩ := A
  have hy := zM_ok ho hMk
  obtain ⟨iw, hw⟩ := zM_mem ho hMk
  obtain ⟨⟨hr0, hnm⟩, him⟩ := zinit_all o ho _ (zlk_mem hMk) hS2
  dsimp only at hr0 hnm him
  obtain ⟨hO1, ⟨hcode, hini⟩, ⟨hcls, -, hmh, hpd, -, hL40⟩, -, -⟩ := id hy
  rw [if_neg (by rw [hS2]; decide), hA1] at hpd
  have hws : zTs w = Jvm.Cond.code (zmN w) (zmB w) (zmL w) none :: lw_good := by
    unfold zTs
    rw [hr0]
  have hPre : PreS s H (va_Pc [.ref (ad q)] (zbB ad Bz cA D b)) (.ref (ad q) :: []) := ⟨fun a U g mk h => ⟨h.1, ⟨zK.same (s := U) rfl h.2.1.1, zKe.moved (u := U) (Vm.Alike.refl U.vm) h.2.1.2⟩, h.2.2⟩, fun U hU hWm => ⟨rfl, ⟨hK.warm hWm, hE.moved hWm.alike⟩, by rw [hU]; exact hW.1⟩⟩
  have hRR : (zbR d b b1).frames + 1 ≤ R.frames ∧ 8 + (zmL w + 11) + (zbR d b b1).locals ≤ R.locals := ⟨hR.1, zRR hR.2 hL40⟩
  have go : ∀ H1 locs1, zcW ad Bz cA D b1 H1 → va_S (zAf Bz) s.heap H1 locs1 → W p l e R s m args below meth c H1 locs1 (cells + (b1.1 - b.1)) (slots + (zss b1.1 - zss b.1)) Q (F0 m (pc + 3) L (r.map (zcv ad))) := fun H1 locs1 g1 g2 => kk H1 locs1 ⟨g1, g2, by have := hW.2.2; omega⟩
  match nst, hw with
  | 0, hw =>
    have hw' : Jvm.Cond.methodLink (zcn o) k (zmN w) ∈ lw_good := zgw iw hw rfl
    exact zb_call (va_runI (As := []) (rest := r.map (zcv ad)) ⟨hx, hb, hml, hown, hts⟩ hM (cwI 0 hts (zTs_good hy) hws rfl rfl (hts _ hini) (hts _ hw') (hts _ (zgw _ him rfl)) hnm ⟨hmh.1, hmh.2, hpd⟩ hRR) hPre rfl rfl hL rfl (lv_room (zrest_le hrest)) hdg hcs) hW.2.1 go
  | nst + 1, hw =>
    have hw' := hK.2.1 o k (zmN w) iw ho hw
    exact zb_call (va_runIN (host := "CrossSums") (As := []) (rest := r.map (zcv ad)) ⟨hx, hb, hml, hown, hts⟩ hM ⟨va_cnB 0 hts (zTs_good hy) hws rfl rfl hw' (hts _ hini) ⟨hmh.1, hmh.2, hpd⟩ hRR, hnm, hts _ (zgw _ him rfl)⟩ hPre rfl rfl hL rfl (lv_room (zrest_le hrest)) hdg hcs) hW.2.1 go
end QBV
