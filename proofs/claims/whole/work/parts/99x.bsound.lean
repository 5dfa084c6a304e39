/-! THE BEGINNING, 7: soundness of the constructors' machine -/
theorem zbn_mono {i : Instr} {o len pc : Nat} {ls : ZL} {st : List Value} {b : ZB} {x : ZBS} (h : zbn i o len pc ls st b = some x) : b.1 ≤ x.2.2.2.1 ∧ x.2.1 = ls := by
  unfold zbn at h
  split at h <;> (repeat' split at h) <;> first | (cases h; done) | (cases h; exact ⟨by simp, rfl⟩) | (cases h; exact ⟨Nat.le_refl _, rfl⟩) | (cases h; exact ⟨by show b.1 ≤ b.1 + _; omega, rfl⟩)
theorem zbs_mono {call : ZMeth → Nat → ZB → Option ZB} {y : ZMeth} {s0 s1 : ZBS} (h : zbs call y s0 = some (.inl s1)) : s0.2.2.2.1 ≤ s1.2.2.2.1 := by
  unfold zbs at h
  cases hf : zfind (zmC y) s0.1 with
  | none => simp only [hf] at h; cases h
  | some il =>
    obtain ⟨i, len⟩ := il
    simp only [hf] at h
    cases h1 : zpure (zmO y) (zmL y) i len s0.1 s0.2.1 s0.2.2.1 with
    | some x =>
      obtain ⟨a, a2, a3⟩ := x
      simp only [h1] at h
      cases h
      exact Nat.le_refl _
    | none =>
      simp only [h1] at h
      cases h2 : zbn i (zmO y) len s0.1 s0.2.1 s0.2.2.1 s0.2.2.2 with
      | some x =>
        simp only [h2] at h
        cases h
        exact (zbn_mono h2).1
      | none =>
        simp only [h2] at h
        split at h
        · cases h
        · split at h
          · split at h
            · cases h
              exact Nat.le_refl _
            · split at h
              · split at h
                · split at h
                  · split at h
                    · rename_i hle
                      cases h
                      exact hle
                    · cases h
                  · cases h
                · cases h
              · cases h
          · cases h
        · cases h
theorem zbs_end {call : ZMeth → Nat → ZB → Option ZB} {y : ZMeth} {s0 : ZBS} {b : ZB} (h : zbs call y s0 = some (.inr b)) : b = s0.2.2.2 ∧ s0.2.2.1 = [] ∧ ∃ len, zfind (zmC y) s0.1 = some (.return_, len) := by
  unfold zbs at h
  cases hf : zfind (zmC y) s0.1 with
  | none => simp only [hf] at h; cases h
  | some il =>
    obtain ⟨i, len⟩ := il
    simp only [hf] at h
    cases h1 : zpure (zmO y) (zmL y) i len s0.1 s0.2.1 s0.2.2.1 with
    | some x =>
      obtain ⟨a, a2, a3⟩ := x
      simp only [h1] at h
      cases h
    | none =>
      simp only [h1] at h
      cases h2 : zbn i (zmO y) len s0.1 s0.2.1 s0.2.2.1 s0.2.2.2 with
      | some x =>
        simp only [h2] at h
        cases h
      | none =>
        simp only [h2] at h
        split at h
        · rename_i hst
          cases h
          exact ⟨rfl, hst, len, rfl⟩
        · split at h
          · split at h
            · cases h
            · split at h
              · split at h
                · split at h
                  · split at h
                    · cases h
                    · cases h
                  · cases h
                · cases h
              · cases h
          · cases h
        · cases h
theorem zbx_mono {call : ZMeth → Nat → ZB → Option ZB} {y : ZMeth} {b1 : ZB} : ∀ {n : Nat} {s0 : ZBS}, zbx call y n s0 = some b1 → s0.2.2.2.1 ≤ b1.1 := by
  intro n
  induction n with
  | zero => intro s0 h; cases h
  | succ n ih =>
    intro s0 h
    unfold zbx at h
    split at h
    · rename_i t ht
      exact Nat.le_trans (zbs_mono ht) (ih h)
    · rename_i t ht
      cases h
      rw [(zbs_end ht).1]
      exact Nat.le_refl _
    · cases h
section QBX
variable {p : Program} {l : Launch} {e : Env} {R : Room} {s : State} {m : MethodId} {args : Array Value} {below : List Frame} {meth : Method} {c : Code} {H : Heap} {locs : List Loc} {cells slots : Nat} {Q : State → Prop}
variable {cc : ByteArray} {d : Nat} {L : Array Slot} {ad : Nat → Nat} {Bz : Nat} {D : va_G} {cA : Nat → ClassId} {y : ZMeth}
theorem zb_step (hdec : ∀ e ∈ zmC y, decode cc e.1 = .ok e.2 ∧ zlen e.2.1 e.2.2 = true) (A : zA p s m args c cc (zmO y)) (hml : c.maxLocals = zmL y) (hAd : zAd ad Bz) (hK : zK ad D cA s) (hE : zKe cA s) (hin : zmO y ≠ 14 → meth.name = "<init>") (hR : d + 8 + 1 ≤ R.frames ∧ 8 + 51 + (60 * d + 600) ≤ R.locals)
    (IH : ∀ (w : ZMeth) (q : Nat) (b b1 : ZB), zbv d w q b = some b1 → zOK w → zmS w = 2 → zmL w ≠ 0 → zmO w < 11 → zmR w = none ∧ (zmN w).name = "<init>" → zMb l ad Bz cA D d w q b b1) {s0 s1 : ZBS} (h : zbs (zbv d) y s0 = some (.inl s1)) (hW : zbH ad Bz cA D s0.2.2.2 s H locs cells) (hl : zLR ad (zmL y) s0.2.1 L) (hcs : cells + (s1.2.2.2.1 - s0.2.2.2.1) ≤ R.cells ∧ slots + (zss s1.2.2.2.1 - zss s0.2.2.2.1) ≤ R.slots)
    (kk : ∀ H1 locs1 L1, zbH ad Bz cA D s1.2.2.2 s H1 locs1 (cells + (s1.2.2.2.1 - s0.2.2.2.1)) → zLR ad (zmL y) s1.2.1 L1 → W p l e R s m args below meth c H1 locs1 (cells + (s1.2.2.2.1 - s0.2.2.2.1)) (slots + (zss s1.2.2.2.1 - zss s0.2.2.2.1)) Q (F0 m s1.1 L1 (s1.2.2.1.map (zcv ad)))) : W p l e R s m args below meth c H locs cells slots Q (F0 m s0.1 L (s0.2.2.1.map (zcv ad))) := by
  have A' := A
  obtain ⟨hx, hb, ho, hown, hts⟩ := A'
  obtain ⟨pc, ls, st, b⟩ := s0
  dsimp only at hW hl hcs kk ⊢
  unfold zbs at h
  dsimp only at h
  cases hf : zfind (zmC y) pc with
  | none => simp only [hf] at h; cases h
  | some il =>
    obtain ⟨i, len⟩ := il
    simp only [hf] at h
    obtain ⟨hdg, hlen⟩ := hdec _ (zfind_mem hf)
    dsimp only at hdg hlen
    cases h1 : zpure (zmO y) (zmL y) i len pc ls st with
    | some x =>
      obtain ⟨pc', ls', st'⟩ := x
      simp only [h1] at h
      cases h
      dsimp only at kk
      rw [Nat.sub_self, Nat.sub_self] at kk
      exact z_pure hx hb hown (fun k v hk => hts _ (zI_mem ho hk)) (fun k v hk => hts _ (zJ_mem ho hk)) hl (fun L2 hl2 => kk H locs L2 hW hl2) hdg hlen h1
    | none =>
      simp only [h1] at h
      cases h2 : zbn i (zmO y) len pc ls st b with
      | some x =>
        simp only [h2] at h
        cases h
        exact zb_bn A hAd hK hE hin hW hdg hlen h2 hcs fun e9 H1 locs1 g => kk H1 locs1 L g (by rw [e9]; exact hl)
      | none =>
        simp only [h2] at h
        split at h
        · cases h
        · rename_i k q r
          obtain rfl : len = 3 := Nat.eq_of_beq_eq_true hlen
          split at h
          · rename_i hc
            split at h
            · rename_i hB
              cases h
              dsimp only at kk
              rw [Nat.sub_self, Nat.sub_self] at kk
              have hob := zobj_all _ ho _ (zlk_mem hB) rfl
              refine W.objInit hx hb hown (hts _ (zgw _ hob rfl)) (hts _ (zgw 192 (by decide +kernel) rfl)) (hts _ (zgw 193 (by decide +kernel) rfl)) rfl (by rw [hml]; exact hl.1) rfl hdg (by omega) (by have := zrest_le (ad := ad) hc.1; show 2 * 0 + _ + 12 ≤ R.locals; omega) ?_
              exact kk H locs L hW hl
            · split at h
              · rename_i w nst hMk
                split at h
                · rename_i hw
                  split at h
                  · rename_i b1 hcall
                    split at h
                    · rename_i hle
                      cases h
                      dsimp only at kk hcs
                      have hr0 := (zinit_all _ ho _ (zlk_mem hMk) hw.1).1
                      exact zb_init A hml hK hE hW hR (IH w q b b1 hcall (zM_ok ho hMk) hw.1 hw.2.2.2.2 hw.2.2.1 hr0) hMk hw.1 hw.2.1 hc.1 hl.1 hle hdg hcs fun H1 locs1 g => kk H1 locs1 L g hl
                    · cases h
                  · cases h
                · cases h
              · cases h
          · cases h
        · cases h
/-- a constructor's body, from any of its places -/
theorem zb_run {b1 : ZB} {mc ms : Nat} (hdec : ∀ e ∈ zmC y, decode cc e.1 = .ok e.2 ∧ zlen e.2.1 e.2.2 = true) (A : zA p s m args c cc (zmO y)) (hml : c.maxLocals = zmL y) (hr : meth.sig.returnType = none) (hlocks : meth.locks = false) (hAd : zAd ad Bz) (hK : zK ad D cA s) (hE : zKe cA s) (hin : zmO y ≠ 14 → meth.name = "<init>") (hR : d + 8 + 1 ≤ R.frames ∧ 8 + 51 + (60 * d + 600) ≤ R.locals) (hRc : mc ≤ R.cells ∧ ms ≤ R.slots)
    (IH : ∀ (w : ZMeth) (q : Nat) (b b1 : ZB), zbv d w q b = some b1 → zOK w → zmS w = 2 → zmL w ≠ 0 → zmO w < 11 → zmR w = none ∧ (zmN w).name = "<init>" → zMb l ad Bz cA D d w q b b1) :
    ∀ (n : Nat) (s0 : ZBS) (L : Array Slot) (H : Heap) (locs : List Loc) (cells slots : Nat), zbx (zbv d) y n s0 = some b1 → zbH ad Bz cA D s0.2.2.2 s H locs cells → zLR ad (zmL y) s0.2.1 L → cells + (b1.1 - s0.2.2.2.1) = mc → slots + (zss b1.1 - zss s0.2.2.2.1) = ms → W p l e R s m args below meth c H locs cells slots (MQ below (zbQ ad Bz cA D b1) args s mc ms (zAf Bz)) (F0 m s0.1 L (s0.2.2.1.map (zcv ad))) := by
  intro n
  induction n with
  | zero => intro s0 L H locs cells slots h; cases h
  | succ n ih =>
    intro s0 L H locs cells slots h hW hl hmc hms
    unfold zbx at h
    split at h
    · rename_i t ht
      have h1 := zbs_mono ht
      have h2 := zbx_mono h
      have h3 := zss_le h1
      have h4 := zss_le h2
      exact zb_step hdec A hml hAd hK hE hin hR IH ht hW hl ⟨by omega, by omega⟩ fun H1 locs1 L1 g g2 => ih t L1 H1 locs1 _ _ h g g2 (by omega) (by omega)
    · rename_i t ht
      cases h
      obtain ⟨e1, e2, len, e3⟩ := zbs_end ht
      subst e1
      obtain ⟨hdg, hlen⟩ := hdec _ (zfind_mem e3)
      dsimp only at hdg hlen
      obtain rfl : len = 1 := Nat.eq_of_beq_eq_true hlen
      rw [Nat.sub_self] at hmc hms
      have hmc : cells = mc := hmc
      have hms : slots = ms := hms
      subst hmc hms
      rw [e2]
      exact W.vret A.1 A.2.1 hr (fun t ht _ => ⟨⟨rfl, by rw [ht]; exact hW.1⟩, hW.2.1.F ht⟩) hW.2.1.2.2 hdg hlocks
    · cases h
end QBX
/-- what the constructors' machine says of a constructor is so -/
theorem zbSound (l : Launch) (ad : Nat → Nat) (Bz : Nat) (cA : Nat → ClassId) (D : va_G) (hAd : zAd ad Bz) : ∀ (d : Nat) (y : ZMeth) (q : Nat) (b b1 : ZB), zbv d y q b = some b1 → zOK y → zmS y = 2 → zmL y ≠ 0 → zmO y < 11 → zmR y = none ∧ (zmN y).name = "<init>" → zMb l ad Bz cA D d y q b b1 := by
  intro d
  induction d with
  | zero => intro y q b b1 h; cases h
  | succ d IH =>
    intro y q b b1 h hy hS2 hL0 hO hr0
    have h : zbx (zbv d) y 400 (0, [(0, .ref q)], [], b) = some b1 := h
    obtain ⟨hdec, -, ⟨hcls, hpl, -, -, hrk, -⟩, -, -⟩ := id hy
    refine va_MetF (cc := zmB y) (maxL := zmL y) (ret := zmR y) hpl rfl ?_
    intro p e s m args below meth c s₁ B hml hv
    obtain ⟨rfl, ⟨hK, hE⟩, hH⟩ := hv
    have hx := B.exec
    have hb := B.bytes
    have hr := B.returns
    have hts := atoms_spec (ws := zTs y) B.pre
    have hown : s.vm.findClass (zcn (zmO y)) = some m.cls := by
      rw [← hcls]
      exact findClass_of_methodNamed B.named
    have hnm : meth.name = (zmN y).name := (name_of_methodNamed B.named B.method).1
    have hlocks := B.notSynchronized
    have hS : va_S (zAf Bz) s.heap s.heap [] := va_S.rf
    have hl := lv_entry ([.ref (ad q)] : List Value) (n := zmL y) (by show 1 ≤ zmL y; omega)
    rw [lg_entry_eq]
    generalize (lg_sl ([.ref (ad q)] : List Value) ++ List.replicate (zmL y - (lg_sl ([.ref (ad q)] : List Value)).length) Slot.unset).toArray = L at hl ⊢
    have hle := zbx_mono h
    exact zb_run (R := zbR (d + 1) b b1) (y := y) (mc := b1.1 - b.1) (ms := zss b1.1 - zss b.1) hdec ⟨hx, hb, by omega, hown, fun w hw => hts w (List.mem_cons_of_mem _ hw)⟩ hml (hr.trans hr0.1) hlocks hAd hK hE (fun _ => by rw [hnm]; exact hr0.2) ⟨by show d + 8 + 1 ≤ d + 1 + 8; omega, by show 8 + 51 + (60 * d + 600) ≤ 60 * (d + 1) + 600; omega⟩ ⟨Nat.le_refl _, Nat.le_refl _⟩ IH 400 (0, [(0, .ref q)], [], b) L s.heap [] 0 0 h ⟨hH, hS, by rw [hH.2.1]; rfl⟩ hl (Nat.zero_add _) (Nat.zero_add _)
