/-! THE LAW'S BEGINNING, 3: its steps to the loop -/
theorem zbi_mono {call : ZMeth → Nat → ZB → Option ZB} {y : ZMeth} {sN : ZBS} : ∀ {n : Nat} {s0 : ZBS}, zbi call y n s0 = some sN → s0.2.2.2.1 ≤ sN.2.2.2.1 := by
  intro n
  induction n with
  | zero =>
    intro s0 h
    cases h
    exact Nat.le_refl _
  | succ n ih =>
    intro s0 h
    unfold zbi at h
    split at h
    · rename_i t ht
      exact Nat.le_trans (zbs_mono ht) (ih h)
    · cases h
section QST2
variable {p : Program} {l : Launch} {e : Env} {R : Room} {s : State} {m : MethodId} {args : Array Value} {below : List Frame} {meth : Method} {c : Code} {Q : State → Prop}
variable {cc : ByteArray} {d : Nat} {ad : Nat → Nat} {Bz : Nat} {D : va_G} {cA : Nat → ClassId} {y : ZMeth}
theorem zb_steps {sN : ZBS} {mc ms : Nat} (hdec : ∀ e ∈ zmC y, decode cc e.1 = .ok e.2 ∧ zlen e.2.1 e.2.2 = true) (A : zA p s m args c cc (zmO y)) (hml : c.maxLocals = zmL y) (hAd : zAd ad Bz) (hK : zK ad D cA s) (hE : zKe cA s) (hin : zmO y ≠ 14 → meth.name = "<init>") (hR : d + 8 + 1 ≤ R.frames ∧ 8 + 51 + (60 * d + 600) ≤ R.locals) (hRc : mc ≤ R.cells ∧ ms ≤ R.slots)
    (IH : ∀ (w : ZMeth) (q : Nat) (b b1 : ZB), zbv d w q b = some b1 → zOK w → zmS w = 2 → zmL w ≠ 0 → zmO w < 11 → zmR w = none ∧ (zmN w).name = "<init>" → zMb l ad Bz cA D d w q b b1)
    (kk : ∀ H1 locs1 L1, zbH ad Bz cA D sN.2.2.2 s H1 locs1 mc → zLR ad (zmL y) sN.2.1 L1 → W p l e R s m args below meth c H1 locs1 mc ms Q (F0 m sN.1 L1 (sN.2.2.1.map (zcv ad)))) :
    ∀ (n : Nat) (s0 : ZBS) (L : Array Slot) (H : Heap) (locs : List Loc) (cells slots : Nat), zbi (zbv d) y n s0 = some sN → zbH ad Bz cA D s0.2.2.2 s H locs cells → zLR ad (zmL y) s0.2.1 L → cells + (sN.2.2.2.1 - s0.2.2.2.1) = mc → slots + (zss sN.2.2.2.1 - zss s0.2.2.2.1) = ms → W p l e R s m args below meth c H locs cells slots Q (F0 m s0.1 L (s0.2.2.1.map (zcv ad))) := by
  intro n
  induction n with
  | zero =>
    intro s0 L H locs cells slots h hW hl hmc hms
    cases h
    rw [Nat.sub_self] at hmc hms
    have hmc : cells = mc := hmc
    have hms : slots = ms := hms
    subst hmc hms
    exact kk H locs L hW hl
  | succ n ih =>
    intro s0 L H locs cells slots h hW hl hmc hms
    unfold zbi at h
    split at h
    · rename_i t ht
      have h1 := zbs_mono ht
      have h2 := zbi_mono h
      have h3 := zss_le h1
      have h4 := zss_le h2
      exact zb_step hdec A hml hAd hK hE hin hR IH ht hW hl ⟨by omega, by omega⟩ fun H1 locs1 L1 g g2 => ih t L1 H1 locs1 _ _ h g g2 (by omega) (by omega)
    · cases h
end QST2
theorem zss_820 : zss 820 ≤ 7302250 := by decide +kernel
