/-! THE LAW'S BEGINNING, 2: the machine, what of the heap is fixed -/
section QSU
variable {s : State} {args : Array Value}
theorem zarr_p {ty : FieldType} (h : (Jvm.Cond.arrayClass ty).before args s = true) (hRA : ∀ c, s.vm.findClass ("[" ++ ty.toString) = some c → va_RA s c ty) : ∃ c : ClassId, (ArrOfT s c ty ∧ va_RA s c ty) ∧ s.vm.findClass ("[" ++ ty.toString) = some c := by
  obtain ⟨c, k, comp, h1, h2, h3⟩ := Cond.arrayClass_spec h
  exact ⟨c, ⟨fun n z => ⟨fun k h => (by cases h), k, h2, comp, h3⟩, hRA c h1⟩, h1⟩
theorem zarr_o {C : String} (h : (Jvm.Cond.arrayOver (.object C)).before args s = true) : ∃ c : ClassId, ArrOfT s c (.object C) ∧ va_RA s c (.object C) := by
  obtain ⟨comp, c, k, h1, h2, h3, h4, h5⟩ := Cond.arrayOver_spec h
  exact ⟨c, fun n z => ⟨fun k h => (by cases h), k, h3, comp, h4⟩, k, comp, h3, h4, h1, h5⟩
theorem zdct : ∀ o k, 18 ≤ o → zX o k = none := by
  intro o k ho
  have e : zXl o = [] := by
    unfold zXl
    rw [List.getD_eq_getElem?_getD, List.getElem?_eq_none (by show 18 ≤ o; exact ho)]
    rfl
  unfold zX
  rw [e]
  rfl
theorem zkd_fix : ∀ q, q < 896 → (zkd q).1 = 6 → (q = 60 ∧ (zkd q).2 = 0) ∨ (q = 61 ∧ (zkd q).2 = 1) := by decide +kernel
/-- the addresses: made cells from Bz on; the script, the texts, the static rows -/
def zad (Bz b : Nat) (f : Nat → Nat × Nat) (tL tH tF tN : Nat) (q : Nat) : Nat :=
  if 64 ≤ q then Bz + (q - 64) else if q = 0 then b else if q = 63 then tN else if q = 60 then tL else if q = 61 then tH else if q = 62 then tF else if q < 18 then (f (q - 1)).1 else (f (q - 32)).2
theorem zsetup (hts : ∀ w ∈ lw_tbl, w.before args s = true) (hg : ∀ c ∈ zflc, c.before args s = true) {b L : Nat} {xs : Nat → Int32} (hL : L ≤ 3072) (hX : va_X b L xs s s.heap) (hbl : b < s.heap.size) :
    ∃ (ad : Nat → Nat) (cA : Nat → ClassId) (D : va_G), (zAd ad s.heap.size ∧ ad 0 = b) ∧ (zK ad D cA s ∧ zKe cA s) ∧ zF0 ad s.heap.size (xs, fun _ => Int32.ofNat L) s s.heap := by
  have hA : ∀ a : Nat, a < s.heap.size → ¬ zAf s.heap.size a := fun a h z => Nat.not_le.mpr h z
  have hgood : ∀ w ∈ lw_good, w.before args s = true := fun w hw => hts w (List.mem_filter.mp hw).1
  have hw : ∀ {w : Jvm.Cond} (i : Nat), lw_tbl[i]? = some w → w.before args s = true := fun i h => hts _ (List.mem_of_getElem? h)
  -- classes
  have hC0 : ∀ ci : Nat, ∃ q : ClassId × (Nat → Nat), ci < 11 → u_Kn s (zcn ci) (zT ci) (zNf ci) q.1 q.2 := by
    intro ci
    by_cases hci : ci < 11
    · have hinst : ∀ ci, ci < 11 → lw_tbl[([35, 252, 373, 173, 166, 308, 29, 239, 360, 21, 1342] : List Nat).getD ci 0 + 166]? = some (Jvm.Cond.instantiable (zcn ci) (zNf ci)) := by decide +kernel
      obtain ⟨c, iS, hK⟩ := u_known hgood (zu_in hci) (hw _ (hinst ci hci))
      exact ⟨(c, iS), fun _ => hK⟩
    · exact ⟨(0, fun _ => 0), fun h => absurd h hci⟩
  obtain ⟨fc, hfc⟩ := Classical.skolem.mp hC0
  -- arrays
  obtain ⟨c1, hc1, n1⟩ := zarr_p (ty := .int) (hw 300 (by decide +kernel)) fun _ h => h
  obtain ⟨c2, hc2, -⟩ := zarr_p (ty := .long) (hw 301 (by decide +kernel)) fun _ h => h
  obtain ⟨c3, hc3, -⟩ := zarr_p (ty := .boolean) (hw 1640 (by decide +kernel)) fun _ h => h
  obtain ⟨c4, hc4, -⟩ := zarr_p (ty := .byte) (hw 855 (by decide +kernel)) fun _ h => h
  have hov : (Jvm.Cond.arrayOver (.array .int)).before args s = true := hw 207 (by decide +kernel)
  have hoB : (Jvm.Cond.arrayOver (.object "CrossSums$Board")).before args s = true := hw 330 (by decide +kernel)
  have hoR : (Jvm.Cond.arrayOver (.object "CrossSums$Rule")).before args s = true := hw 338 (by decide +kernel)
  obtain ⟨comp, c5, k5, m1, m2, m3, m4, m5⟩ := arrayOverA_spec hov
  have ec : comp = c1 := Option.some.inj (m1.symm.trans n1)
  subst ec
  obtain ⟨c6, hc6⟩ := zarr_o hoB
  obtain ⟨c7, hc7⟩ := zarr_o hoR
  -- texts
  have hS0 : ∀ i : Nat, ∃ q : Nat × Nat, i < 17 → zStr (zAf s.heap.size) s i q ∧ (ztm i).eval args s none [] s = some (.ref q.1) := by
    intro i
    by_cases hi : i < 17
    · obtain ⟨q, hq⟩ := zstr_of hg hA hi
      exact ⟨q, fun _ => hq⟩
    · exact ⟨(0, 0), fun h => absurd h hi⟩
  obtain ⟨f, hf⟩ := Classical.skolem.mp hS0
  -- static rows
  obtain ⟨tL, hL1, hL2⟩ := zrow_of hg hA (j := 0) (by omega)
  obtain ⟨tH, hH1, hH2⟩ := zrow_of hg hA (j := 1) (by omega)
  obtain ⟨tF, tN, hF1⟩ : ∃ tF tN : Nat, (Term.static "jdk/internal/util/Preconditions" "SIOOBE_FORMATTER" "Ljava/util/function/BiFunction;").eval args s none [] s = some (if tN = 0 then .null else .ref tF) := by
    obtain ⟨v, hv, hr⟩ := Cond.isRef_spec (hg _ (zfl_m zfl_4.2))
    cases v with
    | null => exact ⟨0, 0, hv⟩
    | ref a => exact ⟨a, 1, hv⟩
    | int _ => cases hr
    | long _ => cases hr
    | float _ => cases hr
    | double _ => cases hr
    | retAddr _ => cases hr
  have e0 : zad s.heap.size b f tL tH tF tN 0 = b := rfl
  have e60 : zad s.heap.size b f tL tH tF tN 60 = tL := rfl
  have e61 : zad s.heap.size b f tL tH tF tN 61 = tH := rfl
  have e63 : zad s.heap.size b f tL tH tF tN 63 = tN := rfl
  have e62 : zad s.heap.size b f tL tH tF tN 62 = tF := rfl
  have eK : ∀ i, i < 17 → zad s.heap.size b f tL tH tF tN (i + 1) = (f i).1 := by
    intro i hi
    unfold zad
    rw [if_neg (by omega), if_neg (by omega), if_neg (by omega), if_neg (by omega), if_neg (by omega), if_neg (by omega), if_pos (by omega), show i + 1 - 1 = i by omega]
  have eV : ∀ i, i < 17 → zad s.heap.size b f tL tH tF tN (i + 32) = (f i).2 := by
    intro i hi
    unfold zad
    rw [if_neg (by omega), if_neg (by omega), if_neg (by omega), if_neg (by omega), if_neg (by omega), if_neg (by omega), if_neg (by omega), show i + 32 - 32 = i by omega]
  have hAd : zAd (zad s.heap.size b f tL tH tF tN) s.heap.size := by
    intro i
    unfold zad
    rw [if_pos (by omega), show 64 + i - 64 = i by omega]
  refine ⟨zad s.heap.size b f tL tH tF tN, fun k => ([0, comp, c2, c3, c4, c5, c6, c7] : List Nat).getD k 0, (fun ci => (fc ci).1, fun ci => (fc ci).2), ⟨hAd, e0⟩, ⟨⟨⟨fun ci q hq => ?_, fun k q hq => ?_⟩, fun o k y i ho hi => va_Nw.of rfl (hw i hi), fun o k r n d i ho hi => va_Nw.of rfl (hw i hi), fun o k q hq => ?_⟩, ⟨va_AO.of hoB, va_AO.of hoR⟩, k5, m3, m4⟩, fun q hq => ?_, ⟨?_, ?_⟩, ⟨⟨fun i hi => ?_, fun i j hi hj e => ?_⟩, ?_, ?_⟩, L, hX, rfl, hL, ?_, hbl⟩
  · have hci : ci < 11 := by
      have := (List.getElem?_eq_some_iff.mp hq).1
      simpa [zcls] using this
    rw [zcls_get hci] at hq
    cases hq
    exact hfc ci hci
  · have h7 : k < 7 := (List.getElem?_eq_some_iff.mp hq).1
    rcases (show k = 0 ∨ k = 1 ∨ k = 2 ∨ k = 3 ∨ k = 4 ∨ k = 5 ∨ k = 6 by omega) with rfl | rfl | rfl | rfl | rfl | rfl | rfl
    · cases hq; exact hc1
    · cases hq; exact hc2
    · cases hq; exact hc3
    · cases hq; exact hc4
    · cases hq; exact ⟨fun n z => ⟨fun k h => (by cases h), k5, m3, comp, m4⟩, m5⟩
    · cases hq; exact hc6
    · cases hq; exact hc7
  · have ho : o < 18 := by
      by_cases ho : o < 18
      · exact ho
      · rw [zdct o k (by omega)] at hq
        cases hq
    obtain ⟨j, hj⟩ := List.getElem?_of_mem (zlk_mem hq)
    obtain ⟨⟨g1, g2, g3⟩, g4⟩ := zfl_2 o ho j (List.getElem?_eq_some_iff.mp hj).1 _ hj
    dsimp only at g1 g2 g3 g4
    have hev := (hf (q - 1) (by omega)).2
    have eq1 : zad s.heap.size b f tL tH tF tN q = (f (q - 1)).1 := by
      have := eK (q - 1) (by omega)
      rwa [show q - 1 + 1 = q by omega] at this
    rw [eq1]
    refine vk_R.of (hw _ g1) ?_
    rcases g4 with ⟨rfl, g5⟩ | g4
    · rw [g5]
      exact hev
    · exact va_eqv (hg _ (zfl_m g4)) hev
  · have hq8 : q < 896 := by
      by_cases h : q < 896
      · exact h
      · rw [zkd_out (by omega)] at hq
        cases hq
    rcases zkd_fix q hq8 hq with ⟨rfl, e⟩ | ⟨rfl, e⟩
    · rw [e, e60]
      exact hL2
    · rw [e, e61]
      exact hH2
  · rw [e60]
    exact va_Zref (hw 970 (by decide +kernel)) (hw 171 (by decide +kernel)) hL1 hA
  · rw [e61]
    exact va_Zref (hw 972 (by decide +kernel)) (hw 171 (by decide +kernel)) hH1 hA
  · obtain ⟨g1, g2, g3, g4⟩ := (hf i hi).1
    have el : ((List.range 17).map fun i => (ztx i).length).getD i 0 = (ztx i).length := by
      rw [List.getD_eq_getElem?_getD, List.getElem?_map, List.getElem?_range hi]
      rfl
    have et : ((List.range 17).map ztx).getD i [] = ztx i := by
      rw [List.getD_eq_getElem?_getD, List.getElem?_map, List.getElem?_range hi]
      rfl
    rw [el, et]
    dsimp only
    rw [eK i hi, eV i hi]
    exact ⟨g1, g2, g3, g4⟩
  · dsimp only at e
    rw [eK i hi, eK j hj] at e
    exact zstr_ne hi hj (hf i hi).1 (hf j hj).1 e
  · exact va_Zof (hw 673 (by decide +kernel)) (hw 178 (by decide +kernel)) (va_eqi (hg _ (zfl_m zfl_4.1))) hA
  · refine va_Zof (hw 693 (by decide +kernel)) (hw 180 (by decide +kernel)) ?_ hA
    show _ = some (if zad s.heap.size b f tL tH tF tN 63 = 0 then Value.null else Value.ref (zad s.heap.size b f tL tH tF tN 62))
    rw [e62, e63]
    exact hF1
  · exact hA b hbl
end QSU
