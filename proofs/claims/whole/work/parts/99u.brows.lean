/-! THE BEGINNING, 4: soundness of each step -/
/-- what else of the machine is fixed: the classes of the arrays that are made -/
def zKe (cA : Nat → ClassId) (U : State) : Prop := (va_AO "CrossSums$Board" U ∧ va_AO "CrossSums$Rule" U) ∧ ∃ kA : Class, U.vm.classes[cA 5]? = some kA ∧ kA.kind = .array (cA 1) (.array .int)
theorem zKe.moved {cA : Nat → ClassId} {u U : State} (hvm : u.vm.Alike U.vm) (h : zKe cA u) : zKe cA U := by
  obtain ⟨⟨h1, h2⟩, kA, h3, h4⟩ := h
  obtain ⟨k', hk', he⟩ := hvm.2.2 _ _ h3
  exact ⟨⟨h1.moved hvm, h2.moved hvm⟩, k', hk', by rw [he]; exact h4⟩
section QBS
variable {p : Program} {l : Launch} {e : Env} {R : Room} {s : State} {m : MethodId} {args : Array Value} {below : List Frame} {meth : Method} {c : Code} {H : Heap} {locs : List Loc} {cells slots : Nat} {Q : State → Prop}
variable {cc : ByteArray} {pc len : Nat} {L : Array Slot} {ad : Nat → Nat} {o Bz : Nat} {ls : ZL} {st : List Value} {b : ZB} {x : ZBS} {D : va_G} {cA : Nat → ClassId}
/-- what stands while cells are made: how many there are, and that no more was made than is counted -/
def zbH (ad : Nat → Nat) (Bz : Nat) (cA : Nat → ClassId) (D : va_G) (b : ZB) (s : State) (H : Heap) (locs : List Loc) (cells : Nat) : Prop := zcW ad Bz cA D b H ∧ va_S (zAf Bz) s.heap H locs ∧ s.heap.size + cells = Bz + b.1
theorem zb_new (A : zA p s m args c cc o) (hAd : zAd ad Bz) (hK : zK ad D cA s) (hW : zbH ad Bz cA D b s H locs cells) (ho : o < 15) {k ci i : Nat} (hN : zNw o k = some (ci, i)) (hci : ci < 11) (hkd : zkd (64 + b.1) = (10 + ci, 0)) (hdg : decode cc pc = .ok (.new k, 3)) (hcs : cells + 1 ≤ R.cells ∧ slots + zsz (64 + b.1) ≤ R.slots) {rest : List Value}
    (kk : ∀ H1, zbH ad Bz cA D (b.1 + 1, b.2) s H1 locs (cells + 1) → W p l e R s m args below meth c H1 locs (cells + 1) (slots + zsz (64 + b.1)) Q (F0 m (pc + 3) L (.ref (ad (64 + b.1)) :: rest))) : W p l e R s m args below meth c H locs cells slots Q (F0 m pc L rest) := by
  obtain ⟨hx, hb, -, hown, hts⟩ := A
  have hm := zlk_mem hN
  have hw := zN_all o ho _ hm
  have hsz : zsz (64 + b.1) = zNf ci := by
    unfold zsz
    rw [hkd]
    split
    · rename_i j e
      have := congrArg Prod.fst e
      simp at this
      omega
    · rename_i k n _ e
      have e1 := congrArg Prod.fst e
      simp at e1
      rw [if_neg (by omega), ← e1, show 10 + ci - 10 = ci by omega]
  rw [hsz] at hcs kk
  have hKn := hK.1.1 ci _ (zcls_get hci)
  have hnm : zNn ci = zcn ci := by
    unfold zNn
    rw [znb (show ci ≠ 11 by omega)]
    rfl
  rw [hnm] at hw
  have hh : H.size = Bz + b.1 := hW.1.2.1
  have hinst : ∀ ci, ci < 11 → lw_tbl[([35, 252, 373, 173, 166, 308, 29, 239, 360, 21, 1342] : List Nat).getD ci 0 + 166]? = some (Jvm.Cond.instantiable (zcn ci) (zNf ci)) ∧ lw_tbl[([3, 7, 10, 5, 4, 8, 2, 6, 9, 1, 11] : List Nat).getD ci 0 + 166]? = some (Jvm.Cond.initialized (zcn ci)) := by decide +kernel
  obtain ⟨i1, i2⟩ := hinst ci hci
  refine W.newcK hx hb hown (hts _ (zgw _ hw rfl)) (hts _ (zgw _ i1 rfl)) (hts _ (zgw _ i2 rfl)) rfl hdg hcs.1 hcs.2 hKn.2.1 rfl fun H1 kC hkC e1 z1 o1 => ?_
  obtain ⟨g1, g2⟩ := zb_grow hAd hW.1 hW.2.1 (N := 1) z1 o1 (fun i hi => by
    obtain rfl : i = 0 := by omega
    rw [Nat.add_zero, zeW_o hkd, ← hh]
    exact ⟨_, zcls_get hci, (u_born (zyy ci) hts (zu_in hci) hKn hkC e1 (zy_ok ci hci)).to fun j hj => zfsW_new hci (fun k => hW.1.2.2 _ k (Nat.le_refl _)) hj⟩)
  have k2 := kk H1 ⟨g1, g2, by have := hW.2.2; show s.heap.size + (cells + 1) = Bz + (b.1 + 1); omega⟩
  rw [hAd, ← hh] at k2
  exact k2
theorem zak_ty {t : ArrayType} (h : zak t ≠ 0) : (t = .int ∧ zak t = 1) ∨ (t = .long ∧ zak t = 2) ∨ (t = .boolean ∧ zak t = 3) ∨ (t = .byte ∧ zak t = 4) := by
  cases t <;> first | exact absurd rfl h | simp [zak]
theorem zsz_k {q k n : Nat} (h : zkd q = (k, n)) (hk : k < 5) : zsz q = n := by
  unfold zsz
  rw [h]
  split
  · rename_i j e
    have := congrArg Prod.fst e
    simp at this
    omega
  · rename_i k' n' _ e
    cases e
    rw [if_pos (by omega)]
theorem zb_newa (A : zA p s m args c cc o) (hAd : zAd ad Bz) (hK : zK ad D cA s) (hW : zbH ad Bz cA D b s H locs cells) {t : ArrayType} {n : Int32} (h0 : zak t ≠ 0) (h1 : 0 ≤ n.toInt) (h2 : n.toNatClampNeg ≤ 5000) (hkd : zkd (64 + b.1) = (zak t, n.toNatClampNeg)) (hdg : decode cc pc = .ok (.newarray t, 2)) (hcs : cells + 1 ≤ R.cells ∧ slots + zsz (64 + b.1) ≤ R.slots) {rest : List Value}
    (kk : ∀ H1, zbH ad Bz cA D (b.1 + 1, b.2) s H1 locs (cells + 1) → W p l e R s m args below meth c H1 locs (cells + 1) (slots + zsz (64 + b.1)) Q (F0 m (pc + 2) L (.ref (ad (64 + b.1)) :: rest))) : W p l e R s m args below meth c H locs cells slots Q (F0 m pc L (.int n :: rest)) := by
  obtain ⟨hx, hb, -, hown, hts⟩ := A
  have hk5 : zak t < 5 := by rcases zak_ty h0 with h | h | h | h <;> omega
  rw [zsz_k hkd hk5] at hcs kk
  have hh : H.size = Bz + b.1 := hW.1.2.1
  have hn : ¬ n < 0 := by
    intro hz
    have := Int32.lt_iff_toInt_lt.mp hz
    simp at this
    omega
  have key : ∀ (ty : FieldType) (iw kt : Nat), newarray.typeOf t = ty → lw_tbl[iw]? = some (Jvm.Cond.arrayClass ty) → (ztys cA)[kt]? = some (cA (zak t), ty) → (∀ cB, va_RA s cB ty → s.vm.findClass ("[" ++ ty.toString) = some cB) → componentBytes ty ≤ 8 → va_at D zcls (Bz + b.1, zeW ad cA b.2 (64 + b.1)) = va_at D zcls (Bz + b.1, zeW ad cA b.2 (64 + b.1)) → (∀ H1 : Heap, H1[Bz + b.1]? = some (arrV (cA (zak t)) n.toNatClampNeg (fun _ => defaultValue ty)) → va_at D zcls (Bz + b.1, zeW ad cA b.2 (64 + b.1)) H1) → W p l e R s m args below meth c H locs cells slots Q (F0 m pc L (.int n :: rest)) := by
    intro ty iw kt hty hiw hkt hRA hcb _ hat
    subst hty
    refine va_newaK hx hb (hts _ (zgw iw hiw rfl)) rfl hdg rfl hn rfl (by have := Nat.mul_le_mul h2 hcb; omega) hcs.1 hcs.2 hh fun H1 cB e1 z1 o1 _ hNm => ?_
    have ecb : cB = cA (zak t) := Option.some.inj (hNm.symm.trans (hRA _ (hK.1.2 kt _ hkt).2))
    subst ecb
    obtain ⟨g1, g2⟩ := zb_grow hAd hW.1 hW.2.1 (N := 1) (by rw [z1, hh]) (fun q hq => o1 q (by rw [← hh]; exact hq)) (fun i hi => by
      obtain rfl : i = 0 := by omega
      rw [Nat.add_zero]
      exact hat H1 e1)
    have k2 := kk H1 ⟨g1, g2, by have := hW.2.2; show s.heap.size + (cells + 1) = Bz + (b.1 + 1); omega⟩
    rw [hAd] at k2
    exact k2
  have hq : (zkd (64 + b.1)).2 = n.toNatClampNeg := by rw [hkd]
  have hq1 : (zkd (64 + b.1)).1 = zak t := by rw [hkd]
  rcases zak_ty h0 with ⟨rfl, h⟩ | ⟨rfl, h⟩ | ⟨rfl, h⟩ | ⟨rfl, h⟩
  · exact key .int 300 0 rfl (by decide +kernel) rfl (fun cB z => z) (by decide) rfl (fun H1 z => by rw [zeW_1 (hq1.trans h), hq]; exact z)
  · exact key .long 301 1 rfl (by decide +kernel) rfl (fun cB z => z) (by decide) rfl (fun H1 z => by rw [zeW_2 (hq1.trans h), hq]; exact z)
  · exact key .boolean 1640 2 rfl (by decide +kernel) rfl (fun cB z => z) (by decide) rfl (fun H1 z => by rw [zeW_3 (hq1.trans h), hq]; exact z)
  · exact key .byte 855 3 rfl (by decide +kernel) rfl (fun cB z => z) (by decide) rfl (fun H1 z => by rw [zeW_4 (hq1.trans h), hq]; exact z)
end QBS
