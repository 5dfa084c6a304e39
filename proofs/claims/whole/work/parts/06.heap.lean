/-! SOUNDNESS of the small machine, 2: the heap -/
abbrev zN : Nat := 884
/-- the classes of the rows, by number -/
def ztys (cA : Nat → ClassId) : List (ClassId × FieldType) := [(cA 1, .int), (cA 2, .long), (cA 3, .boolean), (cA 4, .byte), (cA 5, .array .int), (cA 6, .object "CrossSums$Board"), (cA 7, .object "CrossSums$Rule")]
def zrc (j : Nat) : Nat := ([5, 6, 6, 7, 5, 5, 5] : List Nat).getD j 5
def zfs (ad : Nat → Nat) (M : ZM) (q ci : Nat) : List Value := (List.range (zNf ci)).map fun k => zcv ad (zfld M q k ((zft ci).getD k 0))
def zE (ad : Nat → Nat) (cA : Nat → ClassId) (M : ZM) (q : Nat) : va_E :=
  if (zkd q).1 = 1 then .inl (cA 1, (zkd q).2, .inl (M.1 q))
  else if (zkd q).1 = 2 then .inl (cA 2, (zkd q).2, .inr (.inl (M.2 q)))
  else if (zkd q).1 = 3 then .inl (cA 3, (zkd q).2, .inl (M.1 q))
  else if (zkd q).1 = 4 then .inl (cA 4, (zkd q).2, .inl (M.1 q))
  else if (zkd q).1 = 5 then .inl (cA (zrc (zkd q).2), (zra (zkd q).2).1, .inr (.inr (.inr (.inr fun i => some (ad (q + (zra (zkd q).2).2.1 + (zra (zkd q).2).2.2 * i))))))
  else .inr ((zkd q).1 - 10, zfs ad M q ((zkd q).1 - 10))
def zWs (ad : Nat → Nat) (cA : Nat → ClassId) (M : ZM) : va_W := (List.range (zN - 64)).map fun i => (ad (i + 64), zE ad cA M (i + 64))
def zAf (Bz : Nat) : Nat → Prop := fun a => Bz ≤ a
/-- the world: the cells hold what M says, apart -/
abbrev ZX : Type := (Nat → Int32) × (Nat → Int32)
def zWd (ad : Nat → Nat) (Bz : Nat) (cA : Nat → ClassId) (D : va_G) (X : ZX) (M : ZM) (H : Heap) : Prop := va_P D zcls (zWs ad cA M) H ∧ va_D (zAf Bz) (zWs ad cA M) ∧ M.1 0 = X.1 ∧ M.1 63 = X.2
theorem zkd_all : ∀ q, q < 896 → (64 ≤ q ∧ q < zN) ∨ (zkd q).1 = 0 ∨ (zkd q).1 = 6 ∨ (zkd q).1 = 7 ∨ (zkd q).1 = 9 := by decide +kernel
theorem zkd_out {q : Nat} (h : 896 ≤ q) : (zkd q).1 = 0 := by
  unfold zkd
  have h1 : 14 ≤ q / 64 := by omega
  rw [show (([zk_0, zk_1, zk_2, zk_3, zk_4, zk_5, zk_6, zk_7, zk_8, zk_9, zk_10, zk_11, zk_12, zk_13] : List (List (Nat × Nat))).getD (q / 64) []) = [] from by
    rw [List.getD_eq_getElem?_getD, List.getElem?_eq_none (by show 14 ≤ q / 64; exact h1)]; rfl]
  rfl
theorem zkd_rng {q : Nat} (h0 : (zkd q).1 ≠ 0) (h6 : (zkd q).1 ≠ 6) (h7 : (zkd q).1 ≠ 7) (h9 : (zkd q).1 ≠ 9) : 64 ≤ q ∧ q < zN := by
  by_cases h : q < 896
  · rcases zkd_all q h with a | a | a | a | a
    · exact a
    · exact absurd a h0
    · exact absurd a h6
    · exact absurd a h7
    · exact absurd a h9
  · exact absurd (zkd_out (by omega)) h0
theorem zWs_get {ad : Nat → Nat} {cA : Nat → ClassId} {M : ZM} {q : Nat} (h : 64 ≤ q ∧ q < zN) : (zWs ad cA M)[q - 64]? = some (ad q, zE ad cA M q) := by
  unfold zWs
  rw [List.getElem?_map, List.getElem?_range (show q - 64 < zN - 64 by have := h.1; have := h.2; omega)]
  simp only [Option.map_some]
  rw [show q - 64 + 64 = q by have := h.1; omega]
theorem zWs_set {ad : Nat → Nat} {cA : Nat → ClassId} {M M' : ZM} {q : Nat} {e : va_E} (hq : 64 ≤ q ∧ q < zN) (he : zE ad cA M' q = e) (ho : ∀ a, a ≠ q → zE ad cA M' a = zE ad cA M a) : (zWs ad cA M).set (q - 64) (ad q, e) = zWs ad cA M' := by
  apply List.ext_getElem?
  intro i
  unfold zWs
  by_cases hi : i < zN - 64
  · by_cases h : i = q - 64
    · subst h
      rw [List.getElem?_set_self (by simp; exact hi), List.getElem?_map, List.getElem?_range hi]
      simp only [Option.map_some]
      rw [show q - 64 + 64 = q by have := hq.1; omega, he]
    · rw [List.getElem?_set_ne (Ne.symm h), List.getElem?_map, List.getElem?_map, List.getElem?_range hi]
      simp only [Option.map_some]
      rw [ho (i + 64) (by have := hq.1; omega)]
  · rw [List.getElem?_eq_none (by simp; omega), List.getElem?_eq_none (by simp; omega)]
theorem zE_same {ad : Nat → Nat} {cA : Nat → ClassId} {M M' : ZM} {a : Nat} (h1 : M'.1 a = M.1 a) (h2 : M'.2 a = M.2 a) : zE ad cA M' a = zE ad cA M a := by
  unfold zE zfs zfld
  rw [h1, h2]
theorem zsi_ne {M : ZM} {q a : Nat} {f : Nat → Int32} (h : a ≠ q) : (zsi M q f).1 a = M.1 a := if_neg h
theorem zsi_eq {M : ZM} {q : Nat} {f : Nat → Int32} : (zsi M q f).1 q = f := if_pos rfl
theorem zsl_ne {M : ZM} {q a : Nat} {f : Nat → Int64} (h : a ≠ q) : (zsl' M q f).2 a = M.2 a := if_neg h
theorem zsl_eq {M : ZM} {q : Nat} {f : Nat → Int64} : (zsl' M q f).2 q = f := if_pos rfl
theorem zE_zsi {ad : Nat → Nat} {cA : Nat → ClassId} {M : ZM} {q : Nat} {f : Nat → Int32} : ∀ a, a ≠ q → zE ad cA (zsi M q f) a = zE ad cA M a := fun _ h => zE_same (zsi_ne h) rfl
theorem zE_zsl {ad : Nat → Nat} {cA : Nat → ClassId} {M : ZM} {q : Nat} {f : Nat → Int64} : ∀ a, a ≠ q → zE ad cA (zsl' M q f) a = zE ad cA M a := fun _ h => zE_same rfl (zsl_ne h)
theorem zE_1 {ad : Nat → Nat} {cA : Nat → ClassId} {M : ZM} {q : Nat} (h : (zkd q).1 = 1) : zE ad cA M q = .inl (cA 1, (zkd q).2, .inl (M.1 q)) := if_pos h
theorem zE_2 {ad : Nat → Nat} {cA : Nat → ClassId} {M : ZM} {q : Nat} (h : (zkd q).1 = 2) : zE ad cA M q = .inl (cA 2, (zkd q).2, .inr (.inl (M.2 q))) := by
  unfold zE
  rw [h]
  rfl
theorem zE_3 {ad : Nat → Nat} {cA : Nat → ClassId} {M : ZM} {q : Nat} (h : (zkd q).1 = 3) : zE ad cA M q = .inl (cA 3, (zkd q).2, .inl (M.1 q)) := by
  unfold zE
  rw [h]
  rfl
theorem zE_4 {ad : Nat → Nat} {cA : Nat → ClassId} {M : ZM} {q : Nat} (h : (zkd q).1 = 4) : zE ad cA M q = .inl (cA 4, (zkd q).2, .inl (M.1 q)) := by
  unfold zE
  rw [h]
  rfl
theorem zE_5 {ad : Nat → Nat} {cA : Nat → ClassId} {M : ZM} {q : Nat} (h : (zkd q).1 = 5) : zE ad cA M q = .inl (cA (zrc (zkd q).2), (zra (zkd q).2).1, .inr (.inr (.inr (.inr fun i => some (ad (q + (zra (zkd q).2).2.1 + (zra (zkd q).2).2.2 * i)))))) := by
  unfold zE
  rw [h]
  rfl
theorem zE_o {ad : Nat → Nat} {cA : Nat → ClassId} {M : ZM} {q ci : Nat} (h : zkd q = (10 + ci, 0)) : zE ad cA M q = .inr (ci, zfs ad M q ci) := by
  unfold zE
  have h1 : (zkd q).1 = 10 + ci := by rw [h]
  rw [if_neg (by omega), if_neg (by omega), if_neg (by omega), if_neg (by omega), if_neg (by omega), h1, show 10 + ci - 10 = ci by omega]
theorem zkd_r {q k : Nat} (h : (zkd q).1 = k) (hk : k ≠ 0 ∧ k ≠ 6 ∧ k ≠ 7 ∧ k ≠ 9) : 64 ≤ q ∧ q < zN := zkd_rng (by rw [h]; exact hk.1) (by rw [h]; exact hk.2.1) (by rw [h]; exact hk.2.2.1) (by rw [h]; exact hk.2.2.2)
theorem zkd_ro {q ci : Nat} (h : zkd q = (10 + ci, 0)) : 64 ≤ q ∧ q < zN := by
  have h1 : (zkd q).1 = 10 + ci := by rw [h]
  exact zkd_rng (by omega) (by omega) (by omega) (by omega)
theorem zkd7 {q : Nat} (h : (zkd q).1 = 7) : (zkd q).2 < 17 ∧ q = (zkd q).2 + 1 := by
  have hall : ∀ q, q < 896 → (zkd q).1 = 7 → (zkd q).2 < 17 ∧ q = (zkd q).2 + 1 := by decide +kernel
  by_cases hq : q < 896
  · exact hall q hq h
  · rw [zkd_out (by omega)] at h
    cases h
theorem zkd9 {q : Nat} (h : (zkd q).1 = 9) : (zkd q).2 < 17 ∧ q = (zkd q).2 + 32 := by
  have hall : ∀ q, q < 896 → (zkd q).1 = 9 → (zkd q).2 < 17 ∧ q = (zkd q).2 + 32 := by decide +kernel
  by_cases hq : q < 896
  · exact hall q hq h
  · rw [zkd_out (by omega)] at h
    cases h
theorem zfs_get {ad : Nat → Nat} {M : ZM} {q ci f t : Nat} (hf : f < zNf ci) (h : (zft ci)[f]? = some t) : (zfs ad M q ci)[f]? = some (zcv ad (zfld M q f t)) := by
  unfold zfs
  rw [List.getElem?_map, List.getElem?_range hf]
  simp only [Option.map_some, List.getD_eq_getElem?_getD, h, Option.getD_some]
theorem zfs_len {ad : Nat → Nat} {M : ZM} {q ci : Nat} : (zfs ad M q ci).length = zNf ci := by simp [zfs]
theorem zfs_set {ad : Nat → Nat} {M M' : ZM} {q ci f t : Nat} {v : Value} (ht : (zft ci)[f]? = some t) (hv : zfld M' q f t = v) (hz : zcv ad v = v) (ho : ∀ j t', j ≠ f → zfld M' q j t' = zfld M q j t') : zfs ad M' q ci = (zfs ad M q ci).set f v := by
  apply List.ext_getElem?
  intro i
  unfold zfs
  by_cases hi : i < zNf ci
  · by_cases h : i = f
    · subst h
      rw [List.getElem?_set_self (by simp; exact hi), List.getElem?_map, List.getElem?_range hi]
      simp only [Option.map_some, List.getD_eq_getElem?_getD, ht, Option.getD_some]
      rw [hv, hz]
    · rw [List.getElem?_set_ne (Ne.symm h), List.getElem?_map, List.getElem?_map, List.getElem?_range hi]
      simp only [Option.map_some]
      rw [ho i _ h]
  · rw [List.getElem?_eq_none (by simp; omega), List.getElem?_eq_none (by simp; omega)]
theorem zcls_get {ci : Nat} (h : ci < 11) : zcls[ci]? = some (zcn ci, zT ci, zNf ci) := by
  unfold zcls
  rw [List.getElem?_map, List.getElem?_range h]
  rfl
theorem zin_vp {i : Int32} {n : Nat} (h : zin i n = true) : vp_in i n := by
  unfold zin at h
  rw [Bool.and_eq_true] at h
  exact vp_in_iff.mpr ⟨of_decide_eq_true h.1, of_decide_eq_true h.2⟩
/-! tables: the fields' words, types, names -/
theorem zy_ok : ∀ ci, ci < 11 → ∀ k, k < zNf ci → parseFieldDescriptor (zT ci k).2.2.1 = some (zyy ci k) := by decide +kernel
theorem zn_ok : ∀ ci, ci < 11 → ∀ a, a < zNf ci → ∀ b, b < zNf ci → a ≠ b → (zT ci a).2.1 ≠ (zT ci b).2.1 := by decide +kernel
theorem zyt_ok : ∀ ci, ci < 11 → ∀ k, k < zNf ci → (((zft ci)[k]? = some 0 → zyy ci k = .int) ∧ ((zft ci)[k]? = some 1 → zyy ci k = .long)) ∧ ((zft ci)[k]? = some 2 → zyy ci k = .boolean) := by decide +kernel
/-- what of the machine is fixed: classes, links to nest mates, String constants -/
def zK (ad : Nat → Nat) (D : va_G) (cA : Nat → ClassId) (U : State) : Prop :=
  va_K D zcls (ztys cA) U ∧ (∀ (o k : Nat) (y : MethodName) (i : Nat), o < 18 → lw_tbl[i]? = some (Jvm.Cond.methodLinkNest (zcn o) k y "CrossSums") → va_Nw (Jvm.Cond.methodLinkNest (zcn o) k y "CrossSums") U) ∧
  (∀ (o k : Nat) (r n d : String) (i : Nat), o < 18 → lw_tbl[i]? = some (Jvm.Cond.fieldLinkNest (zcn o) k r n d "CrossSums") → va_Nw (Jvm.Cond.fieldLinkNest (zcn o) k r n d "CrossSums") U) ∧
  (∀ o k q, zX o k = some q → vk_R (zcn o) k (ztxs.getD (q - 1) "") (ad q) U)
/-- what of the heap is fixed: the script, the two static rows and the fields that hold them, the Strings -/
def zF0 (ad : Nat → Nat) (Bz : Nat) (X : ZX) (U : State) (H : Heap) : Prop :=
  (∀ q, (zkd q).1 = 6 → va_T .long (ad q) (zsl (zkd q).2).length (fun j => .long ((zsl (zkd q).2).getD j 0)) (zAf Bz) U H) ∧
  (va_Z "CrossSums$Rule" "WITHOUT_LOW" "[J" (.ref (ad 60)) (zAf Bz) U H ∧ va_Z "CrossSums$Rule" "WITHOUT_HIGH" "[J" (.ref (ad 61)) (zAf Bz) U H) ∧
  (vk_S 17 ((List.range 17).map fun i => (ztx i).length) ((List.range 17).map ztx) (fun i => ad (i + 1)) (fun i => ad (i + 32)) (zAf Bz) U H ∧ va_Z "java/lang/String" "COMPACT_STRINGS" "Z" (.int 1) (zAf Bz) U H ∧ va_Z "jdk/internal/util/Preconditions" "SIOOBE_FORMATTER" "Ljava/util/function/BiFunction;" (zcv ad (.float 0)) (zAf Bz) U H) ∧
  ∃ L, va_X (ad 0) L X.1 U H ∧ X.2 0 = Int32.ofNat L ∧ L ≤ 3072 ∧ ¬ zAf Bz (ad 0) ∧ ad 0 < H.size
theorem zF0_T {ad : Nat → Nat} {Bz : Nat} {X : ZX} {U : State} {H : Heap} (h : zF0 ad Bz X U H) {i : Nat} (hi : i < 17) : va_T .byte (ad (i + 32)) (ztx i).length (fun j => .int ((ztx i).getD j 0)) (zAf Bz) U H := by
  have hT := (h.2.2.1.1.1 i hi).2.2.2
  have e1 : ((List.range 17).map fun i => (ztx i).length).getD i 0 = (ztx i).length := by
    rw [List.getD_eq_getElem?_getD, List.getElem?_map, List.getElem?_range hi]
    rfl
  have e2 : ((List.range 17).map ztx).getD i [] = ztx i := by
    rw [List.getD_eq_getElem?_getD, List.getElem?_map, List.getElem?_range hi]
    rfl
  rw [e1, e2] at hT
  exact hT
theorem zF0.moved {ad : Nat → Nat} {Bz : Nat} {X : ZX} {u U : State} {H : Heap} (hvm : u.vm.Alike U.vm) (h : zF0 ad Bz X u H) : zF0 ad Bz X U H := by
  obtain ⟨h1, h2, h3, L, h4, h5⟩ := h
  exact ⟨fun q hq => (h1 q hq).moved hvm, ⟨h2.1.moved hvm, h2.2.moved hvm⟩, ⟨h3.1.moved hvm, h3.2.1.moved hvm, h3.2.2.moved hvm⟩, L, h4.moved hvm, h5⟩
theorem zF0.kept {ad : Nat → Nat} {Bz : Nat} {X : ZX} {U : State} {H H1 : Heap} (h : zF0 ad Bz X U H) (hz : H.size ≤ H1.size) (hq : ∀ a : Nat, a < H.size → ¬ zAf Bz a → H1[a]? = H[a]?) : zF0 ad Bz X U H1 := by
  obtain ⟨h1, h2, h3, L, h4, h5, h6, h7, h8⟩ := h
  exact ⟨fun q hq0 => (h1 q hq0).kept hq, ⟨h2.1.kept hq, h2.2.kept hq⟩, ⟨h3.1.kept hq, h3.2.1.kept hq, h3.2.2.kept hq⟩, L, h4.kept (hq _ h8 h7), h5, h6, h7, Nat.lt_of_lt_of_le h8 hz⟩
theorem zK.warm {ad : Nat → Nat} {D : va_G} {cA : Nat → ClassId} {s U : State} (hW : s.WarmedH U.vm) (h : zK ad D cA s) : zK ad D cA U :=
  ⟨va_K.moved hW.alike h.1, fun o k y i ho hi => va_Nw.warmM hW (h.2.1 o k y i ho hi), fun o k r n d i ho hi => va_Nw.warmF hW (h.2.2.1 o k r n d i ho hi), fun o k q hq => (h.2.2.2 o k q hq).warm hW⟩
theorem zK.same {ad : Nat → Nat} {D : va_G} {cA : Nat → ClassId} {s U : State} (hv : s.vm = U.vm) (h : zK ad D cA s) : zK ad D cA U :=
  ⟨va_K.moved (by rw [← hv]; exact Vm.Alike.refl _) h.1, fun o k y i ho hi => va_Nw.same rfl hv (h.2.1 o k y i ho hi), fun o k r n d i ho hi => va_Nw.same rfl hv (h.2.2.1 o k r n d i ho hi), fun o k q hq => (h.2.2.2 o k q hq).same hv.symm⟩
/-- what stands at every instruction of a method of class o -/
def zA (p : Program) (s : State) (m : MethodId) (args : Array Value) (c : Code) (cc : ByteArray) (o : Nat) : Prop :=
  p.tables.exec = Jvm.exec ∧ c.code = cc ∧ o < 18 ∧ s.vm.findClass (zcn o) = some m.cls ∧ ∀ w ∈ lw_good, w.before args s = true
def zux (ci : Nat) : List Nat := ([[271, 273, 275, 277, 279, 281, 283, 285, 287, 289, 291, 293, 295, 297], [448, 450, 452, 454, 456, 458, 460, 462, 464, 466, 468, 470], [552, 554, 556, 558, 560, 562, 564, 566], [361, 363, 365, 367, 369, 371, 373, 375, 377, 379, 381, 383, 385, 387, 389, 391, 393], [399, 401], [496, 498, 500, 502, 504, 506, 508, 510, 512, 514, 516, 518, 520, 522], [311, 313, 315, 317, 319, 321, 323, 325], [412, 414], [533, 535], [584, 586, 588, 590, 592, 594, 596, 598, 600, 602, 604, 606, 608, 610, 612], [1555, 1557, 1559, 1561, 1563, 1565, 1567, 1569, 1571, 1573, 1575, 1577, 1579, 1581, 1583, 1585, 1587, 1589, 1591, 1593, 1595, 1597, 1599, 1601, 1603, 1605, 1607, 1609, 1611, 1613, 1615, 1617, 1619, 1621, 1623, 1625, 1627, 1629, 1631, 1633, 1635, 1637]] : List (List Nat)).getD ci []
theorem zu_all : ∀ ci, ci < 11 → ∀ k, k < zNf ci → ∃ i, (zux ci)[k]? = some i ∧ lw_tbl[i]? = some (u_lay (zcn ci) (zT ci) k) := by
  have h : ∀ ci, ci < 11 → (zux ci).length = zNf ci ∧ ∀ k, k < zNf ci → lw_tbl[(zux ci).getD k 0]? = some (u_lay (zcn ci) (zT ci) k) := by decide +kernel
  intro ci hci k hk
  obtain ⟨h1, h2⟩ := h ci hci
  refine ⟨(zux ci).getD k 0, ?_, h2 k hk⟩
  rw [List.getD_eq_getElem?_getD, List.getElem?_eq_getElem (by omega)]
  rfl
theorem zu_in {ci : Nat} (hci : ci < 11) : ∀ w ∈ u_ws (zcn ci) (zT ci) (zNf ci), w ∈ lw_good := by
  intro w hw
  unfold u_ws at hw
  obtain ⟨k, hk, rfl⟩ := List.mem_map.mp hw
  obtain ⟨i, -, h2⟩ := zu_all ci hci k (List.mem_range.mp hk)
  refine zgw i h2 ?_
  unfold u_lay
  split <;> rfl
section ZHEAP
variable {p : Program} {l : Launch} {e : Env} {R : Room} {s : State} {m : MethodId} {args : Array Value} {below : List Frame} {meth : Method} {c : Code} {H : Heap} {locs : List Loc} {cells slots : Nat} {Q : State → Prop}
variable {cc : ByteArray} {pc : Nat} {L : Array Slot} {ad : Nat → Nat} {o Bz : Nat} {ls : ZL} {st : List Value} {M : ZM} {x : ZS} {D : va_G} {cA : Nat → ClassId} {X : ZX}
theorem zs_getfield (A : zA p s m args c cc o) (hK : zK ad D cA s) (hF0 : zF0 ad Bz X s s.heap) (hS : va_S (zAf Bz) s.heap H locs) (hH : zWd ad Bz cA D X M H) {k : Nat} (hdg : decode cc pc = .ok (.getfield k, 3)) (hz : zheap o (.getfield k) 3 pc ls st M = some x)
    (kk : x.2.1 = ls → x.2.2.2 = M → W p l e R s m args below meth c H locs cells slots Q (F0 m x.1 L (x.2.2.1.map (zcv ad)))) : W p l e R s m args below meth c H locs cells slots Q (F0 m pc L (st.map (zcv ad))) := by
  obtain ⟨hx, hb, ho, hown, hts⟩ := A
  by_cases h15 : o = 15
  · subst h15
    simp only [zheap, if_true] at hz
    split at hz
    · rename_i q r
      split at hz
      · rename_i hkd
        obtain ⟨h17, hq⟩ := zkd7 hkd
        have hE := hF0.2.2.1.1.1 (zkd q).2 h17
        split at hz
        · rename_i h9
          subst h9
          cases hz
          have hv := hE.2.2.1
          dsimp only at hv
          rw [← hq] at hv
          have k2 := kk rfl rfl
          rw [show q + 31 = (zkd q).2 + 32 from congrArg (fun z => z + 31) hq] at k2
          exact vk_getf hx hb hv hS hown (hts (.fieldLink "java/lang/String" 9 "java/lang/String" "value" "[B") (zgw 2211 (by decide +kernel) rfl)) (fun _ h => h) hdg k2
        · split at hz
          · rename_i h9
            subst h9
            cases hz
            have hv := hE.2.1
            dsimp only at hv
            rw [← hq] at hv
            exact vk_getf hx hb hv hS hown (hts (.fieldLink "java/lang/String" 15 "java/lang/String" "coder" "B") (zgw 2212 (by decide +kernel) rfl)) (fun _ h => h) hdg (kk rfl rfl)
          · cases hz
      · cases hz
    · cases hz
  simp only [zheap, if_neg h15] at hz
  split at hz
  · rename_i ci f t nst q r hF
    split at hz
    · rename_i hkd
      cases hz
      obtain ⟨i, h1, h2, h3, h4, h5, -⟩ := zF_mem ho hF
      have he := zWs_get (ad := ad) (cA := cA) (M := M) (zkd_ro hkd)
      rw [zE_o hkd] at he
      have hv := zfs_get (ad := ad) (M := M) (q := q) h3 h5
      dsimp only at h1 h2 h3 h4 hv
      unfold zFc at h1
      split at h1
      · exact va_get hx hb hts (zu_in h2) hown hK.1 hH.1 (q - 64) he (zcls_get h2) f h3 (hts _ (zgw i h1 rfl)) (fun _ h9 => by rw [h4] at h9; exact h9) hv hdg (kk rfl rfl)
      · exact va_getN (host := "CrossSums") hx hb hts (zu_in h2) hown hK.1 hH.1 (q - 64) he (zcls_get h2) f h3 (va_Nw.use rfl (hK.2.2.1 _ _ _ _ _ i ho h1)) (fun _ h9 => by rw [h4] at h9; exact h9) hv hdg (kk rfl rfl)
    · cases hz
  · cases hz
theorem zs_put (A : zA p s m args c cc o) (hK : zK ad D cA s) (hH : zWd ad Bz cA D X M H) (hS : va_S (zAf Bz) s.heap H locs) {k ci f t q : Nat} {v : Value} {r : List Value} {M' : ZM} (hF : zF o k = some (ci, f, t, 0)) (ht : t < 3) (hkd : zkd q = (10 + ci, 0)) (hM : zfs ad M' q ci = (zfs ad M q ci).set f v) (ho' : ∀ a, a ≠ q → zE ad cA M' a = zE ad cA M a) (h00 : ∀ a, a ≠ q → M'.1 a = M.1 a)
    (hn : ∀ ty, (t = 0 → ty = .int) → (t = 1 → ty = .long) → (t = 2 → ty = .boolean) → narrow ty v = v ∧ fits ty v = true) (hdg : decode cc pc = .ok (.putfield k, 3))
    (kk : ∀ (H1 : Heap) (locs1 : List Loc), zWd ad Bz cA D X M' H1 → va_S (zAf Bz) s.heap H1 locs1 → W p l e R s m args below meth c H1 locs1 cells slots Q (F0 m (pc + 3) L r)) : W p l e R s m args below meth c H locs cells slots Q (F0 m pc L (v :: .ref (ad q) :: r)) := by
  obtain ⟨hx, hb, ho, hown, hts⟩ := A
  obtain ⟨i, h1, h2, h3, h4, h5, h6⟩ := zF_mem ho hF
  have hr := zkd_ro hkd
  have he := zWs_get (ad := ad) (cA := cA) (M := M) hr
  rw [zE_o hkd] at he
  dsimp only at h2 h3 h4 h5 h6
  have h1 : lw_tbl[i]? = some (Jvm.Cond.fieldLink (zcn o) k (zcn ci) (zT ci f).2.1 (zT ci f).2.2.1) := h1
  have hy := zyt_ok ci h2 f h3
  obtain ⟨n1, n2⟩ := hn (zyy ci f) (fun e => hy.1.1 (by rw [h5, e])) (fun e => hy.1.2 (by rw [h5, e])) (fun e => hy.2 (by rw [h5, e]))
  have hset := zWs_set (ad := ad) (cA := cA) (M := M) (M' := M') hr (e := .inr (ci, (zfs ad M q ci).set f v)) (by rw [zE_o hkd, hM]) ho'
  refine va_put hx hb hts (zu_in h2) (zyy ci) (zy_ok ci h2) (fun a ha b hb => zn_ok ci h2 a ha b hb) hown hK.1 hH.1 hH.2.1 hS (q - 64) he (zcls_get h2) f h3 (hts _ (zgw i h1 rfl)) (fun _ h9 => by rw [h4] at h9; exact h9) (h6 ht) (zy_ok ci h2 f h3) n1 n2 (by rw [zfs_len]; exact h3) hdg (fun H1 locs1 g1 g2 g3 => ?_)
  rw [hset] at g1 g2
  exact kk H1 locs1 ⟨g1, g2, by rw [h00 0 (by have := hr.1; omega)]; exact hH.2.2.1, by rw [h00 63 (by have := hr.1; omega)]; exact hH.2.2.2⟩ g3
theorem zs_putfield (A : zA p s m args c cc o) (hK : zK ad D cA s) (hH : zWd ad Bz cA D X M H) (hS : va_S (zAf Bz) s.heap H locs) {k : Nat} (hdg : decode cc pc = .ok (.putfield k, 3)) (hz : zheap o (.putfield k) 3 pc ls st M = some x)
    (kk : x.2.1 = ls → ∀ (H1 : Heap) (locs1 : List Loc), zWd ad Bz cA D X x.2.2.2 H1 → va_S (zAf Bz) s.heap H1 locs1 → W p l e R s m args below meth c H1 locs1 cells slots Q (F0 m x.1 L (x.2.2.1.map (zcv ad)))) : W p l e R s m args below meth c H locs cells slots Q (F0 m pc L (st.map (zcv ad))) := by
  have A' := A
  obtain ⟨hx, hb, ho, hown, hts⟩ := A'
  simp only [zheap] at hz
  split at hz
  · rename_i ci f v q r hF
    split at hz
    · rename_i hkd
      cases hz
      obtain ⟨i, -, -, -, -, h5, -⟩ := zF_mem ho hF
      exact zs_put A hK hH hS hF (by decide) hkd (zfs_set h5 (show zfld (zpi M q f v) q f 0 = .int v by simp [zfld, zpi, zsi, upd]) rfl (fun j t' hj => by simp [zfld, zpi, zsi, upd, hj])) zE_zsi (fun _ h => zsi_ne h) (fun ty h0 _ _ => by rw [h0 rfl]; exact ⟨rfl, rfl⟩) hdg (kk rfl)
    · cases hz
  · rename_i ci f v q r hF
    split at hz
    · rename_i hkd
      cases hz
      obtain ⟨i, -, -, -, -, h5, -⟩ := zF_mem ho hF
      exact zs_put A hK hH hS hF (by decide) hkd (zfs_set h5 (show zfld (zpl M q f v) q f 1 = .long v by simp [zfld, zpl, zsl', vp_updL]) rfl (fun j t' hj => by simp [zfld, zpl, zsl', vp_updL, hj])) zE_zsl (fun _ _ => rfl) (fun ty _ h1 _ => by rw [h1 rfl]; exact ⟨rfl, rfl⟩) hdg (kk rfl)
    · cases hz
  · rename_i ci f v q r hF
    split at hz
    · rename_i hkd
      cases hz
      obtain ⟨i, -, -, -, -, h5, -⟩ := zF_mem ho hF
      exact zs_put A hK hH hS hF (by decide) hkd.1 (zfs_set h5 (show zfld (zpi M q f v) q f 2 = .int v by simp [zfld, zpi, zsi, upd]) rfl (fun j t' hj => by simp [zfld, zpi, zsi, upd, hj])) zE_zsi (fun _ h => zsi_ne h) (fun ty _ _ h2 => by
        rw [h2 rfl]
        rcases hkd.2 with e | e
        · rw [e]; exact ⟨rfl, rfl⟩
        · rw [e]; exact ⟨rfl, rfl⟩) hdg (kk rfl)
    · cases hz
  · cases hz
theorem zs_iaload (A : zA p s m args c cc o) (hK : zK ad D cA s) (hF0 : zF0 ad Bz X s s.heap) (hS : va_S (zAf Bz) s.heap H locs) (hH : zWd ad Bz cA D X M H) (hdg : decode cc pc = .ok (.iaload, 1)) (hz : zheap o .iaload 1 pc ls st M = some x)
    (kk : x.2.1 = ls → x.2.2.2 = M → W p l e R s m args below meth c H locs cells slots Q (F0 m x.1 L (x.2.2.1.map (zcv ad)))) : W p l e R s m args below meth c H locs cells slots Q (F0 m pc L (st.map (zcv ad))) := by
  obtain ⟨hx, hb, ho, hown, hts⟩ := A
  simp only [zheap] at hz
  split at hz
  · rename_i i q r
    split at hz
    · rename_i h
      cases hz
      have he := zWs_get (ad := ad) (cA := cA) (M := M) (zkd_r h.1 (by decide))
      rw [zE_1 h.1] at he
      exact va_iald hx hb hK.1 hH.1 (q - 64) 0 he rfl (zin_vp h.2) hdg (kk rfl rfl)
    · split at hz
      · rename_i h
        cases hz
        obtain ⟨rfl, h2⟩ := h
        obtain ⟨L0, hX1, hX2, hX3, hX4, hX5⟩ := hF0.2.2.2
        have hin := zin_vp h2
        have e63 : (M.1 63 0).toNatClampNeg = L0 := by
          rw [hH.2.2.2, hX2]
          exact nI_clamp (by omega)
        rw [e63] at hin
        have k2 := kk rfl rfl
        rw [hH.2.2.1] at k2
        exact va_sld hx hb hX1 hX5 hX4 hS hin hdg k2
      · cases hz
  · cases hz
theorem zs_baload (A : zA p s m args c cc o) (hK : zK ad D cA s) (hF0 : zF0 ad Bz X s s.heap) (hS : va_S (zAf Bz) s.heap H locs) (hH : zWd ad Bz cA D X M H) (hdg : decode cc pc = .ok (.baload, 1)) (hz : zheap o .baload 1 pc ls st M = some x)
    (kk : x.2.1 = ls → x.2.2.2 = M → W p l e R s m args below meth c H locs cells slots Q (F0 m x.1 L (x.2.2.1.map (zcv ad)))) : W p l e R s m args below meth c H locs cells slots Q (F0 m pc L (st.map (zcv ad))) := by
  obtain ⟨hx, hb, ho, hown, hts⟩ := A
  simp only [zheap] at hz
  split at hz
  · rename_i i q r
    split at hz
    · rename_i h
      cases hz
      rcases h.1 with h1 | h1
      · have he := zWs_get (ad := ad) (cA := cA) (M := M) (zkd_r h1 (by decide))
        rw [zE_3 h1] at he
        exact va_zald hx hb hK.1 hH.1 (q - 64) 2 he rfl (zin_vp h.2) hdg (kk rfl rfl)
      · have he := zWs_get (ad := ad) (cA := cA) (M := M) (zkd_r h1 (by decide))
        rw [zE_4 h1] at he
        exact va_bald hx hb hK.1 hH.1 (q - 64) 3 he rfl (zin_vp h.2) hdg (kk rfl rfl)
    · split at hz
      · rename_i h
        cases hz
        obtain ⟨h17, hq⟩ := zkd9 h.1
        have hT := zF0_T hF0 h17
        rw [← hq] at hT
        exact va_tb hx hb hT hS (zin_vp h.2) rfl hdg (kk rfl rfl)
      · cases hz
  · cases hz
theorem zs_laload (A : zA p s m args c cc o) (hK : zK ad D cA s) (hH : zWd ad Bz cA D X M H) (hF0 : zF0 ad Bz X s s.heap) (hS : va_S (zAf Bz) s.heap H locs) (hdg : decode cc pc = .ok (.laload, 1)) (hz : zheap o .laload 1 pc ls st M = some x)
    (kk : x.2.1 = ls → x.2.2.2 = M → W p l e R s m args below meth c H locs cells slots Q (F0 m x.1 L (x.2.2.1.map (zcv ad)))) : W p l e R s m args below meth c H locs cells slots Q (F0 m pc L (st.map (zcv ad))) := by
  obtain ⟨hx, hb, ho, hown, hts⟩ := A
  simp only [zheap] at hz
  split at hz
  · rename_i i q r
    split at hz
    · rename_i h
      cases hz
      have he := zWs_get (ad := ad) (cA := cA) (M := M) (zkd_r h.1 (by decide))
      rw [zE_2 h.1] at he
      exact va_lald hx hb hK.1 hH.1 (q - 64) 1 he rfl (zin_vp h.2) hdg (kk rfl rfl)
    · split at hz
      · rename_i h
        cases hz
        exact va_tl hx hb (hF0.1 q h.1) hS (zin_vp h.2) rfl hdg (kk rfl rfl)
      · cases hz
  · cases hz
theorem zra_all : ∀ q, q < 896 → (zkd q).1 = 5 → (zkd q).2 < 7 := by decide +kernel
theorem zra_lt {q : Nat} (h : (zkd q).1 = 5) : (zkd q).2 < 7 := by
  have := zkd_r h (by decide)
  exact zra_all q (Nat.lt_of_lt_of_le this.2 (by decide)) h
theorem zs_aaload (A : zA p s m args c cc o) (hK : zK ad D cA s) (hH : zWd ad Bz cA D X M H) (hdg : decode cc pc = .ok (.aaload, 1)) (hz : zheap o .aaload 1 pc ls st M = some x)
    (kk : x.2.1 = ls → x.2.2.2 = M → W p l e R s m args below meth c H locs cells slots Q (F0 m x.1 L (x.2.2.1.map (zcv ad)))) : W p l e R s m args below meth c H locs cells slots Q (F0 m pc L (st.map (zcv ad))) := by
  obtain ⟨hx, hb, ho, hown, hts⟩ := A
  simp only [zheap] at hz
  split at hz
  · rename_i i q r
    split at hz
    · rename_i h
      cases hz
      have he := zWs_get (ad := ad) (cA := cA) (M := M) (zkd_r h.1 (by decide))
      rw [zE_5 h.1] at he
      have hj := zra_lt h.1
      have hin := zin_vp h.2
      generalize (zkd q).2 = j at hj he hin kk
      have hlt : i.toNatClampNeg < (zra j).1 := Nat.not_le.mp fun z => hin (Or.inr z)
      have key : ∀ (ty : FieldType) (hty : ty.isReference = true) (n : Nat), (ztys cA)[n]? = some (cA (zrc j), ty) → W p l e R s m args below meth c H locs cells slots Q (F0 m pc L ((.int i :: .ref q :: r : List Value).map (zcv ad))) := by
        intro ty hty n hn
        exact W.aald (v := .ref (ad (q + (zra j).2.1 + (zra j).2.2 * i.toNatClampNeg))) (ty := ty) hx hb (hH.1 _ _ he) ((hK.1.2 n _ hn).1 (zra j).1 (fun jj => va_rf (some (ad (q + (zra j).2.1 + (zra j).2.2 * jj))))) hty (fun z => by cases z) (by show ¬ (i < 0 ∨ (arrV _ _ _).slots.size ≤ _); rw [arrV_size]; exact hin) (by show (arrV _ _ _).slots[_]? = _; rw [arrV_read _ _ hlt]; rfl) rfl rfl hdg (kk rfl rfl)
      rcases (show j = 0 ∨ j = 1 ∨ j = 2 ∨ j = 3 ∨ j = 4 ∨ j = 5 ∨ j = 6 by omega) with rfl | rfl | rfl | rfl | rfl | rfl | rfl
      · exact key (.array .int) rfl 4 rfl
      · exact key (.object "CrossSums$Board") rfl 5 rfl
      · exact key (.object "CrossSums$Board") rfl 5 rfl
      · exact key (.object "CrossSums$Rule") rfl 6 rfl
      · exact key (.array .int) rfl 4 rfl
      · exact key (.array .int) rfl 4 rfl
      · exact key (.array .int) rfl 4 rfl
    · cases hz
  · cases hz
theorem zs_iastore (A : zA p s m args c cc o) (hK : zK ad D cA s) (hH : zWd ad Bz cA D X M H) (hS : va_S (zAf Bz) s.heap H locs) (hdg : decode cc pc = .ok (.iastore, 1)) (hz : zheap o .iastore 1 pc ls st M = some x)
    (kk : x.2.1 = ls → ∀ (H1 : Heap) (locs1 : List Loc), zWd ad Bz cA D X x.2.2.2 H1 → va_S (zAf Bz) s.heap H1 locs1 → W p l e R s m args below meth c H1 locs1 cells slots Q (F0 m x.1 L (x.2.2.1.map (zcv ad)))) : W p l e R s m args below meth c H locs cells slots Q (F0 m pc L (st.map (zcv ad))) := by
  obtain ⟨hx, hb, ho, hown, hts⟩ := A
  simp only [zheap] at hz
  split at hz
  · rename_i v i q r
    split at hz
    · rename_i h
      cases hz
      have hr := zkd_r h.1 (by decide)
      have he := zWs_get (ad := ad) (cA := cA) (M := M) hr
      rw [zE_1 h.1] at he
      refine va_iast hx hb hK.1 hH.1 hH.2.1 hS (q - 64) 0 he rfl (zin_vp h.2) hdg (fun H1 locs1 g1 g2 g3 => ?_)
      rw [zWs_set (M' := zpi M q i.toNatClampNeg v) hr (by rw [zE_1 h.1]; unfold zpi; rw [zsi_eq]) zE_zsi] at g1 g2
      exact kk rfl H1 locs1 ⟨g1, g2, (zsi_ne (by have := hr.1; omega)).trans hH.2.2.1, (zsi_ne (by have := hr.1; omega)).trans hH.2.2.2⟩ g3
    · cases hz
  · cases hz
theorem zs_bastore (A : zA p s m args c cc o) (hK : zK ad D cA s) (hH : zWd ad Bz cA D X M H) (hS : va_S (zAf Bz) s.heap H locs) (hdg : decode cc pc = .ok (.bastore, 1)) (hz : zheap o .bastore 1 pc ls st M = some x)
    (kk : x.2.1 = ls → ∀ (H1 : Heap) (locs1 : List Loc), zWd ad Bz cA D X x.2.2.2 H1 → va_S (zAf Bz) s.heap H1 locs1 → W p l e R s m args below meth c H1 locs1 cells slots Q (F0 m x.1 L (x.2.2.1.map (zcv ad)))) : W p l e R s m args below meth c H locs cells slots Q (F0 m pc L (st.map (zcv ad))) := by
  obtain ⟨hx, hb, ho, hown, hts⟩ := A
  simp only [zheap] at hz
  split at hz
  · rename_i v i q r
    split at hz
    · rename_i h
      cases hz
      have hr := zkd_r h.1 (by decide)
      have he := zWs_get (ad := ad) (cA := cA) (M := M) hr
      rw [zE_3 h.1] at he
      refine va_zast hx hb hK.1 hH.1 hH.2.1 hS (q - 64) 2 he rfl (zin_vp h.2) hdg (fun H1 locs1 g1 g2 g3 => ?_)
      rw [zWs_set (M' := zpi M q i.toNatClampNeg (vp_nar .boolean v)) hr (by rw [zE_3 h.1]; unfold zpi; rw [zsi_eq]) zE_zsi] at g1 g2
      exact kk rfl H1 locs1 ⟨g1, g2, (zsi_ne (by have := hr.1; omega)).trans hH.2.2.1, (zsi_ne (by have := hr.1; omega)).trans hH.2.2.2⟩ g3
    · split at hz
      · rename_i h
        cases hz
        have hr := zkd_r h.1 (by decide)
        have he := zWs_get (ad := ad) (cA := cA) (M := M) hr
        rw [zE_4 h.1] at he
        refine va_bast hx hb hK.1 hH.1 hH.2.1 hS (q - 64) 3 he rfl (zin_vp h.2) hdg (fun H1 locs1 g1 g2 g3 => ?_)
        rw [zWs_set (M' := zpi M q i.toNatClampNeg (vp_nar .byte v)) hr (by rw [zE_4 h.1]; unfold zpi; rw [zsi_eq]) zE_zsi] at g1 g2
        exact kk rfl H1 locs1 ⟨g1, g2, (zsi_ne (by have := hr.1; omega)).trans hH.2.2.1, (zsi_ne (by have := hr.1; omega)).trans hH.2.2.2⟩ g3
      · cases hz
  · cases hz
theorem zs_lastore (A : zA p s m args c cc o) (hK : zK ad D cA s) (hH : zWd ad Bz cA D X M H) (hS : va_S (zAf Bz) s.heap H locs) (hdg : decode cc pc = .ok (.lastore, 1)) (hz : zheap o .lastore 1 pc ls st M = some x)
    (kk : x.2.1 = ls → ∀ (H1 : Heap) (locs1 : List Loc), zWd ad Bz cA D X x.2.2.2 H1 → va_S (zAf Bz) s.heap H1 locs1 → W p l e R s m args below meth c H1 locs1 cells slots Q (F0 m x.1 L (x.2.2.1.map (zcv ad)))) : W p l e R s m args below meth c H locs cells slots Q (F0 m pc L (st.map (zcv ad))) := by
  obtain ⟨hx, hb, ho, hown, hts⟩ := A
  simp only [zheap] at hz
  split at hz
  · rename_i v i q r
    split at hz
    · rename_i h
      cases hz
      have hr := zkd_r h.1 (by decide)
      have he := zWs_get (ad := ad) (cA := cA) (M := M) hr
      rw [zE_2 h.1] at he
      refine va_last hx hb hK.1 hH.1 hH.2.1 hS (q - 64) 1 he rfl (zin_vp h.2) hdg (fun H1 locs1 g1 g2 g3 => ?_)
      rw [zWs_set (M' := zpl M q i.toNatClampNeg v) hr (by rw [zE_2 h.1]; unfold zpl; rw [zsl_eq]) zE_zsl] at g1 g2
      exact kk rfl H1 locs1 ⟨g1, g2, hH.2.2.1, hH.2.2.2⟩ g3
    · cases hz
  · cases hz
theorem zs_arraylength (A : zA p s m args c cc o) (hK : zK ad D cA s) (hF0 : zF0 ad Bz X s s.heap) (hS : va_S (zAf Bz) s.heap H locs) (hH : zWd ad Bz cA D X M H) (hdg : decode cc pc = .ok (.arraylength, 1)) (hz : zheap o .arraylength 1 pc ls st M = some x)
    (kk : x.2.1 = ls → x.2.2.2 = M → W p l e R s m args below meth c H locs cells slots Q (F0 m x.1 L (x.2.2.1.map (zcv ad)))) : W p l e R s m args below meth c H locs cells slots Q (F0 m pc L (st.map (zcv ad))) := by
  obtain ⟨hx, hb, ho, hown, hts⟩ := A
  simp only [zheap] at hz
  split at hz
  · rename_i q r
    split at hz
    · rename_i h
      cases hz
      rcases h with h | h | h | h
      · have he := zWs_get (ad := ad) (cA := cA) (M := M) (zkd_r h (by decide))
        rw [zE_1 h] at he
        exact va_alen hx hb hK.1 hH.1 (q - 64) 0 he (ty := .int) rfl rfl hdg (kk rfl rfl)
      · have he := zWs_get (ad := ad) (cA := cA) (M := M) (zkd_r h (by decide))
        rw [zE_2 h] at he
        exact va_alen hx hb hK.1 hH.1 (q - 64) 1 he (ty := .long) rfl rfl hdg (kk rfl rfl)
      · have he := zWs_get (ad := ad) (cA := cA) (M := M) (zkd_r h (by decide))
        rw [zE_3 h] at he
        exact va_alen hx hb hK.1 hH.1 (q - 64) 2 he (ty := .boolean) rfl rfl hdg (kk rfl rfl)
      · have he := zWs_get (ad := ad) (cA := cA) (M := M) (zkd_r h (by decide))
        rw [zE_4 h] at he
        exact va_alen hx hb hK.1 hH.1 (q - 64) 3 he (ty := .byte) rfl rfl hdg (kk rfl rfl)
    · split at hz
      · rename_i h
        cases hz
        have he := zWs_get (ad := ad) (cA := cA) (M := M) (zkd_r h (by decide))
        rw [zE_5 h] at he
        have hj := zra_lt h
        generalize (zkd q).2 = j at hj he kk
        rcases (show j = 0 ∨ j = 1 ∨ j = 2 ∨ j = 3 ∨ j = 4 ∨ j = 5 ∨ j = 6 by omega) with rfl | rfl | rfl | rfl | rfl | rfl | rfl
        · exact va_alen hx hb hK.1 hH.1 (q - 64) 4 he (ty := .array .int) rfl rfl hdg (kk rfl rfl)
        · exact va_alen hx hb hK.1 hH.1 (q - 64) 5 he (ty := .object "CrossSums$Board") rfl rfl hdg (kk rfl rfl)
        · exact va_alen hx hb hK.1 hH.1 (q - 64) 5 he (ty := .object "CrossSums$Board") rfl rfl hdg (kk rfl rfl)
        · exact va_alen hx hb hK.1 hH.1 (q - 64) 6 he (ty := .object "CrossSums$Rule") rfl rfl hdg (kk rfl rfl)
        · exact va_alen hx hb hK.1 hH.1 (q - 64) 4 he (ty := .array .int) rfl rfl hdg (kk rfl rfl)
        · exact va_alen hx hb hK.1 hH.1 (q - 64) 4 he (ty := .array .int) rfl rfl hdg (kk rfl rfl)
        · exact va_alen hx hb hK.1 hH.1 (q - 64) 4 he (ty := .array .int) rfl rfl hdg (kk rfl rfl)
      · split at hz
        · rename_i h0
          cases hz
          subst h0
          obtain ⟨L0, hX1, hX2, hX3, hX4, hX5⟩ := hF0.2.2.2
          have k2 := kk rfl rfl
          have e63 : M.1 63 0 = Int32.ofNat L0 := by
            rw [hH.2.2.2]
            exact hX2
          rw [e63] at k2
          exact va_slen hx hb hX1 hX5 hX4 hS hdg k2
        · split at hz
          · rename_i h
            cases hz
            obtain ⟨h17, hq⟩ := zkd9 h
            have hT := zF0_T hF0 h17
            rw [← hq] at hT
            exact va_tlen hx hb hT hS rfl hdg (kk rfl rfl)
          · cases hz
  · cases hz
theorem zs_ldcString {T : State} (X : Stand p l e R s m args below meth c T locs cells slots) (hexec : p.tables.exec = Jvm.exec) {own text : String} {index : Nat} {a : Addr} (hown : s.vm.findClass own = some m.cls)
    (hconst : (Cond.stringRef own index text).before args s = true) (hev : (Term.string own index).eval args s none [] s = some (.ref a)) {g : JFrame} (hg : g.method = m) (hdg : decode c.code g.pc = .ok (.ldc_w index, 3)) :
    ∀ target, Steps p.tables e below (T.setTop { g with pc := g.pc + 3, stack := .ref a :: g.stack }) target → Steps p.tables e below (T.setTop g) target := by
  obtain ⟨k, cf, i, a', hk, hcf, hcp, -, hr, hev'⟩ := Cond.stringRef_spec hown hconst
  cases hev.symm.trans hev'
  obtain ⟨k', hk', he⟩ := X.warmed.alike.2.2 _ _ hk
  have hr' : k'.resolved[index]? = some (some (.string a)) := by
    rcases X.warmed.entry hk hk' index with h | ⟨h, -⟩
    · rw [h]; exact hr
    · rw [hr] at h; cases h
  intro target hrest
  subst hg
  jvm_step X.here [hexec, hdg, ldc_w.wp_string (e := e) (s := T) (f := g) X.here.top hk' (by rw [he]; exact hcf) hcp hr']
  exact hrest
theorem zs_ldcX (A : zA p s m args c cc o) (hK : zK ad D cA s) {k : Nat} (hdg : decode cc pc = .ok (.ldc k, 2)) (hz : zheap o (.ldc k) 2 pc ls st M = some x)
    (kk : x.2.1 = ls → x.2.2.2 = M → W p l e R s m args below meth c H locs cells slots Q (F0 m x.1 L (x.2.2.1.map (zcv ad)))) : W p l e R s m args below meth c H locs cells slots Q (F0 m pc L (st.map (zcv ad))) := by
  obtain ⟨hx, hb, ho, hown, hts⟩ := A
  simp only [zheap] at hz
  split at hz
  · rename_i q hq
    cases hz
    exact va_ldcS hx hb hown (hK.2.2.2 o k q hq) hdg (kk rfl rfl)
  · cases hz
theorem zs_ldcwX (A : zA p s m args c cc o) (hK : zK ad D cA s) {k : Nat} (hdg : decode cc pc = .ok (.ldc_w k, 3)) (hz : zheap o (.ldc_w k) 3 pc ls st M = some x)
    (kk : x.2.1 = ls → x.2.2.2 = M → W p l e R s m args below meth c H locs cells slots Q (F0 m x.1 L (x.2.2.1.map (zcv ad)))) : W p l e R s m args below meth c H locs cells slots Q (F0 m pc L (st.map (zcv ad))) := by
  obtain ⟨hx, hb, ho, hown, hts⟩ := A
  simp only [zheap] at hz
  split at hz
  · rename_i q hq
    cases hz
    have hZ := hK.2.2.2 o k q hq
    intro T hT X
    obtain ⟨t, a1, b1⟩ := kk rfl rfl T hT X
    exact ⟨t, zs_ldcString X hx hown (text := ztxs.getD (q - 1) "") (a := ad q) hZ.1 hZ.2 (g := F0 m pc L (st.map (zcv ad))) rfl (by rw [hb]; exact hdg) t a1, b1⟩
  · cases hz
theorem zs_getstatic (A : zA p s m args c cc o) (hK : zK ad D cA s) (hF0 : zF0 ad Bz X s s.heap) (hS : va_S (zAf Bz) s.heap H locs) {k : Nat} (hdg : decode cc pc = .ok (.getstatic k, 3)) (hz : zheap o (.getstatic k) 3 pc ls st M = some x)
    (kk : x.2.1 = ls → x.2.2.2 = M → W p l e R s m args below meth c H locs cells slots Q (F0 m x.1 L (x.2.2.1.map (zcv ad)))) : W p l e R s m args below meth c H locs cells slots Q (F0 m pc L (st.map (zcv ad))) := by
  obtain ⟨hx, hb, ho, hown, hts⟩ := A
  simp only [zheap] at hz
  split at hz
  · rename_i q hq
    cases hz
    have hm := zlk_mem hq
    have h3 : (o = 3 ∧ ((k = 86 ∧ q = 60) ∨ (k = 89 ∧ q = 61))) ∨ (o = 15 ∧ ((k = 38 ∧ q = 59) ∨ (k = 1053 ∧ q = 62))) := by
      have hall : ∀ o, o < 18 → ∀ e ∈ zGl o, (o = 3 ∧ ((e.1 = 86 ∧ e.2 = 60) ∨ (e.1 = 89 ∧ e.2 = 61))) ∨ (o = 15 ∧ ((e.1 = 38 ∧ e.2 = 59) ∨ (e.1 = 1053 ∧ e.2 = 62))) := by decide +kernel
      exact hall o ho _ hm
    rcases h3 with ⟨rfl, ⟨rfl, rfl⟩ | ⟨rfl, rfl⟩⟩ | ⟨rfl, ⟨rfl, rfl⟩ | ⟨rfl, rfl⟩⟩
    · exact va_gets hx hb hF0.2.1.1 hS hown (hts (.fieldLink "CrossSums$Rule" 86 "CrossSums$Rule" "WITHOUT_LOW" "[J") (zgw 969 (by decide +kernel) rfl)) (fun _ h => h) hdg (kk rfl rfl)
    · exact va_gets hx hb hF0.2.1.2 hS hown (hts (.fieldLink "CrossSums$Rule" 89 "CrossSums$Rule" "WITHOUT_HIGH" "[J") (zgw 971 (by decide +kernel) rfl)) (fun _ h => h) hdg (kk rfl rfl)
    · exact va_gets hx hb hF0.2.2.1.2.1 hS hown (hts (.fieldLink "java/lang/String" 38 "java/lang/String" "COMPACT_STRINGS" "Z") (zgw 672 (by decide +kernel) rfl)) (fun _ h => h) hdg (kk rfl rfl)
    · exact va_gets hx hb hF0.2.2.1.2.2 hS hown (hts (.fieldLink "java/lang/String" 1053 "jdk/internal/util/Preconditions" "SIOOBE_FORMATTER" "Ljava/util/function/BiFunction;") (zgw 692 (by decide +kernel) rfl)) (fun _ h => h) hdg (kk rfl rfl)
  · cases hz
theorem zheap_ls {i : Instr} {len : Nat} (hz : zheap o i len pc ls st M = some x) : x.2.1 = ls := by
  unfold zheap at hz
  split at hz
  all_goals (repeat' split at hz)
  all_goals first | (cases hz; rfl) | (cases hz)
set_option maxHeartbeats 4000000 in
/-- any instruction of the heap -/
theorem zs_heap (A : zA p s m args c cc o) (hK : zK ad D cA s) (hF0 : zF0 ad Bz X s s.heap) (hH : zWd ad Bz cA D X M H) (hS : va_S (zAf Bz) s.heap H locs) {i : Instr} {len : Nat} (hdg : decode cc pc = .ok (i, len)) (hlen : zlen i len = true) (hz : zheap o i len pc ls st M = some x)
    (kk : ∀ (H1 : Heap) (locs1 : List Loc), zWd ad Bz cA D X x.2.2.2 H1 → va_S (zAf Bz) s.heap H1 locs1 → W p l e R s m args below meth c H1 locs1 cells slots Q (F0 m x.1 L (x.2.2.1.map (zcv ad)))) : W p l e R s m args below meth c H locs cells slots Q (F0 m pc L (st.map (zcv ad))) := by
  have k0 : x.2.1 = ls → x.2.2.2 = M → W p l e R s m args below meth c H locs cells slots Q (F0 m x.1 L (x.2.2.1.map (zcv ad))) := fun _ h2 => kk H locs (by rw [h2]; exact hH) hS
  cases i
  case ldc k => obtain rfl : len = 2 := Nat.eq_of_beq_eq_true hlen; exact zs_ldcX A hK hdg hz k0
  case ldc_w k => obtain rfl : len = 3 := Nat.eq_of_beq_eq_true hlen; exact zs_ldcwX A hK hdg hz k0
  case getstatic k => obtain rfl : len = 3 := Nat.eq_of_beq_eq_true hlen; exact zs_getstatic A hK hF0 hS hdg hz k0
  case getfield k => obtain rfl : len = 3 := Nat.eq_of_beq_eq_true hlen; exact zs_getfield A hK hF0 hS hH hdg hz k0
  case putfield k => obtain rfl : len = 3 := Nat.eq_of_beq_eq_true hlen; exact zs_putfield A hK hH hS hdg hz (fun _ => kk)
  case iaload => obtain rfl : len = 1 := Nat.eq_of_beq_eq_true hlen; exact zs_iaload A hK hF0 hS hH hdg hz k0
  case baload => obtain rfl : len = 1 := Nat.eq_of_beq_eq_true hlen; exact zs_baload A hK hF0 hS hH hdg hz k0
  case laload => obtain rfl : len = 1 := Nat.eq_of_beq_eq_true hlen; exact zs_laload A hK hH hF0 hS hdg hz k0
  case aaload => obtain rfl : len = 1 := Nat.eq_of_beq_eq_true hlen; exact zs_aaload A hK hH hdg hz k0
  case iastore => obtain rfl : len = 1 := Nat.eq_of_beq_eq_true hlen; exact zs_iastore A hK hH hS hdg hz (fun _ => kk)
  case bastore => obtain rfl : len = 1 := Nat.eq_of_beq_eq_true hlen; exact zs_bastore A hK hH hS hdg hz (fun _ => kk)
  case lastore => obtain rfl : len = 1 := Nat.eq_of_beq_eq_true hlen; exact zs_lastore A hK hH hS hdg hz (fun _ => kk)
  case arraylength => obtain rfl : len = 1 := Nat.eq_of_beq_eq_true hlen; exact zs_arraylength A hK hF0 hS hH hdg hz k0
  all_goals (simp only [zheap] at hz; cases hz)
end ZHEAP
