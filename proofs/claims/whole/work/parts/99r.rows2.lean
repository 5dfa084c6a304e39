/-! THE BEGINNING, 1: one making of an array of arrays of ints -/
/-- the outer array when i of its N rows are in place -/
def mnO (cA : ClassId) (N h0 i : Nat) : Cell := { cls := cA, slots := Array.ofFn (n := N) fun j => if j.val < i then .ref (h0 + 1 + j.val) else .null, vm := .none }
def mnI (comp : ClassId) (M : Nat) : Cell := { cls := comp, slots := Array.replicate M (.int 0), vm := .none }
/-- the state when i rows are in place -/
def mnS (s : State) (cA comp : ClassId) (N M : Nat) : Nat → State
  | 0 => s.pushCell (mnO cA N s.heap.size 0)
  | i + 1 => ((mnS s cA comp N M i).pushCell (mnI comp M)).setCell s.heap.size (mnO cA N s.heap.size (i + 1))
theorem mnO_len {cA : ClassId} {N h0 i : Nat} : (mnO cA N h0 i).slots.size = N := by simp [mnO]
theorem mnO_0 {cA : ClassId} {N h0 : Nat} : mnO cA N h0 0 = { cls := cA, slots := Array.replicate N .null, vm := .none } := by
  unfold mnO
  congr 1
  apply Array.ext_getElem?
  intro j
  simp [Array.getElem?_ofFn, Array.getElem?_replicate]
theorem mnO_put {cA : ClassId} {N h0 i : Nat} (hi : i < N) : (mnO cA N h0 i).setSlot i (.ref (h0 + 1 + i)) = mnO cA N h0 (i + 1) := by
  unfold mnO Cell.setSlot
  congr 1
  apply Array.ext_getElem?
  intro j
  rw [Array.getElem?_setIfInBounds]
  by_cases e : i = j
  · subst e
    simp [hi]
  · rw [if_neg e]
    by_cases hj : j < N
    · simp only [Array.getElem?_ofFn, hj, dite_true]
      by_cases h : j < i
      · rw [if_pos h, if_pos (by omega)]
      · rw [if_neg h, if_neg (by omega)]
    · simp [Array.getElem?_ofFn, hj]
theorem mnS_all (s : State) (cA comp : ClassId) (N M : Nat) : ∀ i, ((mnS s cA comp N M i).heap.size = s.heap.size + 1 + i ∧ (mnS s cA comp N M i).heap[s.heap.size]? = some (mnO cA N s.heap.size i)) ∧ (mnS s cA comp N M i).vm = s.vm ∧ (mnS s cA comp N M i).slotsUsed = s.slotsUsed + N + i * M := by
  intro i
  induction i with
  | zero => exact ⟨⟨by simp [mnS], by simp [mnS]⟩, rfl, by simp [mnS, mnO]⟩
  | succ i ih =>
    obtain ⟨⟨a1, a2⟩, a3, a4⟩ := ih
    have h1 : ((mnS s cA comp N M i).pushCell (mnI comp M)).heap[s.heap.size]? = some (mnO cA N s.heap.size i) := by
      rw [State.heap_pushCell_of_lt _ _ (show s.heap.size < (mnS s cA comp N M i).heap.size by omega)]
      exact a2
    refine ⟨⟨?_, State.heap_setCell_self h1⟩, by simp [mnS, a3], ?_⟩
    · simp [mnS, State.setCell, a1]
      omega
    · have : (i + 1) * M = i * M + M := Nat.succ_mul i M
      simp [mnS, a4, mnI]
      omega
theorem mnS_top (s : State) (f : JFrame) (cA comp : ClassId) (N M : Nat) : ∀ i, mnS (s.setTop f) cA comp N M i = (mnS s cA comp N M i).setTop f
  | 0 => rfl
  | i + 1 => by simp only [mnS, mnS_top s f cA comp N M i, State.heap_setTop, State.pushCell_setTop, State.setCell_setTop]
theorem mnS_old (s : State) (cA comp : ClassId) (N M : Nat) {a : Addr} (ha : a < s.heap.size) : ∀ i, (mnS s cA comp N M i).heap[a]? = s.heap[a]? := by
  intro i
  induction i with
  | zero => exact State.heap_pushCell_of_lt _ _ ha
  | succ i ih =>
    have h := (mnS_all s cA comp N M i).1.1
    show (((mnS s cA comp N M i).pushCell (mnI comp M)).setCell s.heap.size _).heap[a]? = _
    rw [State.heap_setCell_other (Nat.ne_of_gt ha), State.heap_pushCell_of_lt _ _ (Nat.lt_of_lt_of_le ha (show s.heap.size ≤ (mnS s cA comp N M i).heap.size by omega))]
    exact ih
theorem mnS_in (s : State) (cA comp : ClassId) (N M : Nat) : ∀ i j, j < i → (mnS s cA comp N M i).heap[s.heap.size + 1 + j]? = some (mnI comp M) := by
  intro i
  induction i with
  | zero => intro j h; omega
  | succ i ih =>
    intro j hj
    have h := (mnS_all s cA comp N M i).1.1
    show (((mnS s cA comp N M i).pushCell (mnI comp M)).setCell s.heap.size _).heap[s.heap.size + 1 + j]? = _
    rw [State.heap_setCell_other (show s.heap.size ≠ s.heap.size + 1 + j by omega)]
    by_cases e : j = i
    · subst e
      rw [← h]
      exact State.heap_pushCell_size _ _
    · rw [State.heap_pushCell_of_lt _ _ (show s.heap.size + 1 + j < (mnS s cA comp N M i).heap.size by omega)]
      exact ih j (by omega)
section QMN2
variable {E : CtlPost} {e : Env} {d : Bool} {acts : List Action} {s : State}
theorem wp_newa1 {c comp : ClassId} {k : Class} {ty : FieldType} {n : Nat} {v : Value} (hk : s.vm.classes[c]? = some k) (hkind : k.kind = .array comp ty) (hn : ¬ n > e.platform.arrayLengthLimit) (hb : ¬ n * componentBytes ty > e.platform.maxHeapBytes) (hv : fits ty v = true ∧ v.isDefault = true) (h1 : s.heap.size < e.platform.maxCells) (h2 : s.slotsUsed + n ≤ e.platform.maxSlots) {P : Addr → Pre}
    (kk : P s.heap.size d acts (s.pushCell { cls := c, slots := Array.replicate n v, vm := .none })) : wp (Jvm.newArray c n v) P E e d acts s := by
  have g1 : ∀ i w, (Array.replicate n v)[i]? = some w → s.fitsSlot c .none i w = true := by
    intro i w hw
    rw [Array.getElem?_replicate] at hw
    split at hw
    · cases hw
      simp [State.fitsSlot, State.slotType?, hk, hkind, hv.1]
    · cases hw
  have g2 : allocActs (Array.replicate n v) s.heap.size acts = acts := by
    unfold allocActs
    rw [if_pos (by rw [Array.all_replicate]; split <;> simp [hv.2])]
  simp only [Jvm.newArray, Jvm.arrayFits, wp_bind', W.ask, W.ite, hn, if_false, wp_pure', W.theClass, hk, hkind, hb, W.alloc, W.stop, Option.some.injEq, exists_eq_left', Array.size_replicate, g2]
  rw [if_neg (by omega)]
  exact ⟨h1, h2, g1, kk⟩
theorem wp_mn {cA comp cc : ClassId} {kA kC : Class} {n m : Int32} (hA : s.vm.classes[cA]? = some kA ∧ kA.kind = .array comp (.array .int)) (hC : s.vm.classes[comp]? = some kC ∧ kC.kind = .array cc .int) (hn : ¬ n < 0) (hm : ¬ m < 0)
    (l1 : ¬ n.toNatClampNeg > e.platform.arrayLengthLimit) (b1 : ¬ n.toNatClampNeg * 4 > e.platform.maxHeapBytes) (l2 : ¬ m.toNatClampNeg > e.platform.arrayLengthLimit) (b2 : ¬ m.toNatClampNeg * 4 > e.platform.maxHeapBytes)
    (hc : s.heap.size + 1 + n.toNatClampNeg ≤ e.platform.maxCells) (hs : s.slotsUsed + n.toNatClampNeg + n.toNatClampNeg * m.toNatClampNeg ≤ e.platform.maxSlots) {P : Addr → Pre}
    (kk : ∀ d' acts', P s.heap.size d' acts' (mnS s cA comp n.toNatClampNeg m.toNatClampNeg n.toNatClampNeg)) : wp (multianewarray.make cA [n, m]) P E e d acts s := by
  have hf : ([m].find? (· < 0)) = none := by simp [hm]
  rw [multianewarray.make]
  simp only [wp_bind', W.ite, hn, if_false, wp_pure', W.theClass, hA.1, hA.2, Option.some.injEq, exists_eq_left']
  refine wp_newa1 hA.1 hA.2 l1 b1 ⟨rfl, rfl⟩ (by omega) (by have := Nat.zero_le (n.toNatClampNeg * m.toNatClampNeg); omega) ?_
  simp only [hf]
  rw [ite_self, wp_bind', Std.Legacy.Range.forIn_eq_forIn_range']
  rw [show ([:n.toNatClampNeg] : Std.Legacy.Range).size = n.toNatClampNeg by simp [Std.Legacy.Range.size]]
  show wp (forIn (List.range' 0 n.toNatClampNeg 1) PUnit.unit _) _ E e d acts _
  refine wp_forIn_inv (fun rest t => ∃ i, i ≤ n.toNatClampNeg ∧ rest = List.range' i (n.toNatClampNeg - i) ∧ t = mnS s cA comp n.toNatClampNeg m.toNatClampNeg i) _ _ ⟨0, Nat.zero_le _, rfl, by show _ = s.pushCell _; rw [mnO_0]⟩ ?_ ?_
  · rintro x rest t d' acts' P' ⟨i, hi, hl, rfl⟩ hnext
    have hlt : i < n.toNatClampNeg := by
      by_cases h : i < n.toNatClampNeg
      · exact h
      · rw [show n.toNatClampNeg - i = 0 by omega] at hl
        cases hl
    rw [show n.toNatClampNeg - i = (n.toNatClampNeg - (i + 1)) + 1 by omega, List.range'_succ] at hl
    obtain ⟨ex, er⟩ := List.cons.inj hl
    subst ex
    obtain ⟨⟨f1, f2⟩, f3, f4⟩ := mnS_all s cA comp n.toNatClampNeg m.toNatClampNeg x
    have hmul : x * m.toNatClampNeg + m.toNatClampNeg ≤ n.toNatClampNeg * m.toNatClampNeg := by
      rw [← Nat.succ_mul]
      exact Nat.mul_le_mul_right _ hlt
    simp only [wp_bind']
    rw [multianewarray.make]
    simp only [wp_bind', W.ite, hm, if_false, wp_pure', W.theClass, f3, hC.1, hC.2, Option.some.injEq, exists_eq_left']
    refine wp_newa1 (by rw [f3]; exact hC.1) hC.2 l2 b2 ⟨rfl, rfl⟩ (by rw [f1]; omega) (by rw [f4]; omega) ?_
    simp only [wp_bind', W.writeLoc, wp_pure']
    refine ⟨mnO cA n.toNatClampNeg s.heap.size x, by rw [State.heap_pushCell_of_lt _ _ (show s.heap.size < (mnS s cA comp n.toNatClampNeg m.toNatClampNeg x).heap.size by omega)]; exact f2, by simp [mnO], by rw [mnO_len]; exact hlt, ?_, hnext _ _ _ ⟨x + 1, hlt, er, ?_⟩⟩
    · simp [mnO, State.fitsSlot, State.slotType?, f3, hA.1, hA.2, fits]
    · rw [f1, mnO_put hlt]
      rfl
  · rintro t d' acts' ⟨i, hi, hl, rfl⟩
    have e : i = n.toNatClampNeg := by
      by_cases h : i < n.toNatClampNeg
      · rw [show n.toNatClampNeg - i = (n.toNatClampNeg - (i + 1)) + 1 by omega, List.range'_succ] at hl
        cases hl
      · omega
    subst e
    simp only [wp_pure']
    exact kk _ _
end QMN2
section QMN3
variable {p : Program} {l : Launch} {e : Env} {R : Room} {s : State} {m : MethodId} {args : Array Value} {below : List Frame} {meth : Method} {c : Code} {H : Heap} {locs : List Loc} {cells slots : Nat} {Q : State → Prop} {cc : ByteArray} {pc : Nat} {L : Array Slot} {rest : List Value}
theorem mn_stand {T : State} (X : Stand p l e R s m args below meth c T locs cells slots) (cA comp : ClassId) (N M : Nat) : ∀ i, i ≤ N → Stand p l e R s m args below meth c (mnS T cA comp N M i) locs (cells + 1 + i) (slots + N + i * M) := by
  intro i
  induction i with
  | zero =>
    intro _
    have h := X.pushed (mnO cA N T.heap.size 0)
    rw [mnO_len] at h
    simpa [mnS] using h
  | succ i ih =>
    intro hi
    have Xi := ih (by omega)
    obtain ⟨⟨f1, f2⟩, f3, f4⟩ := mnS_all T cA comp N M i
    have h1 : ((mnS T cA comp N M i).pushCell (mnI comp M)).heap[T.heap.size]? = some (mnO cA N T.heap.size i) := by
      rw [State.heap_pushCell_of_lt _ _ (show T.heap.size < (mnS T cA comp N M i).heap.size by omega)]
      exact f2
    have h := (Xi.pushed (mnI comp M)).stored h1 i (.ref (T.heap.size + 1 + i))
    rw [mnO_put (by omega), show (mnI comp M).slots.size = M by simp [mnI], show slots + N + i * M + M = slots + N + (i + 1) * M by rw [Nat.succ_mul]; omega] at h
    refine Stand.dropFresh (J := [⟨T.heap.size, i⟩]) h fun x hx => ?_
    simp only [List.mem_singleton] at hx
    subst hx
    exact X.heapGrown
theorem zw_mna (hexec : p.tables.exec = Jvm.exec) (hb : c.code = cc) {own : String} {index : Nat} (hown : s.vm.findClass own = some m.cls) (hclink : (Cond.classLink own index "[[I").before args s = true) {cA comp : ClassId} {kA : Class} (hnameA : s.vm.findClass "[[I" = some cA) (hkA : s.vm.classes[cA]? = some kA) (hkindA : kA.kind = .array comp (.array .int)) (hcomp : s.vm.findClass "[I" = some comp) (harr : (Cond.arrayClass .int).before args s = true)
    {n k : Int32} {N M : Nat} (hn : ¬ n < 0) (hk : ¬ k < 0) (hN : n.toNatClampNeg = N) (hM : k.toNatClampNeg = M) (h1 : N ≤ 1000) (h2 : M ≤ 1000) (hc : cells + (1 + N) ≤ R.cells) (hs : slots + (N + N * M) ≤ R.slots) (hdg : decode cc pc = .ok (.multianewarray index 2, 4))
    (kk : ∀ (H1 : Heap), H1.size = H.size + 1 + N → H1[H.size]? = some (arrV cA N fun j => .ref (H.size + 1 + j)) → (∀ j, j < N → H1[H.size + 1 + j]? = some (arrV comp M fun _ => .int 0)) → (∀ q, q < H.size → H1[q]? = H[q]?) →
      W p l e R s m args below meth c H1 locs (cells + (1 + N)) (slots + (N + N * M)) Q (F0 m (pc + 4) L (.ref H.size :: rest))) : W p l e R s m args below meth c H locs cells slots Q (F0 m pc L (.int k :: .int n :: rest)) := by
  intro T hT X
  subst hT hb hN hM
  have hpl : e.platform.magicAccessors = ({} : Platform).magicAccessors := by rw [X.admits.platform]
  obtain ⟨comp', kC, ci, hcomp', hkC, hkindC⟩ := Cond.arrayClass_spec harr
  have ecomp : comp' = comp := Option.some.inj (hcomp'.symm.trans hcomp)
  subst ecomp
  obtain ⟨c0, hfc0, hcl⟩ := Cond.classLink_spec hown hclink e.platform hpl
  have e0 : cA = c0 := Option.some.inj (hnameA.symm.trans hfc0)
  subst e0
  obtain ⟨g1, g2, g3⟩ := State.classEntry (e := e) X.warmed hcl
  generalize T.vm.noted m.cls index (.cls cA) = vm1 at g1 g2 g3
  have hal : s.vm.Alike vm1 := g2.alike
  obtain ⟨kA1, hkA1, heA⟩ := hal.2.2 _ _ hkA
  obtain ⟨kC1, hkC1, heC⟩ := hal.2.2 _ _ hkC
  have hA1 : kA1.kind = .array comp' (.array .int) := by rw [heA]; exact hkindA
  have hC1 : kC1.kind = .array ci .int := by rw [heC]; exact hkindC
  have X1 := X.noted g2
  have XF := mn_stand X1 cA comp' n.toNatClampNeg k.toNatClampNeg n.toNatClampNeg (Nat.le_refl _)
  obtain ⟨r1, r2⟩ := X.roomAbove hc hs
  obtain ⟨⟨f1, f2⟩, f3, f4⟩ := mnS_all (T.setVm vm1) cA comp' n.toNatClampNeg k.toNatClampNeg n.toNatClampNeg
  obtain ⟨t, a1, b1⟩ := kk (mnS (T.setVm vm1) cA comp' n.toNatClampNeg k.toNatClampNeg n.toNatClampNeg).heap f1 (by
      refine f2.trans ?_
      congr 1
      unfold mnO arrV
      congr 2
      funext j
      exact if_pos j.isLt) (fun j hj => by
      refine (mnS_in (T.setVm vm1) cA comp' n.toNatClampNeg k.toNatClampNeg n.toNatClampNeg j hj).trans ?_
      rw [← arrV_new]
      rfl) (fun q hq => mnS_old (T.setVm vm1) cA comp' n.toNatClampNeg k.toNatClampNeg hq n.toNatClampNeg) (mnS (T.setVm vm1) cA comp' n.toNatClampNeg k.toNatClampNeg n.toNatClampNeg) rfl (by
      rw [Nat.add_assoc, Nat.add_assoc] at XF
      exact XF)
  refine ⟨t, ?_, b1⟩
  have l1 : ¬ n.toNatClampNeg > e.platform.arrayLengthLimit := by rw [Launch.admits_arrayLengthLimit X.admits]; omega
  have b1' : ¬ n.toNatClampNeg * 4 > e.platform.maxHeapBytes := by rw [Launch.admits_maxHeapBytes X.admits]; omega
  have l2 : ¬ k.toNatClampNeg > e.platform.arrayLengthLimit := by rw [Launch.admits_arrayLengthLimit X.admits]; omega
  have b2' : ¬ k.toNatClampNeg * 4 > e.platform.maxHeapBytes := by rw [Launch.admits_maxHeapBytes X.admits]; omega
  jvm_step X.here [hexec, hdg]
  simp only [multianewarray.sem, wp_bind', W.resolveClassAt_links (State.method?_setTop (F0 m pc L (.int k :: .int n :: rest)) X.here.top) g1]
  rw [W.popN, if_neg (by decide)]
  refine ⟨F0 m pc L (.int k :: .int n :: rest), State.topJava?_setTop' (s := T.setVm vm1) _ X.here.top, [.int n, .int k], rest, rfl, rfl, ?_⟩
  simp only [List.mapM_cons, List.mapM_nil, wp_bind', wp_pure']
  refine wp_mn (kA := kA1) (kC := kC1) (comp := comp') (cc := ci) ⟨hkA1, hA1⟩ ⟨hkC1, hC1⟩ hn hk l1 b1' l2 b2' (by show T.heap.size + 1 + _ ≤ _; omega) (by show T.slotsUsed + _ + _ ≤ _; omega) (fun d' acts' => ?_)
  have eS : ((T.setTop (F0 m pc L (.int k :: .int n :: rest))).setVm vm1).setTop { F0 m pc L (.int k :: .int n :: rest) with stack := rest } = (T.setVm vm1).setTop { F0 m pc L (.int k :: .int n :: rest) with stack := rest } := by
    show ((T.setVm vm1).setTop _).setTop _ = _
    rw [State.setTop_setTop]
  rw [eS, mnS_top]
  simp only [wp_bind', W.mark, W.pushRef, State.topJava?_setTop' _ XF.here.top, Option.some.injEq, exists_eq_left', State.setTop_setTop, State.heap_setTop]
  intro acts
  simp [jvm, XF.here.top]
  exact a1
end QMN3
