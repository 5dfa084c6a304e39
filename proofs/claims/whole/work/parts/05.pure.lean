/-! SOUNDNESS of the small machine, 1: what touches locals and stack alone -/
def zcv (ad : Nat → Nat) : Value → Value
  | .ref q => .ref (ad q)
  | .float _ => if ad 63 = 0 then .null else .ref (ad 62)
  | v => v
theorem zcv_cat (ad : Nat → Nat) (v : Value) : (zcv ad v).category = v.category := by
  cases v <;> first
    | rfl
    | (show (if ad 63 = 0 then Value.null else Value.ref (ad 62)).category = 1; split <;> rfl)
theorem zc2_cat (v : Value) : zc2 v = true ↔ v.category = 2 := by cases v <;> simp [zc2, Value.category]
theorem zc2_f {v : Value} (h : zc2 v = false) : v.category = 1 := by cases v <;> simp_all [zc2, Value.category]
/-- the locals, as the small machine has them, at addresses ad -/
def zLR (ad : Nat → Nat) (nL : Nat) (ls : ZL) (L : Array Slot) : Prop := lv_has L nL (ls.map fun q => (q.1, zcv ad q.2))
theorem zget_mem : ∀ {ls : ZL} {i : Nat} {v : Value}, zget ls i = some v → (i, v) ∈ ls
  | [], i, v, h => by simp [zget] at h
  | (k, w) :: l, i, v, h => by
    simp only [zget] at h
    cases e : Nat.beq k i with
    | true =>
      rw [e] at h
      have e2 := Nat.eq_of_beq_eq_true e
      simp at h
      rw [← e2, ← h]
      exact List.mem_cons_self
    | false =>
      rw [e] at h
      exact List.mem_cons_of_mem _ (zget_mem h)
theorem zLR.at {ad : Nat → Nat} {nL : Nat} {ls : ZL} {L : Array Slot} (h : zLR ad nL ls L) {i : Nat} {v : Value} (hg : zget ls i = some v) : L[i]? = some (.val (zcv ad v)) :=
  h.2.2 (i, zcv ad v) (List.mem_map.mpr ⟨(i, v), zget_mem hg, rfl⟩)
theorem zbeq {a b : Nat} (h : a = b) : Nat.beq a b = true := by subst h; exact Nat.beq_refl a
theorem zins_mem {i : Nat} {v : Value} : ∀ {l : ZL} {q : Nat × Value}, q ∈ zins i v l → q = (i, v) ∨ q ∈ l
  | [], q, h => by simp [zins] at h; exact Or.inl h
  | r :: l, q, h => by
    simp only [zins] at h
    cases e : Nat.blt i r.1 with
    | true =>
      rw [e] at h
      rcases List.mem_cons.mp h with h | h
      · exact Or.inl h
      · exact Or.inr h
    | false =>
      rw [e] at h
      rcases List.mem_cons.mp h with h | h
      · exact Or.inr (by rw [h]; exact List.mem_cons_self)
      · rcases zins_mem h with h | h
        · exact Or.inl h
        · exact Or.inr (List.mem_cons_of_mem _ h)
theorem zdel1_mem {i : Nat} : ∀ {l : ZL} {q : Nat × Value}, q ∈ zdel1 i l → q ∈ l ∧ ¬ q.1 = i ∧ ¬ (q.1 + 1 = i ∧ q.2.category = 2)
  | [], q, h => by simp [zdel1] at h
  | r :: l, q, h => by
    simp only [zdel1] at h
    cases e : (Nat.beq r.1 i || (Nat.beq (r.1 + 1) i && zc2 r.2)) with
    | true =>
      rw [e] at h
      obtain ⟨a, b⟩ := zdel1_mem h
      exact ⟨List.mem_cons_of_mem _ a, b⟩
    | false =>
      rw [e] at h
      rcases List.mem_cons.mp h with h | h
      · subst h
        rw [Bool.or_eq_false_iff, Bool.and_eq_false_iff] at e
        refine ⟨List.mem_cons_self, fun g => ?_, fun g => ?_⟩
        · have := zbeq g
          rw [this] at e
          simp at e
        · rcases e.2 with e2 | e2
          · have := zbeq g.1
            rw [this] at e2
            cases e2
          · rw [(zc2_cat _).mpr g.2] at e2
            cases e2
      · obtain ⟨a, b⟩ := zdel1_mem h
        exact ⟨List.mem_cons_of_mem _ a, b⟩
theorem zdel2_mem {i : Nat} : ∀ {l : ZL} {q : Nat × Value}, q ∈ zdel2 i l → q ∈ l ∧ ¬ q.1 = i ∧ ¬ q.1 = i + 1 ∧ ¬ (q.1 + 1 = i ∧ q.2.category = 2)
  | [], q, h => by simp [zdel2] at h
  | r :: l, q, h => by
    simp only [zdel2] at h
    cases e : (Nat.beq r.1 i || Nat.beq r.1 (i + 1) || (Nat.beq (r.1 + 1) i && zc2 r.2)) with
    | true =>
      rw [e] at h
      obtain ⟨a, b⟩ := zdel2_mem h
      exact ⟨List.mem_cons_of_mem _ a, b⟩
    | false =>
      rw [e] at h
      rcases List.mem_cons.mp h with h | h
      · subst h
        rw [Bool.or_eq_false_iff, Bool.or_eq_false_iff, Bool.and_eq_false_iff] at e
        refine ⟨List.mem_cons_self, fun g => ?_, fun g => ?_, fun g => ?_⟩
        · have := zbeq g
          rw [this] at e
          simp at e
        · have := zbeq g
          rw [this] at e
          simp at e
        · rcases e.2 with e2 | e2
          · have := zbeq g.1
            rw [this] at e2
            cases e2
          · rw [(zc2_cat _).mpr g.2] at e2
            cases e2
      · obtain ⟨a, b⟩ := zdel2_mem h
        exact ⟨List.mem_cons_of_mem _ a, b⟩
theorem zLR.st1 {ad : Nat → Nat} {nL : Nat} {ls : ZL} {L : Array Slot} {i : Nat} {v : Value} (h : lv_has L nL ((i, zcv ad v) :: (ls.map fun q => (q.1, zcv ad q.2)).filter (fun q => !(q.1 == i) && !(q.1 + 1 == i && q.2.category == 2)))) : zLR ad nL (zst1 ls i v) L := by
  refine ⟨h.1, h.2.1, fun q hq => h.2.2 q ?_⟩
  obtain ⟨r, hr, rfl⟩ := List.mem_map.mp hq
  rcases zins_mem hr with e | e
  · subst e
    exact List.mem_cons_self
  · obtain ⟨e1, e2, e3⟩ := zdel1_mem e
    refine List.mem_cons_of_mem _ (List.mem_filter.mpr ⟨List.mem_map.mpr ⟨r, e1, rfl⟩, ?_⟩)
    rw [zcv_cat]
    simp only [Bool.and_eq_true, Bool.not_eq_true', beq_eq_false_iff_ne, ne_eq, Bool.and_eq_false_iff]
    refine ⟨e2, ?_⟩
    by_cases g : r.1 + 1 = i
    · exact Or.inr fun g2 => e3 ⟨g, g2⟩
    · exact Or.inl g
theorem zLR.st2 {ad : Nat → Nat} {nL : Nat} {ls : ZL} {L : Array Slot} {i : Nat} {v : Value} (h : lv_has L nL ((i, zcv ad v) :: (ls.map fun q => (q.1, zcv ad q.2)).filter (fun q => !(q.1 == i) && (!(q.1 == i + 1) && !(q.1 + 1 == i && q.2.category == 2))))) : zLR ad nL (zst2 ls i v) L := by
  refine ⟨h.1, h.2.1, fun q hq => h.2.2 q ?_⟩
  obtain ⟨r, hr, rfl⟩ := List.mem_map.mp hq
  rcases zins_mem hr with e | e
  · subst e
    exact List.mem_cons_self
  · obtain ⟨e1, e2, e4, e3⟩ := zdel2_mem e
    refine List.mem_cons_of_mem _ (List.mem_filter.mpr ⟨List.mem_map.mpr ⟨r, e1, rfl⟩, ?_⟩)
    rw [zcv_cat]
    simp only [Bool.and_eq_true, Bool.not_eq_true', beq_eq_false_iff_ne, ne_eq, Bool.and_eq_false_iff]
    refine ⟨e2, e4, ?_⟩
    by_cases g : r.1 + 1 = i
    · exact Or.inr fun g2 => e3 ⟨g, g2⟩
    · exact Or.inl g
theorem ztg_some {pc : Nat} {off : Int} {t : Nat} (h : ztg pc off = some t) : (pc : Int) + off = (t : Int) := by
  unfold ztg at h
  split at h
  · rename_i n e
    cases h
    exact e
  · cases h
theorem zgo_some {pc : Nat} {off : Int} {ls : ZL} {st : List Value} {x : ZP} (h : zgo pc off ls st = some x) : ∃ t : Nat, (pc : Int) + off = (t : Int) ∧ x = (t, ls, st) := by
  unfold zgo at h
  split at h
  · rename_i t e
    cases h
    exact ⟨t, ztg_some e, rfl⟩
  · cases h
section ZPURE
variable {p : Program} {l : Launch} {e : Env} {R : Room} {s : State} {m : MethodId} {args : Array Value} {below : List Frame} {meth : Method} {c : Code} {H : Heap} {locs : List Loc} {cells slots : Nat} {Q : State → Prop}
variable {cc : ByteArray} {pc len : Nat} {L : Array Slot} {ad : Nat → Nat} {o nL : Nat} {ls : ZL} {st : List Value} {x : ZP}

theorem zs_iconst (hexec : p.tables.exec = Jvm.exec) (hb : c.code = cc) (hown : s.vm.findClass (zcn o) = some m.cls) (hI : ∀ k v, zI o k = some v → (Jvm.Cond.constant (zcn o) k v).before args s = true) (hJ : ∀ k v, zJ o k = some v → (Jvm.Cond.constantLong (zcn o) k v).before args s = true) (hl : zLR ad nL ls L) (kk : ∀ L2, zLR ad nL x.2.1 L2 → W p l e R s m args below meth c H locs cells slots Q (F0 m x.1 L2 (x.2.2.map (zcv ad)))) {n : Int} (hdg : decode cc pc = .ok (.iconst n, len)) (hlen : zlen (.iconst n) len = true) (hz : zpure o nL (.iconst n) len pc ls st = some x) : W p l e R s m args below meth c H locs cells slots Q (F0 m pc L (st.map (zcv ad))) := by
  obtain rfl : len = 1 := Nat.eq_of_beq_eq_true hlen
  simp only [zpure] at hz
  cases hz
  exact lv_iconst hexec hb hdg rfl (kk L hl)
theorem zs_bipush (hexec : p.tables.exec = Jvm.exec) (hb : c.code = cc) (hown : s.vm.findClass (zcn o) = some m.cls) (hI : ∀ k v, zI o k = some v → (Jvm.Cond.constant (zcn o) k v).before args s = true) (hJ : ∀ k v, zJ o k = some v → (Jvm.Cond.constantLong (zcn o) k v).before args s = true) (hl : zLR ad nL ls L) (kk : ∀ L2, zLR ad nL x.2.1 L2 → W p l e R s m args below meth c H locs cells slots Q (F0 m x.1 L2 (x.2.2.map (zcv ad)))) {n : Int} (hdg : decode cc pc = .ok (.bipush n, len)) (hlen : zlen (.bipush n) len = true) (hz : zpure o nL (.bipush n) len pc ls st = some x) : W p l e R s m args below meth c H locs cells slots Q (F0 m pc L (st.map (zcv ad))) := by
  obtain rfl : len = 2 := Nat.eq_of_beq_eq_true hlen
  simp only [zpure] at hz
  cases hz
  exact lv_bipush hexec hb hdg rfl (kk L hl)
theorem zs_sipush (hexec : p.tables.exec = Jvm.exec) (hb : c.code = cc) (hown : s.vm.findClass (zcn o) = some m.cls) (hI : ∀ k v, zI o k = some v → (Jvm.Cond.constant (zcn o) k v).before args s = true) (hJ : ∀ k v, zJ o k = some v → (Jvm.Cond.constantLong (zcn o) k v).before args s = true) (hl : zLR ad nL ls L) (kk : ∀ L2, zLR ad nL x.2.1 L2 → W p l e R s m args below meth c H locs cells slots Q (F0 m x.1 L2 (x.2.2.map (zcv ad)))) {n : Int} (hdg : decode cc pc = .ok (.sipush n, len)) (hlen : zlen (.sipush n) len = true) (hz : zpure o nL (.sipush n) len pc ls st = some x) : W p l e R s m args below meth c H locs cells slots Q (F0 m pc L (st.map (zcv ad))) := by
  obtain rfl : len = 3 := Nat.eq_of_beq_eq_true hlen
  simp only [zpure] at hz
  cases hz
  exact lv_sipush hexec hb hdg rfl (kk L hl)
theorem zs_lconst (hexec : p.tables.exec = Jvm.exec) (hb : c.code = cc) (hown : s.vm.findClass (zcn o) = some m.cls) (hI : ∀ k v, zI o k = some v → (Jvm.Cond.constant (zcn o) k v).before args s = true) (hJ : ∀ k v, zJ o k = some v → (Jvm.Cond.constantLong (zcn o) k v).before args s = true) (hl : zLR ad nL ls L) (kk : ∀ L2, zLR ad nL x.2.1 L2 → W p l e R s m args below meth c H locs cells slots Q (F0 m x.1 L2 (x.2.2.map (zcv ad)))) {n : Fin 2} (hdg : decode cc pc = .ok (.lconst n, len)) (hlen : zlen (.lconst n) len = true) (hz : zpure o nL (.lconst n) len pc ls st = some x) : W p l e R s m args below meth c H locs cells slots Q (F0 m pc L (st.map (zcv ad))) := by
  obtain rfl : len = 1 := Nat.eq_of_beq_eq_true hlen
  simp only [zpure] at hz
  cases hz
  exact lv_lconst hexec hb hdg rfl (kk L hl)
theorem zs_ldc (hexec : p.tables.exec = Jvm.exec) (hb : c.code = cc) (hown : s.vm.findClass (zcn o) = some m.cls) (hI : ∀ k v, zI o k = some v → (Jvm.Cond.constant (zcn o) k v).before args s = true) (hJ : ∀ k v, zJ o k = some v → (Jvm.Cond.constantLong (zcn o) k v).before args s = true) (hl : zLR ad nL ls L) (kk : ∀ L2, zLR ad nL x.2.1 L2 → W p l e R s m args below meth c H locs cells slots Q (F0 m x.1 L2 (x.2.2.map (zcv ad)))) {k : Nat} (hdg : decode cc pc = .ok (.ldc k, len)) (hlen : zlen (.ldc k) len = true) (hz : zpure o nL (.ldc k) len pc ls st = some x) : W p l e R s m args below meth c H locs cells slots Q (F0 m pc L (st.map (zcv ad))) := by
  obtain rfl : len = 2 := Nat.eq_of_beq_eq_true hlen
  simp only [zpure] at hz
  split at hz
  · rename_i v hv
    cases hz
    exact lv_ldc hexec hb hown (hI _ _ hv) hdg (kk L hl)
  · cases hz
theorem zs_ldc_w (hexec : p.tables.exec = Jvm.exec) (hb : c.code = cc) (hown : s.vm.findClass (zcn o) = some m.cls) (hI : ∀ k v, zI o k = some v → (Jvm.Cond.constant (zcn o) k v).before args s = true) (hJ : ∀ k v, zJ o k = some v → (Jvm.Cond.constantLong (zcn o) k v).before args s = true) (hl : zLR ad nL ls L) (kk : ∀ L2, zLR ad nL x.2.1 L2 → W p l e R s m args below meth c H locs cells slots Q (F0 m x.1 L2 (x.2.2.map (zcv ad)))) {k : Nat} (hdg : decode cc pc = .ok (.ldc_w k, len)) (hlen : zlen (.ldc_w k) len = true) (hz : zpure o nL (.ldc_w k) len pc ls st = some x) : W p l e R s m args below meth c H locs cells slots Q (F0 m pc L (st.map (zcv ad))) := by
  obtain rfl : len = 3 := Nat.eq_of_beq_eq_true hlen
  simp only [zpure] at hz
  split at hz
  · rename_i v hv
    cases hz
    exact lv_ldcw hexec hb hown (hI _ _ hv) hdg (kk L hl)
  · cases hz
theorem zs_ldc2_w (hexec : p.tables.exec = Jvm.exec) (hb : c.code = cc) (hown : s.vm.findClass (zcn o) = some m.cls) (hI : ∀ k v, zI o k = some v → (Jvm.Cond.constant (zcn o) k v).before args s = true) (hJ : ∀ k v, zJ o k = some v → (Jvm.Cond.constantLong (zcn o) k v).before args s = true) (hl : zLR ad nL ls L) (kk : ∀ L2, zLR ad nL x.2.1 L2 → W p l e R s m args below meth c H locs cells slots Q (F0 m x.1 L2 (x.2.2.map (zcv ad)))) {k : Nat} (hdg : decode cc pc = .ok (.ldc2_w k, len)) (hlen : zlen (.ldc2_w k) len = true) (hz : zpure o nL (.ldc2_w k) len pc ls st = some x) : W p l e R s m args below meth c H locs cells slots Q (F0 m pc L (st.map (zcv ad))) := by
  obtain rfl : len = 3 := Nat.eq_of_beq_eq_true hlen
  simp only [zpure] at hz
  split at hz
  · rename_i v hv
    cases hz
    exact lv_ldc2 hexec hb hown (hJ _ _ hv) hdg (kk L hl)
  · cases hz
theorem zs_iload_n (hexec : p.tables.exec = Jvm.exec) (hb : c.code = cc) (hown : s.vm.findClass (zcn o) = some m.cls) (hI : ∀ k v, zI o k = some v → (Jvm.Cond.constant (zcn o) k v).before args s = true) (hJ : ∀ k v, zJ o k = some v → (Jvm.Cond.constantLong (zcn o) k v).before args s = true) (hl : zLR ad nL ls L) (kk : ∀ L2, zLR ad nL x.2.1 L2 → W p l e R s m args below meth c H locs cells slots Q (F0 m x.1 L2 (x.2.2.map (zcv ad)))) {k : Fin 4} (hdg : decode cc pc = .ok (.iload_n k, len)) (hlen : zlen (.iload_n k) len = true) (hz : zpure o nL (.iload_n k) len pc ls st = some x) : W p l e R s m args below meth c H locs cells slots Q (F0 m pc L (st.map (zcv ad))) := by
  obtain rfl : len = 1 := Nat.eq_of_beq_eq_true hlen
  simp only [zpure] at hz
  split at hz
  · rename_i v hv
    cases hz
    exact lv_iload_n hexec hb hdg rfl (hl.at hv) (kk L hl)
  · cases hz
theorem zs_iload (hexec : p.tables.exec = Jvm.exec) (hb : c.code = cc) (hown : s.vm.findClass (zcn o) = some m.cls) (hI : ∀ k v, zI o k = some v → (Jvm.Cond.constant (zcn o) k v).before args s = true) (hJ : ∀ k v, zJ o k = some v → (Jvm.Cond.constantLong (zcn o) k v).before args s = true) (hl : zLR ad nL ls L) (kk : ∀ L2, zLR ad nL x.2.1 L2 → W p l e R s m args below meth c H locs cells slots Q (F0 m x.1 L2 (x.2.2.map (zcv ad)))) {k : Nat} (hdg : decode cc pc = .ok (.iload k, len)) (hlen : zlen (.iload k) len = true) (hz : zpure o nL (.iload k) len pc ls st = some x) : W p l e R s m args below meth c H locs cells slots Q (F0 m pc L (st.map (zcv ad))) := by
  obtain rfl : len = 2 := Nat.eq_of_beq_eq_true hlen
  simp only [zpure] at hz
  split at hz
  · rename_i v hv
    cases hz
    exact lv_iload hexec hb hdg (hl.at hv) (kk L hl)
  · cases hz
theorem zs_lload_n (hexec : p.tables.exec = Jvm.exec) (hb : c.code = cc) (hown : s.vm.findClass (zcn o) = some m.cls) (hI : ∀ k v, zI o k = some v → (Jvm.Cond.constant (zcn o) k v).before args s = true) (hJ : ∀ k v, zJ o k = some v → (Jvm.Cond.constantLong (zcn o) k v).before args s = true) (hl : zLR ad nL ls L) (kk : ∀ L2, zLR ad nL x.2.1 L2 → W p l e R s m args below meth c H locs cells slots Q (F0 m x.1 L2 (x.2.2.map (zcv ad)))) {k : Fin 4} (hdg : decode cc pc = .ok (.lload_n k, len)) (hlen : zlen (.lload_n k) len = true) (hz : zpure o nL (.lload_n k) len pc ls st = some x) : W p l e R s m args below meth c H locs cells slots Q (F0 m pc L (st.map (zcv ad))) := by
  obtain rfl : len = 1 := Nat.eq_of_beq_eq_true hlen
  simp only [zpure] at hz
  split at hz
  · rename_i v hv
    cases hz
    exact lv_lload_n hexec hb hdg rfl (hl.at hv) (kk L hl)
  · cases hz
theorem zs_lload (hexec : p.tables.exec = Jvm.exec) (hb : c.code = cc) (hown : s.vm.findClass (zcn o) = some m.cls) (hI : ∀ k v, zI o k = some v → (Jvm.Cond.constant (zcn o) k v).before args s = true) (hJ : ∀ k v, zJ o k = some v → (Jvm.Cond.constantLong (zcn o) k v).before args s = true) (hl : zLR ad nL ls L) (kk : ∀ L2, zLR ad nL x.2.1 L2 → W p l e R s m args below meth c H locs cells slots Q (F0 m x.1 L2 (x.2.2.map (zcv ad)))) {k : Nat} (hdg : decode cc pc = .ok (.lload k, len)) (hlen : zlen (.lload k) len = true) (hz : zpure o nL (.lload k) len pc ls st = some x) : W p l e R s m args below meth c H locs cells slots Q (F0 m pc L (st.map (zcv ad))) := by
  obtain rfl : len = 2 := Nat.eq_of_beq_eq_true hlen
  simp only [zpure] at hz
  split at hz
  · rename_i v hv
    cases hz
    exact lv_lload hexec hb hdg (hl.at hv) (kk L hl)
  · cases hz
theorem zs_aload_n (hexec : p.tables.exec = Jvm.exec) (hb : c.code = cc) (hown : s.vm.findClass (zcn o) = some m.cls) (hI : ∀ k v, zI o k = some v → (Jvm.Cond.constant (zcn o) k v).before args s = true) (hJ : ∀ k v, zJ o k = some v → (Jvm.Cond.constantLong (zcn o) k v).before args s = true) (hl : zLR ad nL ls L) (kk : ∀ L2, zLR ad nL x.2.1 L2 → W p l e R s m args below meth c H locs cells slots Q (F0 m x.1 L2 (x.2.2.map (zcv ad)))) {k : Fin 4} (hdg : decode cc pc = .ok (.aload_n k, len)) (hlen : zlen (.aload_n k) len = true) (hz : zpure o nL (.aload_n k) len pc ls st = some x) : W p l e R s m args below meth c H locs cells slots Q (F0 m pc L (st.map (zcv ad))) := by
  obtain rfl : len = 1 := Nat.eq_of_beq_eq_true hlen
  simp only [zpure] at hz
  split at hz
  · rename_i v hv
    cases hz
    exact lv_aload_n hexec hb hdg rfl (hl.at hv) (kk L hl)
  · cases hz
theorem zs_aload (hexec : p.tables.exec = Jvm.exec) (hb : c.code = cc) (hown : s.vm.findClass (zcn o) = some m.cls) (hI : ∀ k v, zI o k = some v → (Jvm.Cond.constant (zcn o) k v).before args s = true) (hJ : ∀ k v, zJ o k = some v → (Jvm.Cond.constantLong (zcn o) k v).before args s = true) (hl : zLR ad nL ls L) (kk : ∀ L2, zLR ad nL x.2.1 L2 → W p l e R s m args below meth c H locs cells slots Q (F0 m x.1 L2 (x.2.2.map (zcv ad)))) {k : Nat} (hdg : decode cc pc = .ok (.aload k, len)) (hlen : zlen (.aload k) len = true) (hz : zpure o nL (.aload k) len pc ls st = some x) : W p l e R s m args below meth c H locs cells slots Q (F0 m pc L (st.map (zcv ad))) := by
  obtain rfl : len = 2 := Nat.eq_of_beq_eq_true hlen
  simp only [zpure] at hz
  split at hz
  · rename_i v hv
    cases hz
    exact lv_aload hexec hb hdg (hl.at hv) (kk L hl)
  · cases hz
theorem zs_istore_n (hexec : p.tables.exec = Jvm.exec) (hb : c.code = cc) (hown : s.vm.findClass (zcn o) = some m.cls) (hI : ∀ k v, zI o k = some v → (Jvm.Cond.constant (zcn o) k v).before args s = true) (hJ : ∀ k v, zJ o k = some v → (Jvm.Cond.constantLong (zcn o) k v).before args s = true) (hl : zLR ad nL ls L) (kk : ∀ L2, zLR ad nL x.2.1 L2 → W p l e R s m args below meth c H locs cells slots Q (F0 m x.1 L2 (x.2.2.map (zcv ad)))) {k : Fin 4} (hdg : decode cc pc = .ok (.istore_n k, len)) (hlen : zlen (.istore_n k) len = true) (hz : zpure o nL (.istore_n k) len pc ls st = some x) : W p l e R s m args below meth c H locs cells slots Q (F0 m pc L (st.map (zcv ad))) := by
  obtain rfl : len = 1 := Nat.eq_of_beq_eq_true hlen
  simp only [zpure] at hz
  split at hz
  · rename_i v r
    cases hb2 : Nat.blt k nL with
    | false => rw [hb2] at hz; cases hz
    | true =>
      rw [hb2] at hz
      cases hz
      exact lv_istore_n hexec hb hdg rfl hl (Nat.blt_eq.mp hb2) rfl (fun L2 h2 => kk L2 (zLR.st1 (v := .int v) h2))
  · cases hz
theorem zs_istore (hexec : p.tables.exec = Jvm.exec) (hb : c.code = cc) (hown : s.vm.findClass (zcn o) = some m.cls) (hI : ∀ k v, zI o k = some v → (Jvm.Cond.constant (zcn o) k v).before args s = true) (hJ : ∀ k v, zJ o k = some v → (Jvm.Cond.constantLong (zcn o) k v).before args s = true) (hl : zLR ad nL ls L) (kk : ∀ L2, zLR ad nL x.2.1 L2 → W p l e R s m args below meth c H locs cells slots Q (F0 m x.1 L2 (x.2.2.map (zcv ad)))) {k : Nat} (hdg : decode cc pc = .ok (.istore k, len)) (hlen : zlen (.istore k) len = true) (hz : zpure o nL (.istore k) len pc ls st = some x) : W p l e R s m args below meth c H locs cells slots Q (F0 m pc L (st.map (zcv ad))) := by
  obtain rfl : len = 2 := Nat.eq_of_beq_eq_true hlen
  simp only [zpure] at hz
  split at hz
  · rename_i v r
    cases hb2 : Nat.blt k nL with
    | false => rw [hb2] at hz; cases hz
    | true =>
      rw [hb2] at hz
      cases hz
      exact lv_istore hexec hb hdg hl (Nat.blt_eq.mp hb2) rfl (fun L2 h2 => kk L2 (zLR.st1 (v := .int v) h2))
  · cases hz
theorem zs_astore_n (hexec : p.tables.exec = Jvm.exec) (hb : c.code = cc) (hown : s.vm.findClass (zcn o) = some m.cls) (hI : ∀ k v, zI o k = some v → (Jvm.Cond.constant (zcn o) k v).before args s = true) (hJ : ∀ k v, zJ o k = some v → (Jvm.Cond.constantLong (zcn o) k v).before args s = true) (hl : zLR ad nL ls L) (kk : ∀ L2, zLR ad nL x.2.1 L2 → W p l e R s m args below meth c H locs cells slots Q (F0 m x.1 L2 (x.2.2.map (zcv ad)))) {k : Fin 4} (hdg : decode cc pc = .ok (.astore_n k, len)) (hlen : zlen (.astore_n k) len = true) (hz : zpure o nL (.astore_n k) len pc ls st = some x) : W p l e R s m args below meth c H locs cells slots Q (F0 m pc L (st.map (zcv ad))) := by
  obtain rfl : len = 1 := Nat.eq_of_beq_eq_true hlen
  simp only [zpure] at hz
  split at hz
  · rename_i v r
    cases hb2 : Nat.blt k nL with
    | false => rw [hb2] at hz; cases hz
    | true =>
      rw [hb2] at hz
      cases hz
      exact lv_astore_n hexec hb hdg rfl hl (Nat.blt_eq.mp hb2) rfl (fun L2 h2 => kk L2 (zLR.st1 (v := .ref v) h2))
  · cases hz
theorem zs_astore (hexec : p.tables.exec = Jvm.exec) (hb : c.code = cc) (hown : s.vm.findClass (zcn o) = some m.cls) (hI : ∀ k v, zI o k = some v → (Jvm.Cond.constant (zcn o) k v).before args s = true) (hJ : ∀ k v, zJ o k = some v → (Jvm.Cond.constantLong (zcn o) k v).before args s = true) (hl : zLR ad nL ls L) (kk : ∀ L2, zLR ad nL x.2.1 L2 → W p l e R s m args below meth c H locs cells slots Q (F0 m x.1 L2 (x.2.2.map (zcv ad)))) {k : Nat} (hdg : decode cc pc = .ok (.astore k, len)) (hlen : zlen (.astore k) len = true) (hz : zpure o nL (.astore k) len pc ls st = some x) : W p l e R s m args below meth c H locs cells slots Q (F0 m pc L (st.map (zcv ad))) := by
  obtain rfl : len = 2 := Nat.eq_of_beq_eq_true hlen
  simp only [zpure] at hz
  split at hz
  · rename_i v r
    cases hb2 : Nat.blt k nL with
    | false => rw [hb2] at hz; cases hz
    | true =>
      rw [hb2] at hz
      cases hz
      exact lv_astore hexec hb hdg hl (Nat.blt_eq.mp hb2) rfl (fun L2 h2 => kk L2 (zLR.st1 (v := .ref v) h2))
  · cases hz
theorem zs_lstore_n (hexec : p.tables.exec = Jvm.exec) (hb : c.code = cc) (hown : s.vm.findClass (zcn o) = some m.cls) (hI : ∀ k v, zI o k = some v → (Jvm.Cond.constant (zcn o) k v).before args s = true) (hJ : ∀ k v, zJ o k = some v → (Jvm.Cond.constantLong (zcn o) k v).before args s = true) (hl : zLR ad nL ls L) (kk : ∀ L2, zLR ad nL x.2.1 L2 → W p l e R s m args below meth c H locs cells slots Q (F0 m x.1 L2 (x.2.2.map (zcv ad)))) {k : Fin 4} (hdg : decode cc pc = .ok (.lstore_n k, len)) (hlen : zlen (.lstore_n k) len = true) (hz : zpure o nL (.lstore_n k) len pc ls st = some x) : W p l e R s m args below meth c H locs cells slots Q (F0 m pc L (st.map (zcv ad))) := by
  obtain rfl : len = 1 := Nat.eq_of_beq_eq_true hlen
  simp only [zpure] at hz
  split at hz
  · rename_i v r
    cases hb2 : Nat.blt (k + 1) nL with
    | false => rw [hb2] at hz; cases hz
    | true =>
      rw [hb2] at hz
      cases hz
      exact lv_lstore_n hexec hb hdg rfl hl (Nat.blt_eq.mp hb2) rfl (fun L2 h2 => kk L2 (zLR.st2 (v := .long v) h2))
  · cases hz
theorem zs_lstore (hexec : p.tables.exec = Jvm.exec) (hb : c.code = cc) (hown : s.vm.findClass (zcn o) = some m.cls) (hI : ∀ k v, zI o k = some v → (Jvm.Cond.constant (zcn o) k v).before args s = true) (hJ : ∀ k v, zJ o k = some v → (Jvm.Cond.constantLong (zcn o) k v).before args s = true) (hl : zLR ad nL ls L) (kk : ∀ L2, zLR ad nL x.2.1 L2 → W p l e R s m args below meth c H locs cells slots Q (F0 m x.1 L2 (x.2.2.map (zcv ad)))) {k : Nat} (hdg : decode cc pc = .ok (.lstore k, len)) (hlen : zlen (.lstore k) len = true) (hz : zpure o nL (.lstore k) len pc ls st = some x) : W p l e R s m args below meth c H locs cells slots Q (F0 m pc L (st.map (zcv ad))) := by
  obtain rfl : len = 2 := Nat.eq_of_beq_eq_true hlen
  simp only [zpure] at hz
  split at hz
  · rename_i v r
    cases hb2 : Nat.blt (k + 1) nL with
    | false => rw [hb2] at hz; cases hz
    | true =>
      rw [hb2] at hz
      cases hz
      exact lv_lstore hexec hb hdg hl (Nat.blt_eq.mp hb2) rfl (fun L2 h2 => kk L2 (zLR.st2 (v := .long v) h2))
  · cases hz
theorem zs_iinc (hexec : p.tables.exec = Jvm.exec) (hb : c.code = cc) (hown : s.vm.findClass (zcn o) = some m.cls) (hI : ∀ k v, zI o k = some v → (Jvm.Cond.constant (zcn o) k v).before args s = true) (hJ : ∀ k v, zJ o k = some v → (Jvm.Cond.constantLong (zcn o) k v).before args s = true) (hl : zLR ad nL ls L) (kk : ∀ L2, zLR ad nL x.2.1 L2 → W p l e R s m args below meth c H locs cells slots Q (F0 m x.1 L2 (x.2.2.map (zcv ad)))) {k : Nat} {n : Int} (hdg : decode cc pc = .ok (.iinc k n, len)) (hlen : zlen (.iinc k n) len = true) (hz : zpure o nL (.iinc k n) len pc ls st = some x) : W p l e R s m args below meth c H locs cells slots Q (F0 m pc L (st.map (zcv ad))) := by
  obtain rfl : len = 3 := Nat.eq_of_beq_eq_true hlen
  simp only [zpure] at hz
  split at hz
  · rename_i v hv
    cases hb2 : Nat.blt k nL with
    | false => rw [hb2] at hz; cases hz
    | true =>
      rw [hb2] at hz
      cases hz
      obtain ⟨j, hj⟩ := List.getElem?_of_mem (List.mem_map.mpr ⟨(k, .int v), zget_mem hv, rfl⟩ : (k, zcv ad (.int v)) ∈ ls.map fun q => (q.1, zcv ad q.2))
      exact lv_iinc hexec hb hdg hl hj rfl (Nat.blt_eq.mp hb2) rfl (fun L2 h2 => kk L2 (zLR.st1 (v := .int (v + Int32.ofInt n)) h2))
  · cases hz
theorem zs_iadd (hexec : p.tables.exec = Jvm.exec) (hb : c.code = cc) (hown : s.vm.findClass (zcn o) = some m.cls) (hI : ∀ k v, zI o k = some v → (Jvm.Cond.constant (zcn o) k v).before args s = true) (hJ : ∀ k v, zJ o k = some v → (Jvm.Cond.constantLong (zcn o) k v).before args s = true) (hl : zLR ad nL ls L) (kk : ∀ L2, zLR ad nL x.2.1 L2 → W p l e R s m args below meth c H locs cells slots Q (F0 m x.1 L2 (x.2.2.map (zcv ad)))) (hdg : decode cc pc = .ok (.iadd, len)) (hlen : zlen (.iadd) len = true) (hz : zpure o nL (.iadd) len pc ls st = some x) : W p l e R s m args below meth c H locs cells slots Q (F0 m pc L (st.map (zcv ad))) := by
  obtain rfl : len = 1 := Nat.eq_of_beq_eq_true hlen
  simp only [zpure] at hz
  split at hz
  · cases hz
    exact lv_iadd hexec hb hdg (kk L hl)
  · cases hz
theorem zs_isub (hexec : p.tables.exec = Jvm.exec) (hb : c.code = cc) (hown : s.vm.findClass (zcn o) = some m.cls) (hI : ∀ k v, zI o k = some v → (Jvm.Cond.constant (zcn o) k v).before args s = true) (hJ : ∀ k v, zJ o k = some v → (Jvm.Cond.constantLong (zcn o) k v).before args s = true) (hl : zLR ad nL ls L) (kk : ∀ L2, zLR ad nL x.2.1 L2 → W p l e R s m args below meth c H locs cells slots Q (F0 m x.1 L2 (x.2.2.map (zcv ad)))) (hdg : decode cc pc = .ok (.isub, len)) (hlen : zlen (.isub) len = true) (hz : zpure o nL (.isub) len pc ls st = some x) : W p l e R s m args below meth c H locs cells slots Q (F0 m pc L (st.map (zcv ad))) := by
  obtain rfl : len = 1 := Nat.eq_of_beq_eq_true hlen
  simp only [zpure] at hz
  split at hz
  · cases hz
    exact lv_isub hexec hb hdg (kk L hl)
  · cases hz
theorem zs_imul (hexec : p.tables.exec = Jvm.exec) (hb : c.code = cc) (hown : s.vm.findClass (zcn o) = some m.cls) (hI : ∀ k v, zI o k = some v → (Jvm.Cond.constant (zcn o) k v).before args s = true) (hJ : ∀ k v, zJ o k = some v → (Jvm.Cond.constantLong (zcn o) k v).before args s = true) (hl : zLR ad nL ls L) (kk : ∀ L2, zLR ad nL x.2.1 L2 → W p l e R s m args below meth c H locs cells slots Q (F0 m x.1 L2 (x.2.2.map (zcv ad)))) (hdg : decode cc pc = .ok (.imul, len)) (hlen : zlen (.imul) len = true) (hz : zpure o nL (.imul) len pc ls st = some x) : W p l e R s m args below meth c H locs cells slots Q (F0 m pc L (st.map (zcv ad))) := by
  obtain rfl : len = 1 := Nat.eq_of_beq_eq_true hlen
  simp only [zpure] at hz
  split at hz
  · cases hz
    exact lv_imul hexec hb hdg (kk L hl)
  · cases hz
theorem zs_iand (hexec : p.tables.exec = Jvm.exec) (hb : c.code = cc) (hown : s.vm.findClass (zcn o) = some m.cls) (hI : ∀ k v, zI o k = some v → (Jvm.Cond.constant (zcn o) k v).before args s = true) (hJ : ∀ k v, zJ o k = some v → (Jvm.Cond.constantLong (zcn o) k v).before args s = true) (hl : zLR ad nL ls L) (kk : ∀ L2, zLR ad nL x.2.1 L2 → W p l e R s m args below meth c H locs cells slots Q (F0 m x.1 L2 (x.2.2.map (zcv ad)))) (hdg : decode cc pc = .ok (.iand, len)) (hlen : zlen (.iand) len = true) (hz : zpure o nL (.iand) len pc ls st = some x) : W p l e R s m args below meth c H locs cells slots Q (F0 m pc L (st.map (zcv ad))) := by
  obtain rfl : len = 1 := Nat.eq_of_beq_eq_true hlen
  simp only [zpure] at hz
  split at hz
  · cases hz
    exact lv_iand hexec hb hdg (kk L hl)
  · cases hz
theorem zs_ior (hexec : p.tables.exec = Jvm.exec) (hb : c.code = cc) (hown : s.vm.findClass (zcn o) = some m.cls) (hI : ∀ k v, zI o k = some v → (Jvm.Cond.constant (zcn o) k v).before args s = true) (hJ : ∀ k v, zJ o k = some v → (Jvm.Cond.constantLong (zcn o) k v).before args s = true) (hl : zLR ad nL ls L) (kk : ∀ L2, zLR ad nL x.2.1 L2 → W p l e R s m args below meth c H locs cells slots Q (F0 m x.1 L2 (x.2.2.map (zcv ad)))) (hdg : decode cc pc = .ok (.ior, len)) (hlen : zlen (.ior) len = true) (hz : zpure o nL (.ior) len pc ls st = some x) : W p l e R s m args below meth c H locs cells slots Q (F0 m pc L (st.map (zcv ad))) := by
  obtain rfl : len = 1 := Nat.eq_of_beq_eq_true hlen
  simp only [zpure] at hz
  split at hz
  · cases hz
    exact lv_ior hexec hb hdg (kk L hl)
  · cases hz
theorem zs_ixor (hexec : p.tables.exec = Jvm.exec) (hb : c.code = cc) (hown : s.vm.findClass (zcn o) = some m.cls) (hI : ∀ k v, zI o k = some v → (Jvm.Cond.constant (zcn o) k v).before args s = true) (hJ : ∀ k v, zJ o k = some v → (Jvm.Cond.constantLong (zcn o) k v).before args s = true) (hl : zLR ad nL ls L) (kk : ∀ L2, zLR ad nL x.2.1 L2 → W p l e R s m args below meth c H locs cells slots Q (F0 m x.1 L2 (x.2.2.map (zcv ad)))) (hdg : decode cc pc = .ok (.ixor, len)) (hlen : zlen (.ixor) len = true) (hz : zpure o nL (.ixor) len pc ls st = some x) : W p l e R s m args below meth c H locs cells slots Q (F0 m pc L (st.map (zcv ad))) := by
  obtain rfl : len = 1 := Nat.eq_of_beq_eq_true hlen
  simp only [zpure] at hz
  split at hz
  · cases hz
    exact lv_ixor hexec hb hdg (kk L hl)
  · cases hz
theorem zs_ishl (hexec : p.tables.exec = Jvm.exec) (hb : c.code = cc) (hown : s.vm.findClass (zcn o) = some m.cls) (hI : ∀ k v, zI o k = some v → (Jvm.Cond.constant (zcn o) k v).before args s = true) (hJ : ∀ k v, zJ o k = some v → (Jvm.Cond.constantLong (zcn o) k v).before args s = true) (hl : zLR ad nL ls L) (kk : ∀ L2, zLR ad nL x.2.1 L2 → W p l e R s m args below meth c H locs cells slots Q (F0 m x.1 L2 (x.2.2.map (zcv ad)))) (hdg : decode cc pc = .ok (.ishl, len)) (hlen : zlen (.ishl) len = true) (hz : zpure o nL (.ishl) len pc ls st = some x) : W p l e R s m args below meth c H locs cells slots Q (F0 m pc L (st.map (zcv ad))) := by
  obtain rfl : len = 1 := Nat.eq_of_beq_eq_true hlen
  simp only [zpure] at hz
  split at hz
  · cases hz
    exact lv_ishl hexec hb hdg (kk L hl)
  · cases hz
theorem zs_ishr (hexec : p.tables.exec = Jvm.exec) (hb : c.code = cc) (hown : s.vm.findClass (zcn o) = some m.cls) (hI : ∀ k v, zI o k = some v → (Jvm.Cond.constant (zcn o) k v).before args s = true) (hJ : ∀ k v, zJ o k = some v → (Jvm.Cond.constantLong (zcn o) k v).before args s = true) (hl : zLR ad nL ls L) (kk : ∀ L2, zLR ad nL x.2.1 L2 → W p l e R s m args below meth c H locs cells slots Q (F0 m x.1 L2 (x.2.2.map (zcv ad)))) (hdg : decode cc pc = .ok (.ishr, len)) (hlen : zlen (.ishr) len = true) (hz : zpure o nL (.ishr) len pc ls st = some x) : W p l e R s m args below meth c H locs cells slots Q (F0 m pc L (st.map (zcv ad))) := by
  obtain rfl : len = 1 := Nat.eq_of_beq_eq_true hlen
  simp only [zpure] at hz
  split at hz
  · cases hz
    exact lv_ishr hexec hb hdg (kk L hl)
  · cases hz
theorem zs_ladd (hexec : p.tables.exec = Jvm.exec) (hb : c.code = cc) (hown : s.vm.findClass (zcn o) = some m.cls) (hI : ∀ k v, zI o k = some v → (Jvm.Cond.constant (zcn o) k v).before args s = true) (hJ : ∀ k v, zJ o k = some v → (Jvm.Cond.constantLong (zcn o) k v).before args s = true) (hl : zLR ad nL ls L) (kk : ∀ L2, zLR ad nL x.2.1 L2 → W p l e R s m args below meth c H locs cells slots Q (F0 m x.1 L2 (x.2.2.map (zcv ad)))) (hdg : decode cc pc = .ok (.ladd, len)) (hlen : zlen (.ladd) len = true) (hz : zpure o nL (.ladd) len pc ls st = some x) : W p l e R s m args below meth c H locs cells slots Q (F0 m pc L (st.map (zcv ad))) := by
  obtain rfl : len = 1 := Nat.eq_of_beq_eq_true hlen
  simp only [zpure] at hz
  split at hz
  · cases hz
    exact lv_ladd hexec hb hdg (kk L hl)
  · cases hz
theorem zs_lsub (hexec : p.tables.exec = Jvm.exec) (hb : c.code = cc) (hown : s.vm.findClass (zcn o) = some m.cls) (hI : ∀ k v, zI o k = some v → (Jvm.Cond.constant (zcn o) k v).before args s = true) (hJ : ∀ k v, zJ o k = some v → (Jvm.Cond.constantLong (zcn o) k v).before args s = true) (hl : zLR ad nL ls L) (kk : ∀ L2, zLR ad nL x.2.1 L2 → W p l e R s m args below meth c H locs cells slots Q (F0 m x.1 L2 (x.2.2.map (zcv ad)))) (hdg : decode cc pc = .ok (.lsub, len)) (hlen : zlen (.lsub) len = true) (hz : zpure o nL (.lsub) len pc ls st = some x) : W p l e R s m args below meth c H locs cells slots Q (F0 m pc L (st.map (zcv ad))) := by
  obtain rfl : len = 1 := Nat.eq_of_beq_eq_true hlen
  simp only [zpure] at hz
  split at hz
  · cases hz
    exact lv_lsub hexec hb hdg (kk L hl)
  · cases hz
theorem zs_lmul (hexec : p.tables.exec = Jvm.exec) (hb : c.code = cc) (hown : s.vm.findClass (zcn o) = some m.cls) (hI : ∀ k v, zI o k = some v → (Jvm.Cond.constant (zcn o) k v).before args s = true) (hJ : ∀ k v, zJ o k = some v → (Jvm.Cond.constantLong (zcn o) k v).before args s = true) (hl : zLR ad nL ls L) (kk : ∀ L2, zLR ad nL x.2.1 L2 → W p l e R s m args below meth c H locs cells slots Q (F0 m x.1 L2 (x.2.2.map (zcv ad)))) (hdg : decode cc pc = .ok (.lmul, len)) (hlen : zlen (.lmul) len = true) (hz : zpure o nL (.lmul) len pc ls st = some x) : W p l e R s m args below meth c H locs cells slots Q (F0 m pc L (st.map (zcv ad))) := by
  obtain rfl : len = 1 := Nat.eq_of_beq_eq_true hlen
  simp only [zpure] at hz
  split at hz
  · cases hz
    exact lv_lmul hexec hb hdg (kk L hl)
  · cases hz
theorem zs_land (hexec : p.tables.exec = Jvm.exec) (hb : c.code = cc) (hown : s.vm.findClass (zcn o) = some m.cls) (hI : ∀ k v, zI o k = some v → (Jvm.Cond.constant (zcn o) k v).before args s = true) (hJ : ∀ k v, zJ o k = some v → (Jvm.Cond.constantLong (zcn o) k v).before args s = true) (hl : zLR ad nL ls L) (kk : ∀ L2, zLR ad nL x.2.1 L2 → W p l e R s m args below meth c H locs cells slots Q (F0 m x.1 L2 (x.2.2.map (zcv ad)))) (hdg : decode cc pc = .ok (.land, len)) (hlen : zlen (.land) len = true) (hz : zpure o nL (.land) len pc ls st = some x) : W p l e R s m args below meth c H locs cells slots Q (F0 m pc L (st.map (zcv ad))) := by
  obtain rfl : len = 1 := Nat.eq_of_beq_eq_true hlen
  simp only [zpure] at hz
  split at hz
  · cases hz
    exact lv_land hexec hb hdg (kk L hl)
  · cases hz
theorem zs_lor (hexec : p.tables.exec = Jvm.exec) (hb : c.code = cc) (hown : s.vm.findClass (zcn o) = some m.cls) (hI : ∀ k v, zI o k = some v → (Jvm.Cond.constant (zcn o) k v).before args s = true) (hJ : ∀ k v, zJ o k = some v → (Jvm.Cond.constantLong (zcn o) k v).before args s = true) (hl : zLR ad nL ls L) (kk : ∀ L2, zLR ad nL x.2.1 L2 → W p l e R s m args below meth c H locs cells slots Q (F0 m x.1 L2 (x.2.2.map (zcv ad)))) (hdg : decode cc pc = .ok (.lor, len)) (hlen : zlen (.lor) len = true) (hz : zpure o nL (.lor) len pc ls st = some x) : W p l e R s m args below meth c H locs cells slots Q (F0 m pc L (st.map (zcv ad))) := by
  obtain rfl : len = 1 := Nat.eq_of_beq_eq_true hlen
  simp only [zpure] at hz
  split at hz
  · cases hz
    exact lv_lor hexec hb hdg (kk L hl)
  · cases hz
theorem zs_lxor (hexec : p.tables.exec = Jvm.exec) (hb : c.code = cc) (hown : s.vm.findClass (zcn o) = some m.cls) (hI : ∀ k v, zI o k = some v → (Jvm.Cond.constant (zcn o) k v).before args s = true) (hJ : ∀ k v, zJ o k = some v → (Jvm.Cond.constantLong (zcn o) k v).before args s = true) (hl : zLR ad nL ls L) (kk : ∀ L2, zLR ad nL x.2.1 L2 → W p l e R s m args below meth c H locs cells slots Q (F0 m x.1 L2 (x.2.2.map (zcv ad)))) (hdg : decode cc pc = .ok (.lxor, len)) (hlen : zlen (.lxor) len = true) (hz : zpure o nL (.lxor) len pc ls st = some x) : W p l e R s m args below meth c H locs cells slots Q (F0 m pc L (st.map (zcv ad))) := by
  obtain rfl : len = 1 := Nat.eq_of_beq_eq_true hlen
  simp only [zpure] at hz
  split at hz
  · cases hz
    exact lv_lxor hexec hb hdg (kk L hl)
  · cases hz
theorem zs_iushr (hexec : p.tables.exec = Jvm.exec) (hb : c.code = cc) (hown : s.vm.findClass (zcn o) = some m.cls) (hI : ∀ k v, zI o k = some v → (Jvm.Cond.constant (zcn o) k v).before args s = true) (hJ : ∀ k v, zJ o k = some v → (Jvm.Cond.constantLong (zcn o) k v).before args s = true) (hl : zLR ad nL ls L) (kk : ∀ L2, zLR ad nL x.2.1 L2 → W p l e R s m args below meth c H locs cells slots Q (F0 m x.1 L2 (x.2.2.map (zcv ad)))) (hdg : decode cc pc = .ok (.iushr, len)) (hlen : zlen (.iushr) len = true) (hz : zpure o nL (.iushr) len pc ls st = some x) : W p l e R s m args below meth c H locs cells slots Q (F0 m pc L (st.map (zcv ad))) := by
  obtain rfl : len = 1 := Nat.eq_of_beq_eq_true hlen
  simp only [zpure] at hz
  split at hz
  · cases hz
    exact lv_iushr hexec hb hdg rfl (kk L hl)
  · cases hz
theorem zs_lshl (hexec : p.tables.exec = Jvm.exec) (hb : c.code = cc) (hown : s.vm.findClass (zcn o) = some m.cls) (hI : ∀ k v, zI o k = some v → (Jvm.Cond.constant (zcn o) k v).before args s = true) (hJ : ∀ k v, zJ o k = some v → (Jvm.Cond.constantLong (zcn o) k v).before args s = true) (hl : zLR ad nL ls L) (kk : ∀ L2, zLR ad nL x.2.1 L2 → W p l e R s m args below meth c H locs cells slots Q (F0 m x.1 L2 (x.2.2.map (zcv ad)))) (hdg : decode cc pc = .ok (.lshl, len)) (hlen : zlen (.lshl) len = true) (hz : zpure o nL (.lshl) len pc ls st = some x) : W p l e R s m args below meth c H locs cells slots Q (F0 m pc L (st.map (zcv ad))) := by
  obtain rfl : len = 1 := Nat.eq_of_beq_eq_true hlen
  simp only [zpure] at hz
  split at hz
  · cases hz
    exact lv_lshl hexec hb hdg rfl (kk L hl)
  · cases hz
theorem zs_lshr (hexec : p.tables.exec = Jvm.exec) (hb : c.code = cc) (hown : s.vm.findClass (zcn o) = some m.cls) (hI : ∀ k v, zI o k = some v → (Jvm.Cond.constant (zcn o) k v).before args s = true) (hJ : ∀ k v, zJ o k = some v → (Jvm.Cond.constantLong (zcn o) k v).before args s = true) (hl : zLR ad nL ls L) (kk : ∀ L2, zLR ad nL x.2.1 L2 → W p l e R s m args below meth c H locs cells slots Q (F0 m x.1 L2 (x.2.2.map (zcv ad)))) (hdg : decode cc pc = .ok (.lshr, len)) (hlen : zlen (.lshr) len = true) (hz : zpure o nL (.lshr) len pc ls st = some x) : W p l e R s m args below meth c H locs cells slots Q (F0 m pc L (st.map (zcv ad))) := by
  obtain rfl : len = 1 := Nat.eq_of_beq_eq_true hlen
  simp only [zpure] at hz
  split at hz
  · cases hz
    exact lv_lshr hexec hb hdg rfl (kk L hl)
  · cases hz
theorem zs_lushr (hexec : p.tables.exec = Jvm.exec) (hb : c.code = cc) (hown : s.vm.findClass (zcn o) = some m.cls) (hI : ∀ k v, zI o k = some v → (Jvm.Cond.constant (zcn o) k v).before args s = true) (hJ : ∀ k v, zJ o k = some v → (Jvm.Cond.constantLong (zcn o) k v).before args s = true) (hl : zLR ad nL ls L) (kk : ∀ L2, zLR ad nL x.2.1 L2 → W p l e R s m args below meth c H locs cells slots Q (F0 m x.1 L2 (x.2.2.map (zcv ad)))) (hdg : decode cc pc = .ok (.lushr, len)) (hlen : zlen (.lushr) len = true) (hz : zpure o nL (.lushr) len pc ls st = some x) : W p l e R s m args below meth c H locs cells slots Q (F0 m pc L (st.map (zcv ad))) := by
  obtain rfl : len = 1 := Nat.eq_of_beq_eq_true hlen
  simp only [zpure] at hz
  split at hz
  · cases hz
    exact lv_lushr hexec hb hdg rfl (kk L hl)
  · cases hz
theorem zs_i2l (hexec : p.tables.exec = Jvm.exec) (hb : c.code = cc) (hown : s.vm.findClass (zcn o) = some m.cls) (hI : ∀ k v, zI o k = some v → (Jvm.Cond.constant (zcn o) k v).before args s = true) (hJ : ∀ k v, zJ o k = some v → (Jvm.Cond.constantLong (zcn o) k v).before args s = true) (hl : zLR ad nL ls L) (kk : ∀ L2, zLR ad nL x.2.1 L2 → W p l e R s m args below meth c H locs cells slots Q (F0 m x.1 L2 (x.2.2.map (zcv ad)))) (hdg : decode cc pc = .ok (.i2l, len)) (hlen : zlen (.i2l) len = true) (hz : zpure o nL (.i2l) len pc ls st = some x) : W p l e R s m args below meth c H locs cells slots Q (F0 m pc L (st.map (zcv ad))) := by
  obtain rfl : len = 1 := Nat.eq_of_beq_eq_true hlen
  simp only [zpure] at hz
  split at hz
  · cases hz
    exact lv_i2l hexec hb hdg rfl (kk L hl)
  · cases hz
theorem zs_l2i (hexec : p.tables.exec = Jvm.exec) (hb : c.code = cc) (hown : s.vm.findClass (zcn o) = some m.cls) (hI : ∀ k v, zI o k = some v → (Jvm.Cond.constant (zcn o) k v).before args s = true) (hJ : ∀ k v, zJ o k = some v → (Jvm.Cond.constantLong (zcn o) k v).before args s = true) (hl : zLR ad nL ls L) (kk : ∀ L2, zLR ad nL x.2.1 L2 → W p l e R s m args below meth c H locs cells slots Q (F0 m x.1 L2 (x.2.2.map (zcv ad)))) (hdg : decode cc pc = .ok (.l2i, len)) (hlen : zlen (.l2i) len = true) (hz : zpure o nL (.l2i) len pc ls st = some x) : W p l e R s m args below meth c H locs cells slots Q (F0 m pc L (st.map (zcv ad))) := by
  obtain rfl : len = 1 := Nat.eq_of_beq_eq_true hlen
  simp only [zpure] at hz
  split at hz
  · cases hz
    exact lv_l2i hexec hb hdg rfl (kk L hl)
  · cases hz
theorem zs_i2b (hexec : p.tables.exec = Jvm.exec) (hb : c.code = cc) (hown : s.vm.findClass (zcn o) = some m.cls) (hI : ∀ k v, zI o k = some v → (Jvm.Cond.constant (zcn o) k v).before args s = true) (hJ : ∀ k v, zJ o k = some v → (Jvm.Cond.constantLong (zcn o) k v).before args s = true) (hl : zLR ad nL ls L) (kk : ∀ L2, zLR ad nL x.2.1 L2 → W p l e R s m args below meth c H locs cells slots Q (F0 m x.1 L2 (x.2.2.map (zcv ad)))) (hdg : decode cc pc = .ok (.i2b, len)) (hlen : zlen (.i2b) len = true) (hz : zpure o nL (.i2b) len pc ls st = some x) : W p l e R s m args below meth c H locs cells slots Q (F0 m pc L (st.map (zcv ad))) := by
  obtain rfl : len = 1 := Nat.eq_of_beq_eq_true hlen
  simp only [zpure] at hz
  split at hz
  · cases hz
    exact lv_i2b hexec hb hdg rfl (kk L hl)
  · cases hz
theorem zs_i2c (hexec : p.tables.exec = Jvm.exec) (hb : c.code = cc) (hown : s.vm.findClass (zcn o) = some m.cls) (hI : ∀ k v, zI o k = some v → (Jvm.Cond.constant (zcn o) k v).before args s = true) (hJ : ∀ k v, zJ o k = some v → (Jvm.Cond.constantLong (zcn o) k v).before args s = true) (hl : zLR ad nL ls L) (kk : ∀ L2, zLR ad nL x.2.1 L2 → W p l e R s m args below meth c H locs cells slots Q (F0 m x.1 L2 (x.2.2.map (zcv ad)))) (hdg : decode cc pc = .ok (.i2c, len)) (hlen : zlen (.i2c) len = true) (hz : zpure o nL (.i2c) len pc ls st = some x) : W p l e R s m args below meth c H locs cells slots Q (F0 m pc L (st.map (zcv ad))) := by
  obtain rfl : len = 1 := Nat.eq_of_beq_eq_true hlen
  simp only [zpure] at hz
  split at hz
  · cases hz
    exact lv_i2c hexec hb hdg rfl (kk L hl)
  · cases hz
theorem zs_lcmp (hexec : p.tables.exec = Jvm.exec) (hb : c.code = cc) (hown : s.vm.findClass (zcn o) = some m.cls) (hI : ∀ k v, zI o k = some v → (Jvm.Cond.constant (zcn o) k v).before args s = true) (hJ : ∀ k v, zJ o k = some v → (Jvm.Cond.constantLong (zcn o) k v).before args s = true) (hl : zLR ad nL ls L) (kk : ∀ L2, zLR ad nL x.2.1 L2 → W p l e R s m args below meth c H locs cells slots Q (F0 m x.1 L2 (x.2.2.map (zcv ad)))) (hdg : decode cc pc = .ok (.lcmp, len)) (hlen : zlen (.lcmp) len = true) (hz : zpure o nL (.lcmp) len pc ls st = some x) : W p l e R s m args below meth c H locs cells slots Q (F0 m pc L (st.map (zcv ad))) := by
  obtain rfl : len = 1 := Nat.eq_of_beq_eq_true hlen
  simp only [zpure] at hz
  split at hz
  · cases hz
    exact W.lcmp hexec hb hdg (kk L hl)
  · cases hz
theorem zs_idiv (hexec : p.tables.exec = Jvm.exec) (hb : c.code = cc) (hown : s.vm.findClass (zcn o) = some m.cls) (hI : ∀ k v, zI o k = some v → (Jvm.Cond.constant (zcn o) k v).before args s = true) (hJ : ∀ k v, zJ o k = some v → (Jvm.Cond.constantLong (zcn o) k v).before args s = true) (hl : zLR ad nL ls L) (kk : ∀ L2, zLR ad nL x.2.1 L2 → W p l e R s m args below meth c H locs cells slots Q (F0 m x.1 L2 (x.2.2.map (zcv ad)))) (hdg : decode cc pc = .ok (.idiv, len)) (hlen : zlen (.idiv) len = true) (hz : zpure o nL (.idiv) len pc ls st = some x) : W p l e R s m args below meth c H locs cells slots Q (F0 m pc L (st.map (zcv ad))) := by
  obtain rfl : len = 1 := Nat.eq_of_beq_eq_true hlen
  simp only [zpure] at hz
  split at hz
  · split at hz
    · cases hz
    · rename_i hne
      cases hz
      exact lv_idiv hexec hb hdg hne (kk L hl)
  · cases hz
theorem zs_irem (hexec : p.tables.exec = Jvm.exec) (hb : c.code = cc) (hown : s.vm.findClass (zcn o) = some m.cls) (hI : ∀ k v, zI o k = some v → (Jvm.Cond.constant (zcn o) k v).before args s = true) (hJ : ∀ k v, zJ o k = some v → (Jvm.Cond.constantLong (zcn o) k v).before args s = true) (hl : zLR ad nL ls L) (kk : ∀ L2, zLR ad nL x.2.1 L2 → W p l e R s m args below meth c H locs cells slots Q (F0 m x.1 L2 (x.2.2.map (zcv ad)))) (hdg : decode cc pc = .ok (.irem, len)) (hlen : zlen (.irem) len = true) (hz : zpure o nL (.irem) len pc ls st = some x) : W p l e R s m args below meth c H locs cells slots Q (F0 m pc L (st.map (zcv ad))) := by
  obtain rfl : len = 1 := Nat.eq_of_beq_eq_true hlen
  simp only [zpure] at hz
  split at hz
  · split at hz
    · cases hz
    · rename_i hne
      cases hz
      exact lv_irem hexec hb hdg hne (kk L hl)
  · cases hz
theorem zs_dup (hexec : p.tables.exec = Jvm.exec) (hb : c.code = cc) (hown : s.vm.findClass (zcn o) = some m.cls) (hI : ∀ k v, zI o k = some v → (Jvm.Cond.constant (zcn o) k v).before args s = true) (hJ : ∀ k v, zJ o k = some v → (Jvm.Cond.constantLong (zcn o) k v).before args s = true) (hl : zLR ad nL ls L) (kk : ∀ L2, zLR ad nL x.2.1 L2 → W p l e R s m args below meth c H locs cells slots Q (F0 m x.1 L2 (x.2.2.map (zcv ad)))) (hdg : decode cc pc = .ok (.dup, len)) (hlen : zlen (.dup) len = true) (hz : zpure o nL (.dup) len pc ls st = some x) : W p l e R s m args below meth c H locs cells slots Q (F0 m pc L (st.map (zcv ad))) := by
  obtain rfl : len = 1 := Nat.eq_of_beq_eq_true hlen
  simp only [zpure] at hz
  split at hz
  · rename_i a r
    cases e2 : zc2 a with
    | true => rw [e2] at hz; cases hz
    | false =>
      rw [e2] at hz
      cases hz
      exact lv_dup hexec hb hdg (by rw [zcv_cat]; exact zc2_f e2) (kk L hl)
  · cases hz
theorem zs_pop (hexec : p.tables.exec = Jvm.exec) (hb : c.code = cc) (hown : s.vm.findClass (zcn o) = some m.cls) (hI : ∀ k v, zI o k = some v → (Jvm.Cond.constant (zcn o) k v).before args s = true) (hJ : ∀ k v, zJ o k = some v → (Jvm.Cond.constantLong (zcn o) k v).before args s = true) (hl : zLR ad nL ls L) (kk : ∀ L2, zLR ad nL x.2.1 L2 → W p l e R s m args below meth c H locs cells slots Q (F0 m x.1 L2 (x.2.2.map (zcv ad)))) (hdg : decode cc pc = .ok (.pop, len)) (hlen : zlen (.pop) len = true) (hz : zpure o nL (.pop) len pc ls st = some x) : W p l e R s m args below meth c H locs cells slots Q (F0 m pc L (st.map (zcv ad))) := by
  obtain rfl : len = 1 := Nat.eq_of_beq_eq_true hlen
  simp only [zpure] at hz
  split at hz
  · rename_i a r
    cases e2 : zc2 a with
    | true => rw [e2] at hz; cases hz
    | false =>
      rw [e2] at hz
      cases hz
      exact lv_pop hexec hb hdg (by rw [zcv_cat]; exact zc2_f e2) (kk L hl)
  · cases hz
theorem zs_dup2 (hexec : p.tables.exec = Jvm.exec) (hb : c.code = cc) (hown : s.vm.findClass (zcn o) = some m.cls) (hI : ∀ k v, zI o k = some v → (Jvm.Cond.constant (zcn o) k v).before args s = true) (hJ : ∀ k v, zJ o k = some v → (Jvm.Cond.constantLong (zcn o) k v).before args s = true) (hl : zLR ad nL ls L) (kk : ∀ L2, zLR ad nL x.2.1 L2 → W p l e R s m args below meth c H locs cells slots Q (F0 m x.1 L2 (x.2.2.map (zcv ad)))) (hdg : decode cc pc = .ok (.dup2, len)) (hlen : zlen (.dup2) len = true) (hz : zpure o nL (.dup2) len pc ls st = some x) : W p l e R s m args below meth c H locs cells slots Q (F0 m pc L (st.map (zcv ad))) := by
  obtain rfl : len = 1 := Nat.eq_of_beq_eq_true hlen
  simp only [zpure] at hz
  split at hz
  · rename_i a b r
    cases e2 : zc2 a with
    | true => rw [e2] at hz; cases hz
    | false =>
      cases e3 : zc2 b with
      | true => rw [e2, e3] at hz; cases hz
      | false =>
        rw [e2, e3] at hz
        cases hz
        exact lv_dup2_11 hexec hb hdg (by rw [zcv_cat]; exact zc2_f e2) (by rw [zcv_cat]; exact zc2_f e3) (kk L hl)
  · cases hz
theorem zs_goto (hexec : p.tables.exec = Jvm.exec) (hb : c.code = cc) (hown : s.vm.findClass (zcn o) = some m.cls) (hI : ∀ k v, zI o k = some v → (Jvm.Cond.constant (zcn o) k v).before args s = true) (hJ : ∀ k v, zJ o k = some v → (Jvm.Cond.constantLong (zcn o) k v).before args s = true) (hl : zLR ad nL ls L) (kk : ∀ L2, zLR ad nL x.2.1 L2 → W p l e R s m args below meth c H locs cells slots Q (F0 m x.1 L2 (x.2.2.map (zcv ad)))) {off : Int} (hdg : decode cc pc = .ok (.goto off, len)) (hlen : zlen (.goto off) len = true) (hz : zpure o nL (.goto off) len pc ls st = some x) : W p l e R s m args below meth c H locs cells slots Q (F0 m pc L (st.map (zcv ad))) := by
  obtain rfl : len = 3 := Nat.eq_of_beq_eq_true hlen
  simp only [zpure] at hz
  obtain ⟨t, ht, rfl⟩ := zgo_some hz
  exact lv_goto hexec hb hdg ht (kk L hl)
theorem zs_if_icmp_eq (hexec : p.tables.exec = Jvm.exec) (hb : c.code = cc) (hown : s.vm.findClass (zcn o) = some m.cls) (hI : ∀ k v, zI o k = some v → (Jvm.Cond.constant (zcn o) k v).before args s = true) (hJ : ∀ k v, zJ o k = some v → (Jvm.Cond.constantLong (zcn o) k v).before args s = true) (hl : zLR ad nL ls L) (kk : ∀ L2, zLR ad nL x.2.1 L2 → W p l e R s m args below meth c H locs cells slots Q (F0 m x.1 L2 (x.2.2.map (zcv ad)))) {off : Int} (hdg : decode cc pc = .ok (.if_icmp .eq off, len)) (hlen : zlen (.if_icmp .eq off) len = true) (hz : zpure o nL (.if_icmp .eq off) len pc ls st = some x) : W p l e R s m args below meth c H locs cells slots Q (F0 m pc L (st.map (zcv ad))) := by
  obtain rfl : len = 3 := Nat.eq_of_beq_eq_true hlen
  simp only [zpure] at hz
  split at hz
  · rename_i b a r
    split at hz
    · rename_i t ht
      cases hz
      have k := kk L hl
      refine lv_icmp_eq hexec hb hdg (ztg_some ht) (fun h => ?_) (fun h => ?_)
      · have e : zcnd .eq a b = true := by simp [zcnd, h]
        rw [if_pos e] at k
        exact k
      · have e : zcnd .eq a b = false := by simp [zcnd, h]
        rw [if_neg (by rw [e]; exact Bool.false_ne_true)] at k
        exact k
    · cases hz
  · cases hz
theorem zs_if_icmp_ne (hexec : p.tables.exec = Jvm.exec) (hb : c.code = cc) (hown : s.vm.findClass (zcn o) = some m.cls) (hI : ∀ k v, zI o k = some v → (Jvm.Cond.constant (zcn o) k v).before args s = true) (hJ : ∀ k v, zJ o k = some v → (Jvm.Cond.constantLong (zcn o) k v).before args s = true) (hl : zLR ad nL ls L) (kk : ∀ L2, zLR ad nL x.2.1 L2 → W p l e R s m args below meth c H locs cells slots Q (F0 m x.1 L2 (x.2.2.map (zcv ad)))) {off : Int} (hdg : decode cc pc = .ok (.if_icmp .ne off, len)) (hlen : zlen (.if_icmp .ne off) len = true) (hz : zpure o nL (.if_icmp .ne off) len pc ls st = some x) : W p l e R s m args below meth c H locs cells slots Q (F0 m pc L (st.map (zcv ad))) := by
  obtain rfl : len = 3 := Nat.eq_of_beq_eq_true hlen
  simp only [zpure] at hz
  split at hz
  · rename_i b a r
    split at hz
    · rename_i t ht
      cases hz
      have k := kk L hl
      refine lv_icmp_ne hexec hb hdg (ztg_some ht) (fun h => ?_) (fun h => ?_)
      · have e : zcnd .ne a b = true := by simp [zcnd, h]
        rw [if_pos e] at k
        exact k
      · have e : zcnd .ne a b = false := by simp [zcnd, h]
        rw [if_neg (by rw [e]; exact Bool.false_ne_true)] at k
        exact k
    · cases hz
  · cases hz
theorem zs_if_icmp_lt (hexec : p.tables.exec = Jvm.exec) (hb : c.code = cc) (hown : s.vm.findClass (zcn o) = some m.cls) (hI : ∀ k v, zI o k = some v → (Jvm.Cond.constant (zcn o) k v).before args s = true) (hJ : ∀ k v, zJ o k = some v → (Jvm.Cond.constantLong (zcn o) k v).before args s = true) (hl : zLR ad nL ls L) (kk : ∀ L2, zLR ad nL x.2.1 L2 → W p l e R s m args below meth c H locs cells slots Q (F0 m x.1 L2 (x.2.2.map (zcv ad)))) {off : Int} (hdg : decode cc pc = .ok (.if_icmp .lt off, len)) (hlen : zlen (.if_icmp .lt off) len = true) (hz : zpure o nL (.if_icmp .lt off) len pc ls st = some x) : W p l e R s m args below meth c H locs cells slots Q (F0 m pc L (st.map (zcv ad))) := by
  obtain rfl : len = 3 := Nat.eq_of_beq_eq_true hlen
  simp only [zpure] at hz
  split at hz
  · rename_i b a r
    split at hz
    · rename_i t ht
      cases hz
      have k := kk L hl
      refine lv_icmp_lt hexec hb hdg (ztg_some ht) (fun h => ?_) (fun h => ?_)
      · have e : zcnd .lt a b = true := by simp [zcnd, h]
        rw [if_pos e] at k
        exact k
      · have e : zcnd .lt a b = false := by simp [zcnd, h]
        rw [if_neg (by rw [e]; exact Bool.false_ne_true)] at k
        exact k
    · cases hz
  · cases hz
theorem zs_if_icmp_ge (hexec : p.tables.exec = Jvm.exec) (hb : c.code = cc) (hown : s.vm.findClass (zcn o) = some m.cls) (hI : ∀ k v, zI o k = some v → (Jvm.Cond.constant (zcn o) k v).before args s = true) (hJ : ∀ k v, zJ o k = some v → (Jvm.Cond.constantLong (zcn o) k v).before args s = true) (hl : zLR ad nL ls L) (kk : ∀ L2, zLR ad nL x.2.1 L2 → W p l e R s m args below meth c H locs cells slots Q (F0 m x.1 L2 (x.2.2.map (zcv ad)))) {off : Int} (hdg : decode cc pc = .ok (.if_icmp .ge off, len)) (hlen : zlen (.if_icmp .ge off) len = true) (hz : zpure o nL (.if_icmp .ge off) len pc ls st = some x) : W p l e R s m args below meth c H locs cells slots Q (F0 m pc L (st.map (zcv ad))) := by
  obtain rfl : len = 3 := Nat.eq_of_beq_eq_true hlen
  simp only [zpure] at hz
  split at hz
  · rename_i b a r
    split at hz
    · rename_i t ht
      cases hz
      have k := kk L hl
      refine lv_icmp_ge hexec hb hdg (ztg_some ht) (fun h => ?_) (fun h => ?_)
      · have e : zcnd .ge a b = true := by simp [zcnd, h]
        rw [if_pos e] at k
        exact k
      · have e : zcnd .ge a b = false := by simp [zcnd, h]
        rw [if_neg (by rw [e]; exact Bool.false_ne_true)] at k
        exact k
    · cases hz
  · cases hz
theorem zs_if_icmp_gt (hexec : p.tables.exec = Jvm.exec) (hb : c.code = cc) (hown : s.vm.findClass (zcn o) = some m.cls) (hI : ∀ k v, zI o k = some v → (Jvm.Cond.constant (zcn o) k v).before args s = true) (hJ : ∀ k v, zJ o k = some v → (Jvm.Cond.constantLong (zcn o) k v).before args s = true) (hl : zLR ad nL ls L) (kk : ∀ L2, zLR ad nL x.2.1 L2 → W p l e R s m args below meth c H locs cells slots Q (F0 m x.1 L2 (x.2.2.map (zcv ad)))) {off : Int} (hdg : decode cc pc = .ok (.if_icmp .gt off, len)) (hlen : zlen (.if_icmp .gt off) len = true) (hz : zpure o nL (.if_icmp .gt off) len pc ls st = some x) : W p l e R s m args below meth c H locs cells slots Q (F0 m pc L (st.map (zcv ad))) := by
  obtain rfl : len = 3 := Nat.eq_of_beq_eq_true hlen
  simp only [zpure] at hz
  split at hz
  · rename_i b a r
    split at hz
    · rename_i t ht
      cases hz
      have k := kk L hl
      refine lv_icmp_gt hexec hb hdg (ztg_some ht) (fun h => ?_) (fun h => ?_)
      · have e : zcnd .gt a b = true := by simp [zcnd, h]
        rw [if_pos e] at k
        exact k
      · have e : zcnd .gt a b = false := by simp [zcnd, h]
        rw [if_neg (by rw [e]; exact Bool.false_ne_true)] at k
        exact k
    · cases hz
  · cases hz
theorem zs_if_icmp_le (hexec : p.tables.exec = Jvm.exec) (hb : c.code = cc) (hown : s.vm.findClass (zcn o) = some m.cls) (hI : ∀ k v, zI o k = some v → (Jvm.Cond.constant (zcn o) k v).before args s = true) (hJ : ∀ k v, zJ o k = some v → (Jvm.Cond.constantLong (zcn o) k v).before args s = true) (hl : zLR ad nL ls L) (kk : ∀ L2, zLR ad nL x.2.1 L2 → W p l e R s m args below meth c H locs cells slots Q (F0 m x.1 L2 (x.2.2.map (zcv ad)))) {off : Int} (hdg : decode cc pc = .ok (.if_icmp .le off, len)) (hlen : zlen (.if_icmp .le off) len = true) (hz : zpure o nL (.if_icmp .le off) len pc ls st = some x) : W p l e R s m args below meth c H locs cells slots Q (F0 m pc L (st.map (zcv ad))) := by
  obtain rfl : len = 3 := Nat.eq_of_beq_eq_true hlen
  simp only [zpure] at hz
  split at hz
  · rename_i b a r
    split at hz
    · rename_i t ht
      cases hz
      have k := kk L hl
      refine lv_icmp_le hexec hb hdg (ztg_some ht) (fun h => ?_) (fun h => ?_)
      · have e : zcnd .le a b = true := by simp [zcnd, h]
        rw [if_pos e] at k
        exact k
      · have e : zcnd .le a b = false := by simp [zcnd, h]
        rw [if_neg (by rw [e]; exact Bool.false_ne_true)] at k
        exact k
    · cases hz
  · cases hz
theorem zs_ifCond_eq (hexec : p.tables.exec = Jvm.exec) (hb : c.code = cc) (hown : s.vm.findClass (zcn o) = some m.cls) (hI : ∀ k v, zI o k = some v → (Jvm.Cond.constant (zcn o) k v).before args s = true) (hJ : ∀ k v, zJ o k = some v → (Jvm.Cond.constantLong (zcn o) k v).before args s = true) (hl : zLR ad nL ls L) (kk : ∀ L2, zLR ad nL x.2.1 L2 → W p l e R s m args below meth c H locs cells slots Q (F0 m x.1 L2 (x.2.2.map (zcv ad)))) {off : Int} (hdg : decode cc pc = .ok (.ifCond .eq off, len)) (hlen : zlen (.ifCond .eq off) len = true) (hz : zpure o nL (.ifCond .eq off) len pc ls st = some x) : W p l e R s m args below meth c H locs cells slots Q (F0 m pc L (st.map (zcv ad))) := by
  obtain rfl : len = 3 := Nat.eq_of_beq_eq_true hlen
  simp only [zpure] at hz
  split at hz
  · rename_i a r
    split at hz
    · rename_i t ht
      cases hz
      have k := kk L hl
      refine lv_if_eq hexec hb hdg (ztg_some ht) (fun h => ?_) (fun h => ?_)
      · have e : zcnd .eq a 0 = true := by simp [zcnd, h]
        rw [if_pos e] at k
        exact k
      · have e : zcnd .eq a 0 = false := by simp [zcnd, h]
        rw [if_neg (by rw [e]; exact Bool.false_ne_true)] at k
        exact k
    · cases hz
  · cases hz
theorem zs_ifCond_ne (hexec : p.tables.exec = Jvm.exec) (hb : c.code = cc) (hown : s.vm.findClass (zcn o) = some m.cls) (hI : ∀ k v, zI o k = some v → (Jvm.Cond.constant (zcn o) k v).before args s = true) (hJ : ∀ k v, zJ o k = some v → (Jvm.Cond.constantLong (zcn o) k v).before args s = true) (hl : zLR ad nL ls L) (kk : ∀ L2, zLR ad nL x.2.1 L2 → W p l e R s m args below meth c H locs cells slots Q (F0 m x.1 L2 (x.2.2.map (zcv ad)))) {off : Int} (hdg : decode cc pc = .ok (.ifCond .ne off, len)) (hlen : zlen (.ifCond .ne off) len = true) (hz : zpure o nL (.ifCond .ne off) len pc ls st = some x) : W p l e R s m args below meth c H locs cells slots Q (F0 m pc L (st.map (zcv ad))) := by
  obtain rfl : len = 3 := Nat.eq_of_beq_eq_true hlen
  simp only [zpure] at hz
  split at hz
  · rename_i a r
    split at hz
    · rename_i t ht
      cases hz
      have k := kk L hl
      refine lv_if_ne hexec hb hdg (ztg_some ht) (fun h => ?_) (fun h => ?_)
      · have e : zcnd .ne a 0 = true := by simp [zcnd, h]
        rw [if_pos e] at k
        exact k
      · have e : zcnd .ne a 0 = false := by simp [zcnd, h]
        rw [if_neg (by rw [e]; exact Bool.false_ne_true)] at k
        exact k
    · cases hz
  · cases hz
theorem zs_ifCond_lt (hexec : p.tables.exec = Jvm.exec) (hb : c.code = cc) (hown : s.vm.findClass (zcn o) = some m.cls) (hI : ∀ k v, zI o k = some v → (Jvm.Cond.constant (zcn o) k v).before args s = true) (hJ : ∀ k v, zJ o k = some v → (Jvm.Cond.constantLong (zcn o) k v).before args s = true) (hl : zLR ad nL ls L) (kk : ∀ L2, zLR ad nL x.2.1 L2 → W p l e R s m args below meth c H locs cells slots Q (F0 m x.1 L2 (x.2.2.map (zcv ad)))) {off : Int} (hdg : decode cc pc = .ok (.ifCond .lt off, len)) (hlen : zlen (.ifCond .lt off) len = true) (hz : zpure o nL (.ifCond .lt off) len pc ls st = some x) : W p l e R s m args below meth c H locs cells slots Q (F0 m pc L (st.map (zcv ad))) := by
  obtain rfl : len = 3 := Nat.eq_of_beq_eq_true hlen
  simp only [zpure] at hz
  split at hz
  · rename_i a r
    split at hz
    · rename_i t ht
      cases hz
      have k := kk L hl
      refine lv_if_lt hexec hb hdg (ztg_some ht) (fun h => ?_) (fun h => ?_)
      · have e : zcnd .lt a 0 = true := by simp [zcnd, h]
        rw [if_pos e] at k
        exact k
      · have e : zcnd .lt a 0 = false := by simp [zcnd, h]
        rw [if_neg (by rw [e]; exact Bool.false_ne_true)] at k
        exact k
    · cases hz
  · cases hz
theorem zs_ifCond_ge (hexec : p.tables.exec = Jvm.exec) (hb : c.code = cc) (hown : s.vm.findClass (zcn o) = some m.cls) (hI : ∀ k v, zI o k = some v → (Jvm.Cond.constant (zcn o) k v).before args s = true) (hJ : ∀ k v, zJ o k = some v → (Jvm.Cond.constantLong (zcn o) k v).before args s = true) (hl : zLR ad nL ls L) (kk : ∀ L2, zLR ad nL x.2.1 L2 → W p l e R s m args below meth c H locs cells slots Q (F0 m x.1 L2 (x.2.2.map (zcv ad)))) {off : Int} (hdg : decode cc pc = .ok (.ifCond .ge off, len)) (hlen : zlen (.ifCond .ge off) len = true) (hz : zpure o nL (.ifCond .ge off) len pc ls st = some x) : W p l e R s m args below meth c H locs cells slots Q (F0 m pc L (st.map (zcv ad))) := by
  obtain rfl : len = 3 := Nat.eq_of_beq_eq_true hlen
  simp only [zpure] at hz
  split at hz
  · rename_i a r
    split at hz
    · rename_i t ht
      cases hz
      have k := kk L hl
      refine lv_if_ge hexec hb hdg (ztg_some ht) (fun h => ?_) (fun h => ?_)
      · have e : zcnd .ge a 0 = true := by simp [zcnd, h]
        rw [if_pos e] at k
        exact k
      · have e : zcnd .ge a 0 = false := by simp [zcnd, h]
        rw [if_neg (by rw [e]; exact Bool.false_ne_true)] at k
        exact k
    · cases hz
  · cases hz
theorem zs_ifCond_gt (hexec : p.tables.exec = Jvm.exec) (hb : c.code = cc) (hown : s.vm.findClass (zcn o) = some m.cls) (hI : ∀ k v, zI o k = some v → (Jvm.Cond.constant (zcn o) k v).before args s = true) (hJ : ∀ k v, zJ o k = some v → (Jvm.Cond.constantLong (zcn o) k v).before args s = true) (hl : zLR ad nL ls L) (kk : ∀ L2, zLR ad nL x.2.1 L2 → W p l e R s m args below meth c H locs cells slots Q (F0 m x.1 L2 (x.2.2.map (zcv ad)))) {off : Int} (hdg : decode cc pc = .ok (.ifCond .gt off, len)) (hlen : zlen (.ifCond .gt off) len = true) (hz : zpure o nL (.ifCond .gt off) len pc ls st = some x) : W p l e R s m args below meth c H locs cells slots Q (F0 m pc L (st.map (zcv ad))) := by
  obtain rfl : len = 3 := Nat.eq_of_beq_eq_true hlen
  simp only [zpure] at hz
  split at hz
  · rename_i a r
    split at hz
    · rename_i t ht
      cases hz
      have k := kk L hl
      refine lv_if_gt hexec hb hdg (ztg_some ht) (fun h => ?_) (fun h => ?_)
      · have e : zcnd .gt a 0 = true := by simp [zcnd, h]
        rw [if_pos e] at k
        exact k
      · have e : zcnd .gt a 0 = false := by simp [zcnd, h]
        rw [if_neg (by rw [e]; exact Bool.false_ne_true)] at k
        exact k
    · cases hz
  · cases hz
theorem zs_ifCond_le (hexec : p.tables.exec = Jvm.exec) (hb : c.code = cc) (hown : s.vm.findClass (zcn o) = some m.cls) (hI : ∀ k v, zI o k = some v → (Jvm.Cond.constant (zcn o) k v).before args s = true) (hJ : ∀ k v, zJ o k = some v → (Jvm.Cond.constantLong (zcn o) k v).before args s = true) (hl : zLR ad nL ls L) (kk : ∀ L2, zLR ad nL x.2.1 L2 → W p l e R s m args below meth c H locs cells slots Q (F0 m x.1 L2 (x.2.2.map (zcv ad)))) {off : Int} (hdg : decode cc pc = .ok (.ifCond .le off, len)) (hlen : zlen (.ifCond .le off) len = true) (hz : zpure o nL (.ifCond .le off) len pc ls st = some x) : W p l e R s m args below meth c H locs cells slots Q (F0 m pc L (st.map (zcv ad))) := by
  obtain rfl : len = 3 := Nat.eq_of_beq_eq_true hlen
  simp only [zpure] at hz
  split at hz
  · rename_i a r
    split at hz
    · rename_i t ht
      cases hz
      have k := kk L hl
      refine lv_if_le hexec hb hdg (ztg_some ht) (fun h => ?_) (fun h => ?_)
      · have e : zcnd .le a 0 = true := by simp [zcnd, h]
        rw [if_pos e] at k
        exact k
      · have e : zcnd .le a 0 = false := by simp [zcnd, h]
        rw [if_neg (by rw [e]; exact Bool.false_ne_true)] at k
        exact k
    · cases hz
  · cases hz
theorem zs_tableswitch (hexec : p.tables.exec = Jvm.exec) (hb : c.code = cc) (hown : s.vm.findClass (zcn o) = some m.cls) (hI : ∀ k v, zI o k = some v → (Jvm.Cond.constant (zcn o) k v).before args s = true) (hJ : ∀ k v, zJ o k = some v → (Jvm.Cond.constantLong (zcn o) k v).before args s = true) (hl : zLR ad nL ls L) (kk : ∀ L2, zLR ad nL x.2.1 L2 → W p l e R s m args below meth c H locs cells slots Q (F0 m x.1 L2 (x.2.2.map (zcv ad)))) {d lo hi : Int} {offs : Array Int} (hdg : decode cc pc = .ok (.tableswitch d lo hi offs, len)) (hlen : zlen (.tableswitch d lo hi offs) len = true) (hz : zpure o nL (.tableswitch d lo hi offs) len pc ls st = some x) : W p l e R s m args below meth c H locs cells slots Q (F0 m pc L (st.map (zcv ad))) := by
  simp only [zpure] at hz
  split at hz
  · rename_i a r
    split at hz
    · rename_i h
      obtain ⟨t, ht, rfl⟩ := zgo_some hz
      exact lv_tableOut hexec hb hdg h ht (kk L hl)
    · rename_i h
      split at hz
      · rename_i off ho
        obtain ⟨t, ht, rfl⟩ := zgo_some hz
        exact lv_tableIn hexec hb hdg (fun g => h (Or.inl g)) (fun g => h (Or.inr g)) ho ht (kk L hl)
      · cases hz
  · cases hz
theorem z_pure {i : Instr} (hexec : p.tables.exec = Jvm.exec) (hb : c.code = cc) (hown : s.vm.findClass (zcn o) = some m.cls) (hI : ∀ k v, zI o k = some v → (Jvm.Cond.constant (zcn o) k v).before args s = true) (hJ : ∀ k v, zJ o k = some v → (Jvm.Cond.constantLong (zcn o) k v).before args s = true) (hl : zLR ad nL ls L) (kk : ∀ L2, zLR ad nL x.2.1 L2 → W p l e R s m args below meth c H locs cells slots Q (F0 m x.1 L2 (x.2.2.map (zcv ad)))) (hdg : decode cc pc = .ok (i, len)) (hlen : zlen i len = true) (hz : zpure o nL i len pc ls st = some x) : W p l e R s m args below meth c H locs cells slots Q (F0 m pc L (st.map (zcv ad))) := by
  cases i
  case iconst => exact zs_iconst hexec hb hown hI hJ hl kk hdg hlen hz
  case bipush => exact zs_bipush hexec hb hown hI hJ hl kk hdg hlen hz
  case sipush => exact zs_sipush hexec hb hown hI hJ hl kk hdg hlen hz
  case lconst => exact zs_lconst hexec hb hown hI hJ hl kk hdg hlen hz
  case ldc => exact zs_ldc hexec hb hown hI hJ hl kk hdg hlen hz
  case ldc_w => exact zs_ldc_w hexec hb hown hI hJ hl kk hdg hlen hz
  case ldc2_w => exact zs_ldc2_w hexec hb hown hI hJ hl kk hdg hlen hz
  case iload_n => exact zs_iload_n hexec hb hown hI hJ hl kk hdg hlen hz
  case iload => exact zs_iload hexec hb hown hI hJ hl kk hdg hlen hz
  case lload_n => exact zs_lload_n hexec hb hown hI hJ hl kk hdg hlen hz
  case lload => exact zs_lload hexec hb hown hI hJ hl kk hdg hlen hz
  case aload_n => exact zs_aload_n hexec hb hown hI hJ hl kk hdg hlen hz
  case aload => exact zs_aload hexec hb hown hI hJ hl kk hdg hlen hz
  case istore_n => exact zs_istore_n hexec hb hown hI hJ hl kk hdg hlen hz
  case istore => exact zs_istore hexec hb hown hI hJ hl kk hdg hlen hz
  case astore_n => exact zs_astore_n hexec hb hown hI hJ hl kk hdg hlen hz
  case astore => exact zs_astore hexec hb hown hI hJ hl kk hdg hlen hz
  case lstore_n => exact zs_lstore_n hexec hb hown hI hJ hl kk hdg hlen hz
  case lstore => exact zs_lstore hexec hb hown hI hJ hl kk hdg hlen hz
  case iinc => exact zs_iinc hexec hb hown hI hJ hl kk hdg hlen hz
  case iadd => exact zs_iadd hexec hb hown hI hJ hl kk hdg hlen hz
  case isub => exact zs_isub hexec hb hown hI hJ hl kk hdg hlen hz
  case imul => exact zs_imul hexec hb hown hI hJ hl kk hdg hlen hz
  case iand => exact zs_iand hexec hb hown hI hJ hl kk hdg hlen hz
  case ior => exact zs_ior hexec hb hown hI hJ hl kk hdg hlen hz
  case ixor => exact zs_ixor hexec hb hown hI hJ hl kk hdg hlen hz
  case ishl => exact zs_ishl hexec hb hown hI hJ hl kk hdg hlen hz
  case ishr => exact zs_ishr hexec hb hown hI hJ hl kk hdg hlen hz
  case ladd => exact zs_ladd hexec hb hown hI hJ hl kk hdg hlen hz
  case lsub => exact zs_lsub hexec hb hown hI hJ hl kk hdg hlen hz
  case lmul => exact zs_lmul hexec hb hown hI hJ hl kk hdg hlen hz
  case land => exact zs_land hexec hb hown hI hJ hl kk hdg hlen hz
  case lor => exact zs_lor hexec hb hown hI hJ hl kk hdg hlen hz
  case lxor => exact zs_lxor hexec hb hown hI hJ hl kk hdg hlen hz
  case iushr => exact zs_iushr hexec hb hown hI hJ hl kk hdg hlen hz
  case lshl => exact zs_lshl hexec hb hown hI hJ hl kk hdg hlen hz
  case lshr => exact zs_lshr hexec hb hown hI hJ hl kk hdg hlen hz
  case lushr => exact zs_lushr hexec hb hown hI hJ hl kk hdg hlen hz
  case i2l => exact zs_i2l hexec hb hown hI hJ hl kk hdg hlen hz
  case l2i => exact zs_l2i hexec hb hown hI hJ hl kk hdg hlen hz
  case i2b => exact zs_i2b hexec hb hown hI hJ hl kk hdg hlen hz
  case i2c => exact zs_i2c hexec hb hown hI hJ hl kk hdg hlen hz
  case lcmp => exact zs_lcmp hexec hb hown hI hJ hl kk hdg hlen hz
  case idiv => exact zs_idiv hexec hb hown hI hJ hl kk hdg hlen hz
  case irem => exact zs_irem hexec hb hown hI hJ hl kk hdg hlen hz
  case dup => exact zs_dup hexec hb hown hI hJ hl kk hdg hlen hz
  case pop => exact zs_pop hexec hb hown hI hJ hl kk hdg hlen hz
  case dup2 => exact zs_dup2 hexec hb hown hI hJ hl kk hdg hlen hz
  case goto => exact zs_goto hexec hb hown hI hJ hl kk hdg hlen hz
  case tableswitch => exact zs_tableswitch hexec hb hown hI hJ hl kk hdg hlen hz
  case if_icmp cnd off =>
    cases cnd
    · exact zs_if_icmp_eq hexec hb hown hI hJ hl kk hdg hlen hz
    · exact zs_if_icmp_ne hexec hb hown hI hJ hl kk hdg hlen hz
    · exact zs_if_icmp_lt hexec hb hown hI hJ hl kk hdg hlen hz
    · exact zs_if_icmp_ge hexec hb hown hI hJ hl kk hdg hlen hz
    · exact zs_if_icmp_gt hexec hb hown hI hJ hl kk hdg hlen hz
    · exact zs_if_icmp_le hexec hb hown hI hJ hl kk hdg hlen hz
  case ifCond cnd off =>
    cases cnd
    · exact zs_ifCond_eq hexec hb hown hI hJ hl kk hdg hlen hz
    · exact zs_ifCond_ne hexec hb hown hI hJ hl kk hdg hlen hz
    · exact zs_ifCond_lt hexec hb hown hI hJ hl kk hdg hlen hz
    · exact zs_ifCond_ge hexec hb hown hI hJ hl kk hdg hlen hz
    · exact zs_ifCond_gt hexec hb hown hI hJ hl kk hdg hlen hz
    · exact zs_ifCond_le hexec hb hown hI hJ hl kk hdg hlen hz
  all_goals (simp only [zpure] at hz; cases hz)
end ZPURE
