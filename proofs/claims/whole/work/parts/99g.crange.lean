/-! THE CLASS, 57: range -/
def rngL (x : Int32) (o : Option Nat) (l : List Nat) : Option Nat := l.foldl (rngF x) o
def rLe (x : Int32) (v u : Nat) : Prop := if x = nI 0 then v ≤ u else u ≤ v
theorem rLe_refl {x : Int32} {v : Nat} : rLe x v v := by unfold rLe; split <;> exact Nat.le_refl v
theorem rLe_trans {x : Int32} {a b c : Nat} (h1 : rLe x a b) (h2 : rLe x b c) : rLe x a c := by
  unfold rLe at *
  split
  · next e => rw [if_pos e] at h1 h2; omega
  · next e => rw [if_neg e] at h1 h2; omega
theorem rLe_anti {x : Int32} {a b : Nat} (h1 : rLe x a b) (h2 : rLe x b a) : a = b := by
  unfold rLe at h1 h2
  by_cases e : x = nI 0
  · rw [if_pos e] at h1 h2; omega
  · rw [if_neg e] at h1 h2; omega
theorem rngF_some (x : Int32) (w v : Nat) : ∃ u, rngF x (some w) v = some u ∧ (u = w ∨ u = v) ∧ rLe x u w ∧ rLe x u v := by
  show ∃ u, (if x = nI 0 then (if v < w then some v else some w) else if w < v then some v else some w) = some u ∧ _
  unfold rLe
  by_cases e : x = nI 0
  · rw [if_pos e]
    by_cases h : v < w
    · rw [if_pos h]
      refine ⟨v, rfl, Or.inr rfl, ?_, ?_⟩
      · rw [if_pos e]; omega
      · rw [if_pos e]; exact Nat.le_refl v
    · rw [if_neg h]
      refine ⟨w, rfl, Or.inl rfl, ?_, ?_⟩
      · rw [if_pos e]; exact Nat.le_refl w
      · rw [if_pos e]; omega
  · rw [if_neg e]
    by_cases h : w < v
    · rw [if_pos h]
      refine ⟨v, rfl, Or.inr rfl, ?_, ?_⟩
      · rw [if_neg e]; omega
      · rw [if_neg e]; exact Nat.le_refl v
    · rw [if_neg h]
      refine ⟨w, rfl, Or.inl rfl, ?_, ?_⟩
      · rw [if_neg e]; exact Nat.le_refl w
      · rw [if_neg e]; omega
theorem rngL_some (x : Int32) : ∀ (l : List Nat) (w : Nat), ∃ u, rngL x (some w) l = some u ∧ (u = w ∨ u ∈ l) ∧ rLe x u w ∧ ∀ v ∈ l, rLe x u v
  | [], w => ⟨w, rfl, Or.inl rfl, rLe_refl, fun v hv => by cases hv⟩
  | a :: l, w => by
    obtain ⟨u, h1, h2, h3, h4⟩ := rngF_some x w a
    obtain ⟨u', g1, g2, g3, g4⟩ := rngL_some x l u
    refine ⟨u', ?_, ?_, rLe_trans g3 h3, fun v hv => ?_⟩
    · show rngL x (rngF x (some w) a) l = some u'
      rw [h1]; exact g1
    · rcases g2 with z | z
      · rcases h2 with y | y
        · exact Or.inl (z.trans y)
        · exact Or.inr (by rw [z, y]; exact List.mem_cons_self)
      · exact Or.inr (List.mem_cons_of_mem _ z)
    · rcases List.mem_cons.mp hv with e | e
      · rw [e]; exact rLe_trans g3 h4
      · exact g4 v e
theorem rngL_ne {x : Int32} {l : List Nat} (h : l ≠ []) : ∃ u, rngL x none l = some u ∧ u ∈ l ∧ ∀ v ∈ l, rLe x u v := by
  cases l with
  | nil => exact absurd rfl h
  | cons a l =>
    obtain ⟨u, h1, h2, h3, h4⟩ := rngL_some x l a
    refine ⟨u, h1, ?_, fun v hv => ?_⟩
    · rcases h2 with z | z
      · rw [z]; exact List.mem_cons_self
      · exact List.mem_cons_of_mem _ z
    · rcases List.mem_cons.mp hv with e | e
      · rw [e]; exact h3
      · exact h4 v e
theorem rngL_best {x : Int32} {l : List Nat} {v : Nat} (h1 : v ∈ l) (h2 : ∀ u ∈ l, rLe x v u) : rngL x none l = some v := by
  obtain ⟨u, g1, g2, g3⟩ := rngL_ne (x := x) (List.ne_nil_of_mem h1)
  rw [g1, rLe_anti (g3 v h1) (h2 u g2)]
theorem rngL_eq {x : Int32} {l m : List Nat} (h : ∀ v, v ∈ l ↔ v ∈ m) : rngL x none l = rngL x none m := by
  cases l with
  | nil =>
    cases m with
    | nil => rfl
    | cons a m => exact absurd ((h a).mpr List.mem_cons_self) (by simp)
  | cons a l =>
    obtain ⟨u, g1, g2, g3⟩ := rngL_ne (x := x) (l := a :: l) (List.cons_ne_nil _ _)
    rw [g1]
    exact (rngL_best ((h u).mp g2) fun v hv => g3 v ((h v).mpr hv)).symm
theorem rngO_L {b : Nat → Nat} {k : Nat} {x : Int32} : rngO b k x = rngL x none ((ext (b 2) (cgU b k) (cgM b k) []).map (tot (b (148 + 10 * k)))) := by
  unfold rngO rngL
  rw [List.foldl_map]
theorem ext_wo {b : Nat → Nat} (hW : Wf b) {k : Nat} (hk : k < b 3) (w : List Nat) : w ∈ ext (b 2) (cgU b k) (cgM b k) [] ↔ (w.length = cgN b k ∧ Wo (cgMs b k) 0 w) ∧ (cgU b k = true → w.Nodup) := by
  have h27 := hW.1.2.2.1
  have eM : ∀ i, i < cgN b k → (cgM b k).getD i 0 = cgMs b k i := fun i hi => by
    unfold cgM
    rw [getD_el (by rw [List.length_map, List.length_range]; exact hi), List.getElem_map, List.getElem_range]
    rfl
  have lM : (cgM b k).length = cgN b k := by unfold cgM; rw [List.length_map, List.length_range]
  rw [ext_iff, wo_get]
  constructor
  · rintro ⟨s, h1, h2, h3, h4⟩
    rw [List.nil_append] at h1
    subst h1
    rw [lM] at h2
    refine ⟨⟨h2, fun i hi => ?_⟩, fun hu => (h4 hu).1⟩
    have := h3 i hi
    rw [eM i (by omega)] at this
    rw [Nat.zero_add]
    exact ⟨by omega, this.2⟩
  · rintro ⟨⟨h1, h2⟩, h3⟩
    refine ⟨w, rfl, by rw [lM]; exact h1, fun i hi => ?_, fun hu => ⟨h3 hu, fun x _ hx => by cases hx⟩⟩
    have h := h2 i hi
    rw [Nat.zero_add] at h
    rw [eM i (by omega)]
    refine ⟨⟨h.1.1, ?_⟩, h.2⟩
    have hc := cgC_lt hW hk (show i < cgN b k by omega)
    have hm := (hW.2.2.2.1 _ hc).2.1.2.1
    have h9 : 2 ^ w.getD i 0 ≤ cgMs b k i := Nat.ge_two_pow_of_testBit h.2
    have h10 : cgMs b k i < 2 ^ (b 2 + 1) := hm
    have := (Nat.pow_lt_pow_iff_right (show 1 < 2 by omega)).mp (Nat.lt_of_le_of_lt h9 h10)
    omega
def spR (b : Nat → Nat) (k : Nat) : DF := rSet 3 (!cgU b k) 0 (cgN b k)
def rch (b : Nat → Nat) (k s : Nat) : Bool := foF (spR b k) (cgMs b k) (cgN b k) s && (spR b k).2.2.2 s
/-- the sets of digits tell the totals -/
theorem rng_sets {b : Nat → Nat} (hW : Wf b) {k : Nat} (hk : k < b 3) {x : Int32} (ha : cgU b k = false → 2 ≤ b (148 + 10 * k)) : rngO b k x = rngL x none (((List.range 128).filter (rch b k)).map (kTot (b (148 + 10 * k)))) := by
  have hg := hW.2.2.2.2.2 k hk
  rw [rngO_L]
  have one : ∀ w : List Nat, w.length = cgN b k → Wo (cgMs b k) 0 w → (cgU b k = true → w.Nodup) → kTot (b (148 + 10 * k)) (kSet 0 w) = tot (b (148 + 10 * k)) w := fun w _ h2 h3 => by
    refine kset_tot (al := !cgU b k) (wo_dig h2) (fun u => ?_) fun u => ?_
    · have := ha (by cases hc : cgU b k with | false => rfl | true => rw [hc] at u; cases u)
      have := hg.1.1
      omega
    · exact h3 (by cases hc : cgU b k with | true => rfl | false => rw [hc] at u; cases u)
  refine rngL_eq fun v => ?_
  rw [List.mem_map, List.mem_map]
  constructor
  · rintro ⟨w, hw, rfl⟩
    obtain ⟨⟨h1, h2⟩, h3⟩ := (ext_wo hW hk w).mp hw
    have hd := wo_dig h2
    have hn : (!cgU b k) = false → w.Nodup := fun u => h3 (by cases hc : cgU b k with | true => rfl | false => rw [hc] at u; cases u)
    refine ⟨kSet 0 w, List.mem_filter.mpr ⟨List.mem_range.mpr (kset_lt w 0 hd (by omega)), ?_⟩, one w h1 h2 h3⟩
    unfold rch
    rw [Bool.and_eq_true]
    refine ⟨(foF_iff _ _).mpr ⟨w, h1, h2, (rset_run w 0 _ hd (by omega)).mpr ⟨fun u => ⟨hn u, fun x _ => Nat.zero_testBit _⟩, rfl⟩⟩, ?_⟩
    show (decide (1 ≤ kSet 0 w) && (((!cgU b k) || decide (popc (kSet 0 w) = cgN b k)) && (decide (3 = 3) || _))) = true
    have hne : w ≠ [] := fun e => by
      rw [e] at h1
      have h1 : 0 = cgN b k := h1
      have := hg.2.1.1
      omega
    rw [decide_eq_true (kset_pos hd (by omega) hne), decide_eq_true rfl, Bool.true_or, Bool.and_true, Bool.true_and, Bool.or_eq_true]
    cases hc : cgU b k with
    | false => exact Or.inl rfl
    | true =>
      right
      have := (kset_un w 0 hd (by omega) (h3 hc) fun x _ => Nat.zero_testBit _).2
      rw [decide_eq_true_iff, this, h1, show popc 0 = 0 from by decide +kernel, Nat.zero_add]
  · rintro ⟨s, hs, rfl⟩
    obtain ⟨s1, s2⟩ := List.mem_filter.mp hs
    unfold rch at s2
    rw [Bool.and_eq_true] at s2
    obtain ⟨w, h1, h2, h3⟩ := (foF_iff _ _).mp s2.1
    have hd := wo_dig h2
    obtain ⟨r1, r2⟩ := (rset_run w 0 s hd (by omega)).mp h3
    have hu : cgU b k = true → w.Nodup := fun u => (r1 (by rw [u]; rfl)).1
    exact ⟨w, (ext_wo hW hk w).mpr ⟨⟨h1, h2⟩, hu⟩, by rw [r2]; exact (one w h1 h2 hu).symm⟩
def gsF (m : Nat) : Nat → Nat
  | 0 => 0
  | i + 1 => if m.testBit (i + 1) = true then i + 1 else gsF m i
theorem gs_le (m : Nat) : ∀ i, gsF m i ≤ i
  | 0 => Nat.le_refl 0
  | i + 1 => by
    show (if m.testBit (i + 1) = true then i + 1 else gsF m i) ≤ i + 1
    have := gs_le m i
    split <;> omega
theorem gs_bit (m : Nat) : ∀ i, gsF m i ≠ 0 → m.testBit (gsF m i) = true
  | 0, h => absurd rfl h
  | i + 1, h => by
    show m.testBit (if m.testBit (i + 1) = true then i + 1 else gsF m i) = true
    have h : (if m.testBit (i + 1) = true then i + 1 else gsF m i) ≠ 0 := h
    by_cases e : m.testBit (i + 1) = true
    · rw [if_pos e]; exact e
    · rw [if_neg e] at h ⊢; exact gs_bit m i h
theorem gs_ge (m : Nat) : ∀ i y, y ≤ i → m.testBit y = true → y ≤ gsF m i
  | 0, y, h, _ => h
  | i + 1, y, h, hb => by
    show y ≤ (if m.testBit (i + 1) = true then i + 1 else gsF m i)
    by_cases e : m.testBit (i + 1) = true
    · rw [if_pos e]; exact h
    · rw [if_neg e]
      refine gs_ge m i y ?_ hb
      by_cases e2 : y = i + 1
      · rw [e2] at hb; exact absurd hb e
      · omega
theorem ls_0 : ∀ m, m < 256 → ∀ y, y < 8 → 1 ≤ y → m.testBit y = true → lst m ≤ y := by decide +kernel
theorem gs_all (m : Nat) (hm : m < 256) (h0 : m.testBit 0 = false) (hz : m ≠ 0) : (1 ≤ gsF m 7 ∧ gsF m 7 ≤ 7) ∧ m.testBit (gsF m 7) = true ∧ ∀ y, y < 8 → m.testBit y = true → y ≤ gsF m 7 := by
  obtain ⟨z, z1, z2⟩ := msk_nz hm h0 hz
  have a := gs_ge m 7 z z1.2 z2
  exact ⟨⟨by omega, gs_le m 7⟩, gs_bit m 7 (by omega), fun y hy h => gs_ge m 7 y (by omega) h⟩
theorem ls_all (m : Nat) (hm : m < 256) (h0 : m.testBit 0 = false) (hz : m ≠ 0) : (1 ≤ lst m ∧ lst m ≤ 7) ∧ m.testBit (lst m) = true ∧ ∀ y, y < 8 → m.testBit y = true → lst m ≤ y := by
  obtain ⟨z, z1, z2⟩ := msk_nz hm h0 hz
  obtain ⟨u1, u2, u3⟩ := lst_bit ⟨z, z1.1, by omega, z2⟩
  refine ⟨⟨u1, by omega⟩, u3, fun y hy h => ls_0 m hm y hy ?_ h⟩
  by_cases e : y = 0
  · rw [e, h0] at h; cases h
  · omega
def endD (x : Int32) (m : Nat) : Nat := if x = nI 0 then lst m else gsF m 7
theorem end_all {x : Int32} {m : Nat} (h1 : m < 256) (h2 : m.testBit 0 = false) (h3 : m ≠ 0) : (1 ≤ endD x m ∧ endD x m ≤ 7) ∧ m.testBit (endD x m) = true ∧ ∀ y, y < 8 → m.testBit y = true → rLe x (endD x m) y := by
  unfold endD rLe
  by_cases e : x = nI 0
  · rw [if_pos e]
    obtain ⟨a, b, c⟩ := ls_all m h1 h2 h3
    exact ⟨a, b, fun y h4 h5 => by rw [if_pos e]; exact c y h4 h5⟩
  · rw [if_neg e]
    obtain ⟨a, b, c⟩ := gs_all m h1 h2 h3
    exact ⟨a, b, fun y h4 h5 => by rw [if_neg e]; exact c y h4 h5⟩
theorem fold_le {x : Int32} {f : Nat → Nat → Nat} (hf : ∀ a b c e, a ≤ b → c ≤ e → f a c ≤ f b e) : ∀ (l m : List Nat) (a b : Nat), l.length = m.length → rLe x a b → (∀ i, i < l.length → rLe x (l.getD i 0) (m.getD i 0)) → rLe x (l.foldl f a) (m.foldl f b)
  | [], [], a, b, _, h, _ => h
  | [], _ :: _, _, _, h, _, _ => by cases h
  | _ :: _, [], _, _, h, _, _ => by cases h
  | y :: l, z :: m, a, b, hl, h, hi => by
    have hl : l.length + 1 = m.length + 1 := hl
    refine fold_le hf l m (f a y) (f b z) (by omega) ?_ fun i hi' => ?_
    · have h0 : rLe x y z := hi 0 (by show 0 < l.length + 1; omega)
      unfold rLe at *
      by_cases e : x = nI 0
      · rw [if_pos e] at h h0 ⊢; exact hf _ _ _ _ h h0
      · rw [if_neg e] at h h0 ⊢; exact hf _ _ _ _ h h0
    · exact hi (i + 1) (by show i + 1 < l.length + 1; omega)
theorem rng_cells {b : Nat → Nat} (hW : Wf b) {k : Nat} (hk : k < b 3) {x : Int32} (hu : cgU b k = false) (hs : b (148 + 10 * k) ≤ 1) : rngO b k x = if (∀ i, i < cgN b k → cgMs b k i ≠ 0) then some (tot (b (148 + 10 * k)) ((List.range (cgN b k)).map fun i => endD x (cgMs b k i))) else none := by
  have hg := hW.2.2.2.2.2 k hk
  have hm : ∀ i, i < cgN b k → cgMs b k i < 256 ∧ (cgMs b k i).testBit 0 = false := fun i hi => by
    have hc := cgC_lt hW hk hi
    exact ⟨mk_lt hW hc, (hW.2.2.2.1 _ hc).2.1.2.2⟩
  rw [rngO_L]
  by_cases hz : ∀ i, i < cgN b k → cgMs b k i ≠ 0
  · rw [if_pos hz]
    have hl : ((List.range (cgN b k)).map fun i => endD x (cgMs b k i)).length = cgN b k := by rw [List.length_map, List.length_range]
    refine rngL_best ?_ fun u hu' => ?_
    · refine List.mem_map.mpr ⟨_, (ext_wo hW hk _).mpr ⟨⟨hl, (wo_get _ 0).mpr fun i hi => ?_⟩, fun z => by rw [hu] at z; cases z⟩, rfl⟩
      rw [hl] at hi
      obtain ⟨e1, e2, _⟩ := end_all (x := x) (hm i hi).1 (hm i hi).2 (hz i hi)
      rw [map_get hi, Nat.zero_add]
      exact ⟨e1, e2⟩
    · obtain ⟨w, hw, rfl⟩ := List.mem_map.mp hu'
      obtain ⟨⟨h1, h2⟩, _⟩ := (ext_wo hW hk w).mp hw
      have h3 := (wo_get w 0).mp h2
      have hle : ∀ i, i < ((List.range (cgN b k)).map fun i => endD x (cgMs b k i)).length → rLe x (((List.range (cgN b k)).map fun i => endD x (cgMs b k i)).getD i 0) (w.getD i 0) := fun i hi => by
        rw [hl] at hi
        have h4 := h3 i (by omega)
        rw [Nat.zero_add] at h4
        rw [map_get hi]
        exact (end_all (hm i hi).1 (hm i hi).2 (hz i hi)).2.2 _ (by omega) h4.2
      unfold tot
      by_cases e0 : b (148 + 10 * k) = 0
      · rw [if_pos e0, if_pos e0]
        exact fold_le (fun a b c e h h' => Nat.add_le_add h h') _ _ 0 0 (by rw [hl, h1]) rLe_refl hle
      · have e1 : b (148 + 10 * k) = 1 := by omega
        rw [if_neg e0, if_neg e0, if_pos e1, if_pos e1]
        exact fold_le (fun a b c e h h' => Nat.mul_le_mul h h') _ _ 1 1 (by rw [hl, h1]) rLe_refl hle
  · rw [if_neg hz]
    have he : ext (b 2) (cgU b k) (cgM b k) [] = [] := by
      cases hL : ext (b 2) (cgU b k) (cgM b k) [] with
      | nil => rfl
      | cons w L =>
        exfalso
        have hw : w ∈ ext (b 2) (cgU b k) (cgM b k) [] := by rw [hL]; exact List.mem_cons_self
        obtain ⟨⟨h1, h2⟩, _⟩ := (ext_wo hW hk w).mp hw
        refine hz fun i hi e => ?_
        have h4 := ((wo_get w 0).mp h2 i (by omega)).2
        rw [Nat.zero_add, e, Nat.zero_testBit] at h4
        cases h4
    rw [he]
    rfl
section QX4
variable {d n : Nat} {b : Nat → Nat} {M : ZM}
theorem q_greatest {m : Nat} (hm : m < 2147483648) : ∀ i, i < 8 → h_C_greatestDigit_3 d (nI m) (nI i) M = some (some (.int (nI (gsF m i))), M) := by
  intro i
  induction i with
  | zero =>
    intro _
    refine e_C_greatestDigit_3 ?_
    rw [if_pos (by decide)]
    rfl
  | succ i ih =>
    intro hi
    have hb := n_bit (m := m) (d := i + 1) hm (by omega)
    refine e_C_greatestDigit_3 ?_
    rw [if_neg (by rw [n_lt (by omega) (by omega)]; omega)]
    show _ = some (some (Value.int (nI (if m.testBit (i + 1) = true then i + 1 else gsF m i))), M)
    by_cases h : m.testBit (i + 1) = true
    · rw [if_pos (hb.mpr h), if_pos h]
    · rw [if_neg (fun z => h (hb.mp z)), if_neg h, n_dec (by omega)]
      exact ih (by omega)
theorem c_rangeByCell (hB : BRep b 86 M) (hW : Wf b) {k : Nat} (hk : k < b 3) {x : Int32} (hu : cgU b k = false) (hs : b (148 + 10 * k) ≤ 1) : zEv (d + 2) zmC_rangeByCell [.ref 64, .int (nI k), .int x] M = some (some (.int (pO (rngO b k x))), M) := by
  have h12 := cg_12 hW hk
  have h6 := cgN_le hW hk
  have hBk := hB.2.2.2 k hk
  have hg := hW.2.2.2.2.2 k hk
  rw [rng_cells hW hk hu hs]
  have loop : ∀ j i, i + j = cgN b k → (∀ i', i' < i → cgMs b k i' ≠ 0) → h_C_rangeByCell_8 (d + 1) (nI k) x (nI (tSum ((List.range i).map fun i => endD x (cgMs b k i)))) (nI (tPrd ((List.range i).map fun i => endD x (cgMs b k i)))) (nI i) M = some (some (.int (pO (if (∀ i, i < cgN b k → cgMs b k i ≠ 0) then some (tot (b (148 + 10 * k)) ((List.range (cgN b k)).map fun i => endD x (cgMs b k i))) else none))), M) := by
    intro j
    induction j with
    | zero =>
      intro i h hz
      obtain rfl : i = cgN b k := by omega
      refine e_C_rangeByCell_8 ?_
      rw [if_pos ((n_zin (by omega)).mpr h12), n_clamp (by omega), hBk.1.2.1, if_neg (by rw [n_lt (by omega) (by omega)]; omega), hBk.1.1.1, if_pos hz]
      unfold tot
      by_cases e0 : b (148 + 10 * k) = 0
      · rw [e0, if_pos rfl, if_pos rfl]
        rfl
      · have e1 : b (148 + 10 * k) = 1 := by omega
        rw [if_neg (by rw [n_eq (by omega) (by omega)]; exact e0), if_neg e0, if_pos e1]
        rfl
    | succ j ih =>
      intro i h hz
      have hi : i < cgN b k := by omega
      have hc := cgC_lt hW hk hi
      have hml := mk_lt hW hc
      have hm0 := (hW.2.2.2.1 _ hc).2.1.2.2
      have eM : cgMs b k i = b (112 + cgC b k i) := rfl
      refine e_C_rangeByCell_8 ?_
      rw [if_pos ((n_zin (by omega)).mpr h12), n_clamp (by omega), hBk.1.2.1, if_pos ((n_lt (by omega) (by omega)).mpr hi), if_pos ((n_zin (by omega)).mpr (by omega)), n_clamp (by omega), hBk.2 i hi, if_pos ((n_zin (by omega)).mpr hc), n_clamp (by omega), zLr, hB.2.2.1 _ hc, ← eM]
      by_cases h0 : cgMs b k i = 0
      · rw [h0, if_pos rfl, if_neg fun z => z i hi h0]
        rfl
      · rw [if_neg (by rw [n_eq (by omega) (by omega)]; exact h0)]
        have ih1 := ih (i + 1) (by omega) (fun i' hi' => by
          by_cases e : i' = i
          · rw [e]; exact h0
          · exact hz i' (by omega))
        have es : tSum ((List.range (i + 1)).map fun i => endD x (cgMs b k i)) = tSum ((List.range i).map fun i => endD x (cgMs b k i)) + endD x (cgMs b k i) := by
          unfold tSum
          rw [List.range_succ, List.map_append, List.foldl_append]
          rfl
        have ep : tPrd ((List.range (i + 1)).map fun i => endD x (cgMs b k i)) = tPrd ((List.range i).map fun i => endD x (cgMs b k i)) * endD x (cgMs b k i) := by
          unfold tPrd
          rw [List.range_succ, List.map_append, List.foldl_append]
          rfl
        rw [es, ep] at ih1
        have hgr : zEv (d + 1) zmC_greatestDigit [.int (nI (cgMs b k i))] M = some (some (.int (nI (gsF (cgMs b k i) 7))), M) := e_C_greatestDigit (q_greatest (by omega) 7 (by omega))
        by_cases hx : x = nI 0
        · have ee : endD x (cgMs b k i) = lst (cgMs b k i) := if_pos hx
          rw [ee] at ih1
          rw [if_pos hx, q_leastDigit (by omega), zC1_some, n_add, n_mul, n_add1]
          exact ih1
        · have ee : endD x (cgMs b k i) = gsF (cgMs b k i) 7 := if_neg hx
          rw [ee] at ih1
          rw [if_neg hx, hgr, zC1_some, n_add, n_mul, n_add1]
          exact ih1
  exact e_C_rangeByCell (loop (cgN b k) 0 (by omega) fun i hi => absurd hi (Nat.not_lt_zero i))
theorem c_rangeBySet (hB : BRep b 86 M) (hW : Wf b) (hS : Sv n M) {k : Nat} (hk : k < b 3) {x : Int32} (ha : cgU b k = false → 2 ≤ b (148 + 10 * k)) : ∃ M', zEv (d + 6) zmC_rangeBySet [.ref 64, .int (nI k), .int x] M = some (some (.int (pO (rngO b k x))), M') ∧ Sv n M' ∧ fr pQy pQy M M' := by
  have h12 := cg_12 hW hk
  have h12' := hW.1.2.2.2
  have hg := hW.2.2.2.2.2 k hk
  obtain ⟨L, s1, ⟨s2, s3⟩, s4⟩ := hS
  obtain ⟨M1, a1, a2, a3, a4⟩ := q_spare (d := d + 1) rsk_C zk86 hB hW hk s2
  have hB1 := hB.fr a4 h12' (fun a x z => by unfold pRu at z; omega) fun a x z => by unfold pRu at z; omega
  have hz129 : zkd 129 = (13, 0) := by decide +kernel
  have hok : DOk (spR b k) := rset_ok 3 (!cgU b k) 0 (cgN b k)
  have hRR : RRep (spR b k) (cgN b k) 129 M1 := by
    have : rl 3 (!cgU b k) 0 (cgN b k) = spR b k := by
      unfold rl ofS spR
      cases cgU b k <;> rfl
    rw [← this]
    exact a2.2
  obtain ⟨M2, b1, b2, b3⟩ := q_weigh (d := d + 2) hz129 zk87 (zk93 h12) hok hg.2.1.1 hRR (msr_B hB1 hW hk)
  have hR2 : RRep (spR b k) (cgN b k) 129 M2 := RRep.fr hRR b2 fun _ _ z => z
  have hB2 := hB1.fr b2 h12' (fun a x z => z.elim) fun a x z => by unfold pWg at z; omega
  have f1 : fr pQy pQy M M1 := a4.mono (fun a x z => by unfold pRu at z; unfold pQy; omega) fun a x z => by unfold pRu at z; unfold pQy; omega
  have f2 : fr pQy pQy M1 M2 := b2.mono (fun _ _ z => z.elim) fun a x z => by unfold pWg at z; unfold pQy; omega
  have hsv : Sv n M2 := ⟨L, s1, ⟨⟨fun k' hk' => (a3.1 k' hk').fr b2 (fun a x h1 h2 h3 z => z.elim) fun a x h1 h2 h3 => by unfold pWg; omega, a3.2.fr b2 (fun a x h1 h2 h3 z => z.elim) fun a x h1 h2 h3 => by unfold pWg; omega⟩, rsi_out (rsi_out s3 a4 (fun a x z => by unfold pRu at z; omega) fun a x z => by unfold pRu at z; omega) b2 (fun a x z => z.elim) fun a x z => by unfold pWg at z; omega⟩, sgl_out (sgl_out s4 a4 (fun a x z => by unfold pRu at z; omega) fun a x z => by unfold pRu at z; omega) b2 (fun a x z => z.elim) fun a x z => by unfold pWg at z; omega⟩
  have loop : ∀ j s (o : Option Nat), s + j = 128 → (∀ v, o = some v → v ≤ 999999) → h_C_rangeBySet_41 (d + 5) (nI k) x 129 (pO o) (nI s) M2 = some (some (.int (pO (rngL x o (((List.range' s j).filter (rch b k)).map (kTot (b (148 + 10 * k))))))), M2) := by
    intro j
    induction j with
    | zero =>
      intro s o h ho
      refine e_C_rangeBySet_41 hz129 ?_
      rw [if_neg (by rw [n_lt (by omega) (by omega)]; omega)]
      rfl
    | succ j ih =>
      intro s o h ho
      have hs : s < 128 := by omega
      have hir := q_isReached (d := d + 3) hz129 hR2 b3 hs
      have hir : zEv (d + 5) zmR_isReached [.ref 129, .int (nI s)] M2 = some (some (.int (nB (rch b k s))), M2) := hir
      rw [List.range'_succ]
      refine e_C_rangeBySet_41 hz129 ?_
      rw [if_pos ((n_lt (by omega) (by omega)).mpr hs), hir, zC1_some, n_add1]
      cases hr : rch b k s with
      | false =>
        rw [if_pos (show nB false = nI 0 from rfl), List.filter_cons_of_neg (by rw [hr]; decide)]
        exact ih (s + 1) o (by omega) ho
      | true =>
        have h1s : 1 ≤ s := by
          have hr' := hr
          unfold rch at hr'
          rw [Bool.and_eq_true] at hr'
          have h2 : (decide (1 ≤ s) && _) = true := hr'.2
          rw [Bool.and_eq_true, decide_eq_true_iff] at h2
          exact h2.1
        have hkt := kTot_le s hs (b (148 + 10 * k)) (by have := hg.1.1; omega)
        rw [if_neg (show ¬ nB true = nI 0 by decide), List.filter_cons_of_pos (by rw [hr]), List.map_cons, if_pos ((n_zin (by omega)).mpr h12), n_clamp (by omega), (hB2.2.2.2 k hk).1.1.1, shl1, q_totalOfSet hg.1.1 h1s hs, zC1_some]
        show _ = some (some (Value.int (pO (rngL x (rngF x o (kTot (b (148 + 10 * k)) s)) _))), M2)
        cases o with
        | none =>
          rw [if_pos (show pO none = -2 from rfl)]
          exact ih (s + 1) (some (kTot (b (148 + 10 * k)) s)) (by omega) fun v hv => by injection hv with hv; omega
        | some w =>
          have hw := ho w rfl
          have n2 : ¬ pO (some w) = -2 := fun z => by have := (pO_m2 (o := some w) (fun i hi => by injection hi with hi; omega)).mp z; cases this
          rw [if_neg n2]
          have ihn := ih (s + 1) (some (kTot (b (148 + 10 * k)) s)) (by omega) fun v hv => by injection hv with hv; omega
          have iho := ih (s + 1) (some w) (by omega) ho
          show _ = some (some (Value.int (pO (rngL x (if x = nI 0 then (if kTot (b (148 + 10 * k)) s < w then some (kTot (b (148 + 10 * k)) s) else some w) else if w < kTot (b (148 + 10 * k)) s then some (kTot (b (148 + 10 * k)) s) else some w) _))), M2)
          by_cases hx : x = nI 0
          · rw [if_pos hx, if_pos hx]
            by_cases hl : kTot (b (148 + 10 * k)) s < w
            · rw [if_pos (show nI (kTot (b (148 + 10 * k)) s) < pO (some w) from (n_lt (by omega) (by omega)).mpr hl), if_pos hl]
              exact ihn
            · rw [if_neg (show ¬ nI (kTot (b (148 + 10 * k)) s) < pO (some w) from fun z => hl ((n_lt (by omega) (by omega)).mp z)), if_neg hl]
              exact iho
          · rw [if_neg hx, if_neg hx]
            by_cases hl : w < kTot (b (148 + 10 * k)) s
            · rw [if_pos (show pO (some w) < nI (kTot (b (148 + 10 * k)) s) from (n_lt (by omega) (by omega)).mpr hl), if_pos hl]
              exact ihn
            · rw [if_neg (show ¬ pO (some w) < nI (kTot (b (148 + 10 * k)) s) from fun z => hl ((n_lt (by omega) (by omega)).mp z)), if_neg hl]
              exact iho
  have hlp := loop 128 0 none (by omega) (fun v hv => by cases hv)
  rw [← List.range_eq_range', ← rng_sets hW hk ha] at hlp
  refine ⟨M2, e_C_rangeBySet ?_, hsv, f1.trans f2⟩
  rw [a1, zC3_some, if_pos hz129, if_pos ((n_zin (by omega)).mpr h12), n_clamp (by omega), b1, zC1_some]
  exact hlp
theorem c_range (hB : BRep b 86 M) (hW : Wf b) (hS : Sv n M) (y x : Int32) : ∃ M', zEv (d + 7) zmC_range [.ref 64, .int y, .int x] M = some (some (.int (spRange b y x)), M') ∧ Sv n M' ∧ fr pQy pQy M M' := by
  unfold spRange
  have h12' := hW.1.2.2.2
  cases hi : iI y (b 3) with
  | false =>
    refine ⟨M, e_C_range ?_, hS, fr.refl⟩
    rw [q_isCage zk86 hB.sc hW.wk, hi, zC1_some, if_pos (show nB false = nI 0 from rfl)]
    rfl
  | true =>
    obtain ⟨k, hk, rfl⟩ := iI_ex (by omega) hi
    have h12 := cg_12 hW hk
    have hg := hW.2.2.2.2.2 k hk
    rw [cond_true, n_toInt (by omega), Int.toNat_natCast]
    have head : ∀ rr, (if nB (!cgU b k) = nI 0 then zC1 (zEv (d + 6) zmC_rangeBySet [.ref 64, .int (nI k), .int x] M) (fun v11 M10 => some (some (.int v11), M10)) else (if (nI 1) < nI (b (148 + 10 * k)) then zC1 (zEv (d + 6) zmC_rangeBySet [.ref 64, .int (nI k), .int x] M) (fun v16 M15 => some (some (.int v16), M15)) else zC1 (zEv (d + 6) zmC_rangeByCell [.ref 64, .int (nI k), .int x] M) (fun v19 M18 => some (some (.int v19), M18)))) = some rr → zEv (d + 7) zmC_range [.ref 64, .int (nI k), .int x] M = some rr := fun rr hrr => by
      refine e_C_range ?_
      rw [q_isCage zk86 hB.sc hW.wk, hi, zC1_some, if_neg (show ¬ nB true = nI 0 by decide), q_isAlike zk86 hB.sc hW.wk hk, zC1_some, if_pos ((n_zin (by omega)).mpr h12), n_clamp (by omega), (hB.2.2.2 k hk).1.1.1]
      exact hrr
    by_cases hc : cgU b k = false ∧ b (148 + 10 * k) ≤ 1
    · refine ⟨M, head _ ?_, hS, fr.refl⟩
      rw [hc.1, if_neg (show ¬ nB (!false) = nI 0 by decide), if_neg (by rw [n_lt (by omega) (by have := hg.1.1; omega)]; omega), c_rangeByCell (d := d + 4) hB hW hk hc.1 hc.2, zC1_some]
    · obtain ⟨M', a1, a2⟩ := c_rangeBySet (d := d) (x := x) hB hW hS hk (fun u => by
        by_cases e : b (148 + 10 * k) ≤ 1
        · exact absurd ⟨u, e⟩ hc
        · omega)
      refine ⟨M', head _ ?_, a2⟩
      rw [a1, zC1_some]
      cases hu : cgU b k with
      | true => rw [if_pos (show nB (!true) = nI 0 by decide)]
      | false =>
        rw [if_neg (show ¬ nB (!false) = nI 0 by decide), if_pos]
        rw [n_lt (by omega) (by have := hg.1.1; omega)]
        by_cases e : b (148 + 10 * k) ≤ 1
        · exact absurd ⟨hu, e⟩ hc
        · omega
end QX4
