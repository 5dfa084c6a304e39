/-! THE CLASS, 21: what the sets of states mean -/
def trD (D : DF) (g s s' : Nat) : Prop := (D.1 g s = true ∧ s' = s) ∨ (D.2.1 g s = true ∧ s' = s + D.2.2.1 g)
def Rn (D : DF) : List Nat → Nat → Nat → Prop
  | [], s, s' => s' = s
  | g :: w, s, s' => ∃ s1, trD D g s s1 ∧ Rn D w s1 s'
/-- digits that the marks have -/
def Wo (ms : Nat → Nat) : Nat → List Nat → Prop
  | _, [] => True
  | k, g :: w => ((1 ≤ g ∧ g ≤ 7) ∧ (ms k).testBit g = true) ∧ Wo ms (k + 1) w
def acc (D : DF) (w : List Nat) : Prop := ∃ s', Rn D w 0 s' ∧ D.2.2.2 s' = true
theorem onD_iff {D : DF} {g s : Nat} {S : Nat → Bool} : onD D g S s = true ↔ ∃ s0, S s0 = true ∧ trD D g s0 s := by
  unfold onD trD
  rw [Bool.or_eq_true, Bool.and_eq_true, Bool.and_eq_true, Bool.and_eq_true]
  constructor
  · rintro (⟨h1, h2⟩ | ⟨h1, h2, h3⟩)
    · exact ⟨s, h1, Or.inl ⟨h2, rfl⟩⟩
    · have := of_decide_eq_true h1
      exact ⟨s - D.2.2.1 g, h2, Or.inr ⟨h3, by omega⟩⟩
  · rintro ⟨s0, h0, h | h⟩
    · rw [h.2]; exact Or.inl ⟨h0, h.1⟩
    · refine Or.inr ⟨decide_eq_true (by omega), ?_⟩
      rw [h.2, Nat.add_sub_cancel]
      exact ⟨h0, h.1⟩
theorem bkD_iff {D : DF} {g s : Nat} {S : Nat → Bool} : bkD D g S s = true ↔ ∃ s', trD D g s s' ∧ S s' = true := by
  unfold bkD trD
  rw [Bool.or_eq_true, Bool.and_eq_true, Bool.and_eq_true]
  constructor
  · rintro (⟨h1, h2⟩ | ⟨h1, h2⟩)
    · exact ⟨s, Or.inl ⟨h2, rfl⟩, h1⟩
    · exact ⟨s + D.2.2.1 g, Or.inr ⟨h1, rfl⟩, h2⟩
  · rintro ⟨s', h | h, h2⟩
    · rw [h.2] at h2; exact Or.inl ⟨h2, h.1⟩
    · rw [h.2] at h2; exact Or.inr ⟨h.1, h2⟩
theorem rn_app {D : DF} : ∀ (u v : List Nat) (s s' : Nat), Rn D (u ++ v) s s' ↔ ∃ s1, Rn D u s s1 ∧ Rn D v s1 s'
  | [], v, s, s' => ⟨fun h => ⟨s, rfl, h⟩, fun ⟨s1, h1, h2⟩ => by have : s1 = s := h1; rw [this] at h2; exact h2⟩
  | g :: u, v, s, s' => by
    show (∃ s1, trD D g s s1 ∧ Rn D (u ++ v) s1 s') ↔ ∃ s1, (∃ s0, trD D g s s0 ∧ Rn D u s0 s1) ∧ Rn D v s1 s'
    constructor
    · rintro ⟨s0, h1, h2⟩
      obtain ⟨s1, h3, h4⟩ := (rn_app u v s0 s').mp h2
      exact ⟨s1, ⟨s0, h1, h3⟩, h4⟩
    · rintro ⟨s1, ⟨s0, h1, h2⟩, h3⟩
      exact ⟨s0, h1, (rn_app u v s0 s').mpr ⟨s1, h2, h3⟩⟩
theorem wo_app {ms : Nat → Nat} : ∀ (u v : List Nat) (k : Nat), Wo ms k (u ++ v) ↔ Wo ms k u ∧ Wo ms (k + u.length) v
  | [], v, k => ⟨fun h => ⟨trivial, h⟩, fun h => h.2⟩
  | g :: u, v, k => by
    show (_ ∧ Wo ms (k + 1) (u ++ v)) ↔ (_ ∧ Wo ms (k + 1) u) ∧ Wo ms (k + (u.length + 1)) v
    rw [wo_app u v (k + 1), show k + 1 + u.length = k + (u.length + 1) by omega]
    exact ⟨fun h => ⟨⟨h.1, h.2.1⟩, h.2.2⟩, fun h => ⟨h.1.1, h.1.2, h.2⟩⟩
theorem any7_iff {p : Nat → Bool} : (List.range' 1 7).any p = true ↔ ∃ g, (1 ≤ g ∧ g ≤ 7) ∧ p g = true := by
  rw [List.any_eq_true]
  constructor
  · rintro ⟨g, h1, h2⟩
    have := List.mem_range'_1.mp h1
    exact ⟨g, by omega, h2⟩
  · rintro ⟨g, h1, h2⟩
    exact ⟨g, List.mem_range'_1.mpr (by omega), h2⟩
theorem foF_iff {D : DF} {ms : Nat → Nat} : ∀ i s, foF D ms i s = true ↔ ∃ w : List Nat, w.length = i ∧ Wo ms 0 w ∧ Rn D w 0 s
  | 0, s => by
    show decide (s = 0) = true ↔ _
    rw [decide_eq_true_eq]
    constructor
    · intro h
      exact ⟨[], rfl, trivial, h⟩
    · rintro ⟨w, h1, h2, h3⟩
      have := List.length_eq_zero_iff.mp h1
      rw [this] at h3
      exact h3
  | i + 1, s => by
    show stF D (ms i) (foF D ms i) s = true ↔ _
    unfold stF
    rw [any7_iff]
    constructor
    · rintro ⟨g, hg, h⟩
      rw [Bool.and_eq_true] at h
      obtain ⟨s0, h1, h2⟩ := onD_iff.mp h.2
      obtain ⟨w, w1, w2, w3⟩ := (foF_iff i s0).mp h1
      refine ⟨w ++ [g], by rw [List.length_append, w1]; rfl, (wo_app w [g] 0).mpr ⟨w2, ⟨hg, ?_⟩, trivial⟩, (rn_app w [g] 0 s).mpr ⟨s0, w3, s, h2, rfl⟩⟩
      rw [Nat.zero_add, w1]
      exact h.1
    · rintro ⟨w, w1, w2, w3⟩
      have hne : w ≠ [] := fun e => by rw [e] at w1; cases w1
      obtain ⟨u, g, rfl⟩ : ∃ u g, w = u ++ [g] := ⟨w.dropLast, w.getLast hne, (List.dropLast_concat_getLast hne).symm⟩
      rw [List.length_append] at w1
      have hu : u.length = i := by
        have : u.length + 1 = i + 1 := w1
        omega
      obtain ⟨a1, a2⟩ := (wo_app u [g] 0).mp w2
      obtain ⟨s0, b1, s1, b2, b3⟩ := (rn_app u [g] 0 s).mp w3
      have hb3 : s = s1 := b3
      rw [Nat.zero_add, hu] at a2
      refine ⟨g, a2.1.1, ?_⟩
      rw [Bool.and_eq_true]
      refine ⟨a2.1.2, onD_iff.mpr ⟨s0, (foF_iff i s0).mpr ⟨u, hu, a1, b1⟩, ?_⟩⟩
      rw [hb3]
      exact b2
theorem baJ_iff {D : DF} {ms : Nat → Nat} {z : Nat} : ∀ j s, j ≤ z → (baJ D ms z j s = true ↔ ∃ w : List Nat, w.length = j ∧ Wo ms (z - j) w ∧ ∃ s', Rn D w s s' ∧ D.2.2.2 s' = true)
  | 0, s, _ => by
    constructor
    · intro h
      exact ⟨[], rfl, trivial, s, rfl, h⟩
    · rintro ⟨w, h1, h2, s', h3, h4⟩
      have := List.length_eq_zero_iff.mp h1
      rw [this] at h3
      have h5 : s' = s := h3
      rw [h5] at h4
      exact h4
  | j + 1, s, hj => by
    show stB D (ms (z - (j + 1))) (baJ D ms z j) s = true ↔ _
    unfold stB
    rw [any7_iff]
    constructor
    · rintro ⟨g, hg, h⟩
      rw [Bool.and_eq_true] at h
      obtain ⟨s1, h1, h2⟩ := bkD_iff.mp h.2
      obtain ⟨w, w1, w2, s', w3, w4⟩ := (baJ_iff j s1 (by omega)).mp h2
      refine ⟨g :: w, by rw [List.length_cons, w1], ⟨⟨hg, h.1⟩, ?_⟩, s', ⟨s1, h1, w3⟩, w4⟩
      rw [show z - (j + 1) + 1 = z - j by omega]
      exact w2
    · rintro ⟨w, w1, w2, s', w3, w4⟩
      cases w with
      | nil => cases w1
      | cons g w =>
        obtain ⟨⟨hg, hb⟩, w2'⟩ := w2
        obtain ⟨s1, h1, h2⟩ := w3
        refine ⟨g, hg, ?_⟩
        rw [Bool.and_eq_true]
        refine ⟨hb, bkD_iff.mpr ⟨s1, h1, (baJ_iff j s1 (by omega)).mpr ⟨w, ?_, ?_, s', h2, w4⟩⟩⟩
        · rw [List.length_cons] at w1; omega
        · rw [show z - j = z - (j + 1) + 1 by omega]; exact w2'
theorem rn_lt {D : DF} (hD : DOk D) {ms : Nat → Nat} : ∀ (w : List Nat) (k s s' : Nat), Wo ms k w → s < 128 → Rn D w s s' → s' < 128
  | [], _, s, s', _, hs, h => by have : s' = s := h; omega
  | g :: w, k, s, s', hw, hs, h => by
    obtain ⟨s1, h1, h2⟩ := h
    refine rn_lt hD w (k + 1) s1 s' hw.2 ?_ h2
    rcases h1 with z | z
    · rw [z.2]; exact hs
    · rw [z.2]; exact (hD g hw.1.1.1 hw.1.1.2).2 s hs z.1
theorem weigh_iff {D : DF} {ms : Nat → Nat} {z : Nat} : baJ D ms z z 0 = true ↔ ∃ w : List Nat, w.length = z ∧ Wo ms 0 w ∧ acc D w := by
  rw [baJ_iff z 0 (Nat.le_refl z), Nat.sub_self]
  exact Iff.rfl
theorem dgB_iff {D : DF} (hD : DOk D) {ms : Nat → Nat} {z i g : Nat} (hi : i < z) (hg : 1 ≤ g ∧ g ≤ 7) (hb : (ms i).testBit g = true) : dgB D ms z i g = true ↔ ∃ w : List Nat, (w.length = z ∧ Wo ms 0 w ∧ acc D w) ∧ w.getD i 0 = g := by
  unfold dgB
  rw [some128_iff]
  constructor
  · rintro ⟨s, hs, h⟩
    rw [Bool.and_eq_true] at h
    obtain ⟨s0, h1, h2⟩ := onD_iff.mp h.1
    obtain ⟨u, u1, u2, u3⟩ := (foF_iff i s0).mp h1
    obtain ⟨v, v1, v2, s', v3, v4⟩ := (baJ_iff (z - (i + 1)) s (by omega)).mp h.2
    refine ⟨u ++ g :: v, ⟨by rw [List.length_append, List.length_cons, u1, v1]; omega, (wo_app u (g :: v) 0).mpr ⟨u2, ?_⟩, s', (rn_app u (g :: v) 0 s').mpr ⟨s0, u3, s, h2, v3⟩, v4⟩, ?_⟩
    · rw [Nat.zero_add, u1]
      refine ⟨⟨hg, hb⟩, ?_⟩
      rw [show z - (z - (i + 1)) = i + 1 by omega] at v2
      exact v2
    · rw [getD_b (by omega), u1, Nat.sub_self]
      rfl
  · rintro ⟨w, ⟨w1, w2, s', w3, w4⟩, wg⟩
    obtain ⟨u, v, hw, hu⟩ : ∃ u v, w = u ++ v ∧ u.length = i := ⟨w.take i, w.drop i, (List.take_append_drop i w).symm, by rw [List.length_take]; omega⟩
    rw [hw] at w1 w2 w3 wg
    cases v with
    | nil => rw [List.append_nil, hu] at w1; omega
    | cons g' v =>
      rw [getD_b (by omega), hu, Nat.sub_self] at wg
      have eg : g' = g := wg
      rw [eg] at w1 w2 w3
      rw [List.length_append, List.length_cons, hu] at w1
      obtain ⟨a1, a2⟩ := (wo_app u (g :: v) 0).mp w2
      obtain ⟨s0, b1, s1, b2, b3⟩ := (rn_app u (g :: v) 0 s').mp w3
      rw [Nat.zero_add, hu] at a2
      have hs0 := rn_lt hD u 0 0 s0 a1 (by omega) b1
      have hs1 : s1 < 128 := by
        rcases b2 with z | z
        · rw [z.2]; exact hs0
        · rw [z.2]; exact (hD g hg.1 hg.2).2 s0 hs0 z.1
      refine ⟨s1, hs1, ?_⟩
      rw [Bool.and_eq_true]
      refine ⟨onD_iff.mpr ⟨s0, (foF_iff i s0).mpr ⟨u, hu, a1, b1⟩, b2⟩, (baJ_iff (z - (i + 1)) s1 (by omega)).mpr ⟨v, by omega, ?_, s', b3, w4⟩⟩
      rw [show z - (z - (i + 1)) = i + 1 by omega]
      exact a2.2
/-! beside the ways of a cage -/
theorem ext_iff {t : Nat} {un : Bool} : ∀ (ms pre w : List Nat), w ∈ ext t un ms pre ↔ ∃ s, w = pre ++ s ∧ s.length = ms.length ∧ (∀ i, i < s.length → (1 ≤ s.getD i 0 ∧ s.getD i 0 ≤ t) ∧ (ms.getD i 0).testBit (s.getD i 0) = true) ∧ (un = true → s.Nodup ∧ ∀ x ∈ s, x ∉ pre)
  | [], pre, w => by
    show w ∈ [pre] ↔ _
    rw [List.mem_singleton]
    constructor
    · intro h
      exact ⟨[], by rw [h, List.append_nil], rfl, fun i hi => absurd hi (Nat.not_lt_zero i), fun _ => ⟨List.nodup_nil, fun x hx => by cases hx⟩⟩
    · rintro ⟨s, h1, h2, -, -⟩
      have : s = [] := List.length_eq_zero_iff.mp h2
      rw [h1, this, List.append_nil]
  | m :: ms, pre, w => by
    show w ∈ (List.range' 1 t).flatMap (fun g => if m.testBit g && !(un && pre.contains g) then ext t un ms (pre ++ [g]) else []) ↔ _
    rw [List.mem_flatMap]
    constructor
    · rintro ⟨g, hg, hw⟩
      have hg2 := List.mem_range'_1.mp hg
      by_cases hc : (m.testBit g && !(un && pre.contains g)) = true
      · rw [if_pos hc] at hw
        rw [Bool.and_eq_true] at hc
        obtain ⟨s, h1, h2, h3, h4⟩ := (ext_iff ms (pre ++ [g]) w).mp hw
        refine ⟨g :: s, by rw [h1, List.append_assoc]; rfl, by rw [List.length_cons, List.length_cons, h2], fun i hi => ?_, fun hu => ?_⟩
        · cases i with
          | zero => exact ⟨by show 1 ≤ g ∧ g ≤ t; omega, hc.1⟩
          | succ i => exact h3 i (by rw [List.length_cons] at hi; omega)
        · obtain ⟨n1, n2⟩ := h4 hu
          have hp : g ∉ pre := fun z => by
            have : pre.contains g = true := List.contains_iff_mem.mpr z
            rw [hu, this] at hc
            exact absurd hc.2 (by simp)
          refine ⟨List.nodup_cons.mpr ⟨fun z => n2 g z (List.mem_append_right _ List.mem_cons_self), n1⟩, fun x hx => ?_⟩
          rcases List.mem_cons.mp hx with z | z
          · rw [z]; exact hp
          · exact fun y => n2 x z (List.mem_append_left _ y)
      · rw [if_neg hc] at hw
        cases hw
    · rintro ⟨s, h1, h2, h3, h4⟩
      cases s with
      | nil => cases h2
      | cons g s =>
        have h30 := h3 0 (by rw [List.length_cons]; omega)
        have e0 : (g :: s).getD 0 0 = g := rfl
        have e1 : (m :: ms).getD 0 0 = m := rfl
        rw [e0, e1] at h30
        refine ⟨g, List.mem_range'_1.mpr (by omega), ?_⟩
        have hc : (m.testBit g && !(un && pre.contains g)) = true := by
          rw [Bool.and_eq_true]
          refine ⟨h30.2, ?_⟩
          cases hu : un with
          | false => rfl
          | true =>
            have hp := (h4 hu).2 g List.mem_cons_self
            have : pre.contains g = false := by
              cases hh : pre.contains g with
              | false => rfl
              | true => exact absurd (List.contains_iff_mem.mp hh) hp
            rw [this]
            rfl
        rw [if_pos hc]
        refine (ext_iff ms (pre ++ [g]) w).mpr ⟨s, by rw [h1, List.append_assoc]; rfl, by rw [List.length_cons, List.length_cons] at h2; omega, fun i hi => h3 (i + 1) (by rw [List.length_cons]; omega), fun hu => ?_⟩
        obtain ⟨n1, n2⟩ := h4 hu
        rw [List.nodup_cons] at n1
        refine ⟨n1.2, fun x hx hy => ?_⟩
        rcases List.mem_append.mp hy with z | z
        · exact n2 x (List.mem_cons_of_mem _ hx) z
        · have := List.mem_singleton.mp z
          rw [this] at hx
          exact n1.1 hx
theorem wo_get {ms : Nat → Nat} : ∀ (w : List Nat) (k : Nat), Wo ms k w ↔ ∀ i, i < w.length → (1 ≤ w.getD i 0 ∧ w.getD i 0 ≤ 7) ∧ (ms (k + i)).testBit (w.getD i 0) = true
  | [], k => ⟨fun _ i hi => absurd hi (Nat.not_lt_zero i), fun _ => trivial⟩
  | g :: w, k => by
    constructor
    · rintro ⟨h1, h2⟩ i hi
      cases i with
      | zero => exact h1
      | succ i =>
        have := (wo_get w (k + 1)).mp h2 i (by rw [List.length_cons] at hi; omega)
        rw [show k + 1 + i = k + (i + 1) by omega] at this
        exact this
    · intro h
      refine ⟨h 0 (by rw [List.length_cons]; omega), (wo_get w (k + 1)).mpr fun i hi => ?_⟩
      have := h (i + 1) (by rw [List.length_cons]; omega)
      rw [show k + (i + 1) = k + 1 + i by omega] at this
      exact this
def cgMs (b : Nat → Nat) (k i : Nat) : Nat := b (112 + cgC b k i)
theorem ways_iff {b : Nat → Nat} (hW : Wf b) {k : Nat} (hk : k < b 3) (w : List Nat) : w ∈ ways b k ↔ (w.length = cgN b k ∧ Wo (cgMs b k) 0 w) ∧ (cgU b k = true → w.Nodup) ∧ rgt b k w = true := by
  have h27 := hW.1.2.2.1
  have eM : ∀ i, i < cgN b k → (cgM b k).getD i 0 = cgMs b k i := fun i hi => by
    unfold cgM
    rw [getD_el (by rw [List.length_map, List.length_range]; exact hi), List.getElem_map, List.getElem_range]
    rfl
  have lM : (cgM b k).length = cgN b k := by unfold cgM; rw [List.length_map, List.length_range]
  unfold ways
  rw [List.mem_filter, ext_iff, wo_get]
  constructor
  · rintro ⟨⟨s, h1, h2, h3, h4⟩, h5⟩
    rw [List.nil_append] at h1
    subst h1
    rw [lM] at h2
    refine ⟨⟨h2, fun i hi => ?_⟩, fun hu => (h4 hu).1, h5⟩
    have := h3 i hi
    rw [eM i (by omega)] at this
    rw [Nat.zero_add]
    exact ⟨by omega, this.2⟩
  · rintro ⟨⟨h1, h2⟩, h3, h4⟩
    refine ⟨⟨w, rfl, by rw [lM]; exact h1, fun i hi => ?_, fun hu => ⟨h3 hu, fun x _ hx => by cases hx⟩⟩, h4⟩
    have h := h2 i hi
    rw [Nat.zero_add] at h
    rw [eM i (by omega)]
    refine ⟨⟨h.1.1, ?_⟩, h.2⟩
    have hc := cgC_lt hW hk (show i < cgN b k by omega)
    have hm := (hW.2.2.2.1 _ hc).2.1.2.1
    have h9 : 2 ^ w.getD i 0 ≤ cgMs b k i := Nat.ge_two_pow_of_testBit h.2
    have h10 : cgMs b k i < 2 ^ (b 2 + 1) := hm
    have := (Nat.pow_lt_pow_iff_right (show 1 < 2 by omega)).mp (Nat.lt_of_le_of_lt h9 h10)
    omega
/-- the rule is this cage's -/
def DCg (D : DF) (b : Nat → Nat) (k : Nat) : Prop := ∀ w : List Nat, w.length = cgN b k → (∀ x ∈ w, 1 ≤ x ∧ x ≤ 7) → (acc D w ↔ (cgU b k = true → w.Nodup) ∧ rgt b k w = true)
theorem wo_dig {ms : Nat → Nat} {w : List Nat} {k : Nat} (h : Wo ms k w) : ∀ x ∈ w, 1 ≤ x ∧ x ≤ 7 := fun x hx => by
  obtain ⟨i, hi, e⟩ := List.mem_iff_getElem.mp hx
  have := ((wo_get w k).mp h i hi).1
  rw [getD_el hi, e] at this
  exact this
theorem dcg_weigh {D : DF} {b : Nat → Nat} (hW : Wf b) {k : Nat} (hk : k < b 3) (hC : DCg D b k) : baJ D (cgMs b k) (cgN b k) (cgN b k) 0 = hasW b k := by
  rw [Bool.eq_iff_iff, weigh_iff, hasW_ways]
  have : (!(ways b k).isEmpty) = true ↔ ∃ w, w ∈ ways b k := by
    cases h : ways b k with
    | nil => exact ⟨(fun z => by cases z), (fun z => by obtain ⟨w, hw⟩ := z; cases hw)⟩
    | cons a l => exact ⟨fun _ => ⟨a, List.mem_cons_self⟩, fun _ => rfl⟩
  rw [this]
  constructor
  · rintro ⟨w, h1, h2, h3⟩
    exact ⟨w, (ways_iff hW hk w).mpr ⟨⟨h1, h2⟩, (hC w h1 (wo_dig h2)).mp h3⟩⟩
  · rintro ⟨w, h⟩
    obtain ⟨⟨h1, h2⟩, h3⟩ := (ways_iff hW hk w).mp h
    exact ⟨w, h1, h2, (hC w h1 (wo_dig h2)).mpr h3⟩
theorem dcg_digits {D : DF} (hD : DOk D) {b : Nat → Nat} (hW : Wf b) {k i : Nat} (hk : k < b 3) (hi : i < cgN b k) (hC : DCg D b k) : dgM D (cgMs b k) (cgN b k) i (cgMs b k i) = couldD (ways b k) i := by
  unfold dgM couldD
  refine msk_congr fun g hg => ?_
  rw [Bool.eq_iff_iff, List.any_eq_true]
  constructor
  · intro h
    rw [Bool.and_eq_true, Bool.and_eq_true] at h
    have h1 := of_decide_eq_true h.1
    obtain ⟨w, ⟨w1, w2, w3⟩, w4⟩ := (dgB_iff hD hi ⟨h1, by omega⟩ h.2.1).mp h.2.2
    refine ⟨w, (ways_iff hW hk w).mpr ⟨⟨w1, w2⟩, (hC w w1 (wo_dig w2)).mp w3⟩, ?_⟩
    rw [decide_eq_true (by omega), w4, Bool.true_and]
    exact beq_self_eq_true g
  · rintro ⟨w, h1, h2⟩
    rw [Bool.and_eq_true] at h2
    have h3 : w.getD i 0 = g := beq_iff_eq.mp h2.2
    obtain ⟨⟨w1, w2⟩, w3⟩ := (ways_iff hW hk w).mp h1
    have hwi := (wo_get w 0).mp w2 i (by omega)
    rw [Nat.zero_add, h3] at hwi
    rw [Bool.and_eq_true, Bool.and_eq_true]
    exact ⟨decide_eq_true hwi.1.1, hwi.2, (dgB_iff hD hi hwi.1 hwi.2).mpr ⟨w, ⟨w1, w2, (hC w w1 (wo_dig w2)).mpr w3⟩, h3⟩⟩
