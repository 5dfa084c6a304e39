/-! THE CLASS, 28: all words of marks -/
def wds : List Nat → List (List Nat)
  | [] => [[]]
  | m :: ms => (List.range' 1 7).flatMap fun g => if m.testBit g then (wds ms).map (g :: ·) else []
theorem flatMap_congr2 {α β : Type} {f g : α → List β} : ∀ {l : List α}, (∀ x ∈ l, f x = g x) → l.flatMap f = l.flatMap g
  | [], _ => rfl
  | a :: l, h => by rw [List.flatMap_cons, List.flatMap_cons, h a List.mem_cons_self, flatMap_congr2 fun x hx => h x (List.mem_cons_of_mem _ hx)]
theorem flatMap_nil2 {α β : Type} {f : α → List β} {l : List α} (h : ∀ x ∈ l, f x = []) : l.flatMap f = [] := by
  rw [flatMap_congr2 h]
  induction l with
  | nil => rfl
  | cons a l ih => rw [List.flatMap_cons, List.nil_append]; exact ih fun x hx => h x (List.mem_cons_of_mem _ hx)
theorem mem_wds : ∀ {ms w : List Nat}, w ∈ wds ms ↔ w.length = ms.length ∧ ∀ i, i < w.length → (1 ≤ w.getD i 0 ∧ w.getD i 0 ≤ 7) ∧ (ms.getD i 0).testBit (w.getD i 0) = true
  | [], w => by
    show w ∈ [[]] ↔ _
    rw [List.mem_singleton]
    constructor
    · rintro rfl
      exact ⟨rfl, fun i hi => absurd hi (Nat.not_lt_zero i)⟩
    · rintro ⟨h, -⟩
      exact List.length_eq_zero_iff.mp h
  | m :: ms, w => by
    show w ∈ (List.range' 1 7).flatMap (fun g => if m.testBit g then (wds ms).map (g :: ·) else []) ↔ _
    rw [List.mem_flatMap]
    constructor
    · rintro ⟨g, hg, hw⟩
      have hg2 := List.mem_range'_1.mp hg
      by_cases hc : m.testBit g = true
      · rw [if_pos hc] at hw
        obtain ⟨v, hv, rfl⟩ := List.mem_map.mp hw
        obtain ⟨v1, v2⟩ := mem_wds.mp hv
        refine ⟨by rw [List.length_cons, List.length_cons, v1], fun i hi => ?_⟩
        cases i with
        | zero => exact ⟨by show 1 ≤ g ∧ g ≤ 7; omega, hc⟩
        | succ i => exact v2 i (by rw [List.length_cons] at hi; omega)
      · rw [if_neg hc] at hw
        cases hw
    · rintro ⟨h1, h2⟩
      cases w with
      | nil => cases h1
      | cons g v =>
        have h0 := h2 0 (by rw [List.length_cons]; omega)
        have hb : m.testBit g = true := h0.2
        have hg : 1 ≤ g ∧ g ≤ 7 := h0.1
        refine ⟨g, List.mem_range'_1.mpr (by omega), ?_⟩
        rw [if_pos hb]
        exact List.mem_map.mpr ⟨v, mem_wds.mpr ⟨by rw [List.length_cons, List.length_cons] at h1; omega, fun i hi => h2 (i + 1) (by rw [List.length_cons]; omega)⟩, rfl⟩
theorem wds_dig {ms w : List Nat} (h : w ∈ wds ms) : ∀ x ∈ w, 1 ≤ x ∧ x ≤ 7 := fun x hx => by
  obtain ⟨i, hi, e⟩ := List.mem_iff_getElem.mp hx
  have := ((mem_wds.mp h).2 i hi).1
  rw [getD_el hi, e] at this
  exact this
theorem wds_wo {ms : Nat → Nat} {z : Nat} {w : List Nat} : w ∈ wds ((List.range z).map ms) ↔ w.length = z ∧ Wo ms 0 w := by
  rw [mem_wds, wo_get, List.length_map, List.length_range]
  constructor
  · rintro ⟨h1, h2⟩
    refine ⟨h1, fun i hi => ?_⟩
    have := h2 i hi
    rw [getD_el (show i < ((List.range z).map ms).length by rw [List.length_map, List.length_range]; omega), List.getElem_map, List.getElem_range] at this
    rw [Nat.zero_add]
    exact this
  · rintro ⟨h1, h2⟩
    refine ⟨h1, fun i hi => ?_⟩
    have := h2 i hi
    rw [Nat.zero_add] at this
    rw [getD_el (show i < ((List.range z).map ms).length by rw [List.length_map, List.length_range]; omega), List.getElem_map, List.getElem_range]
    exact this
/-- unlike, and unlike those ahead -/
def ud (un : Bool) : List Nat → List Nat → Bool
  | _, [] => true
  | pre, g :: v => !(un && pre.contains g) && ud un (pre ++ [g]) v
theorem ud_iff : ∀ (v pre : List Nat), ud true pre v = true ↔ v.Nodup ∧ ∀ x ∈ v, x ∉ pre
  | [], pre => ⟨fun _ => ⟨List.nodup_nil, fun x hx => by cases hx⟩, fun _ => rfl⟩
  | g :: v, pre => by
    show (!(true && pre.contains g) && ud true (pre ++ [g]) v) = true ↔ _
    rw [Bool.and_eq_true, Bool.true_and, ud_iff v (pre ++ [g]), List.nodup_cons]
    constructor
    · rintro ⟨h1, h2, h3⟩
      have hg : g ∉ pre := fun z => by rw [List.contains_iff_mem.mpr z] at h1; cases h1
      refine ⟨⟨fun z => h3 g z (List.mem_append_right _ List.mem_cons_self), h2⟩, fun x hx => ?_⟩
      rcases List.mem_cons.mp hx with z | z
      · rw [z]; exact hg
      · exact fun y => h3 x z (List.mem_append_left _ y)
    · rintro ⟨⟨h1, h2⟩, h3⟩
      have hg : pre.contains g = false := by
        cases hh : pre.contains g with
        | false => rfl
        | true => exact absurd (List.contains_iff_mem.mp hh) (h3 g List.mem_cons_self)
      rw [hg]
      refine ⟨rfl, h2, fun x hx hy => ?_⟩
      rcases List.mem_append.mp hy with z | z
      · exact h3 x (List.mem_cons_of_mem _ hx) z
      · have := List.mem_singleton.mp z
        rw [this] at hx
        exact h1 hx
theorem ud_false : ∀ (v pre : List Nat), ud false pre v = true
  | [], _ => rfl
  | g :: v, pre => by
    show (!(false && pre.contains g) && ud false (pre ++ [g]) v) = true
    rw [ud_false v]
    rfl
theorem ext_wds {t : Nat} (ht : t ≤ 7) {un : Bool} : ∀ (ms pre : List Nat), (∀ m ∈ ms, m < 2 ^ (t + 1)) → ext t un ms pre = ((wds ms).filter (ud un pre)).map (pre ++ ·)
  | [], pre, _ => by
    show [pre] = (List.filter (ud un pre) [[]]).map (pre ++ ·)
    rw [List.filter_cons_of_pos (show ud un pre [] = true from rfl), List.filter_nil, List.map_cons, List.map_nil, List.append_nil]
  | m :: ms, pre, hm => by
    show (List.range' 1 t).flatMap (fun g => if m.testBit g && !(un && pre.contains g) then ext t un ms (pre ++ [g]) else []) = (((List.range' 1 7).flatMap fun g => if m.testBit g then (wds ms).map (g :: ·) else []).filter (ud un pre)).map (pre ++ ·)
    have hsp : List.range' 1 7 = List.range' 1 t ++ List.range' (1 + t) (7 - t) := by
      rw [List.range'_append_1, show t + (7 - t) = 7 by omega]
    have hhi : ((List.range' (1 + t) (7 - t)).flatMap fun g => if m.testBit g then (wds ms).map (g :: ·) else []) = [] := flatMap_nil2 fun g hg => by
      have := List.mem_range'_1.mp hg
      have hb : m.testBit g = false := Nat.testBit_lt_two_pow (Nat.lt_of_lt_of_le (hm m List.mem_cons_self) (Nat.pow_le_pow_right (by omega) (by omega)))
      rw [hb]
      rfl
    rw [hsp, List.flatMap_append, hhi, List.append_nil, List.filter_flatMap, List.map_flatMap]
    refine flatMap_congr2 fun g _ => ?_
    by_cases hb : m.testBit g = true
    · rw [hb, Bool.true_and, if_pos (show true = true from rfl), List.filter_map, List.map_map]
      by_cases hc : (un && pre.contains g) = true
      · rw [hc, if_neg (show ¬ (!true) = true by simp)]
        have : ((wds ms).filter (ud un pre ∘ fun x => g :: x)) = [] := by
          rw [List.filter_eq_nil_iff]
          intro v _ h
          have h : (!(un && pre.contains g) && ud un (pre ++ [g]) v) = true := h
          rw [hc] at h
          cases h
        rw [this]
        rfl
      · rw [Bool.not_eq_true] at hc
        rw [hc, if_pos (show (!false) = true from rfl), ext_wds ht ms (pre ++ [g]) fun x hx => hm x (List.mem_cons_of_mem _ hx)]
        have e1 : (ud un pre ∘ fun x => g :: x) = ud un (pre ++ [g]) := funext fun v => by
          show (!(un && pre.contains g) && ud un (pre ++ [g]) v) = _
          rw [hc]
          rfl
        rw [e1]
        refine List.map_congr_left fun v _ => ?_
        show (pre ++ [g]) ++ v = pre ++ (g :: v)
        rw [List.append_assoc]
        rfl
    · rw [Bool.not_eq_true] at hb
      rw [hb, Bool.false_and, if_neg (show ¬ false = true by simp), if_neg (show ¬ false = true by simp)]
      rfl
/-! runs -/
def rnO (D : DF) : List Nat → Nat → Option Nat
  | [], s => some s
  | g :: v, s => match aft D s g with
    | some s1 => rnO D v s1
    | none => none
/-- who may stay may not move -/
def Det (D : DF) : Prop := ∀ g s, D.1 g s = true → D.2.1 g s = false
def accF (D : DF) (s : Nat) (w : List Nat) : Bool := match rnO D w s with
  | some s' => D.2.2.2 s'
  | none => false
theorem aft_tr {D : DF} (hD : Det D) {g s s1 : Nat} : aft D s g = some s1 ↔ trD D g s s1 := by
  unfold aft trD
  by_cases h1 : D.1 g s = true
  · rw [if_pos h1, hD g s h1]
    constructor
    · intro h; injection h with h; exact Or.inl ⟨h1, h.symm⟩
    · rintro (h | h)
      · rw [h.2]
      · cases h.1
  · rw [if_neg h1]
    by_cases h2 : D.2.1 g s = true
    · rw [if_pos h2]
      constructor
      · intro h; injection h with h; exact Or.inr ⟨h2, h.symm⟩
      · rintro (h | h)
        · exact absurd h.1 h1
        · rw [h.2]
    · rw [if_neg h2]
      constructor
      · intro h; cases h
      · rintro (h | h)
        · exact absurd h.1 h1
        · exact absurd h.1 h2
theorem rnO_iff {D : DF} (hD : Det D) : ∀ (v : List Nat) (s s' : Nat), rnO D v s = some s' ↔ Rn D v s s'
  | [], s, s' => by
    show some s = some s' ↔ s' = s
    constructor
    · intro h; injection h with h; exact h.symm
    · intro h; rw [h]
  | g :: v, s, s' => by
    show (match aft D s g with | some s1 => rnO D v s1 | none => none) = some s' ↔ ∃ s1, trD D g s s1 ∧ Rn D v s1 s'
    cases h : aft D s g with
    | none =>
      dsimp only
      constructor
      · intro z; cases z
      · rintro ⟨s1, h1, h2⟩
        rw [(aft_tr hD).mpr h1] at h
        cases h
    | some s1 =>
      dsimp only
      rw [rnO_iff hD v s1 s']
      constructor
      · intro z
        exact ⟨s1, (aft_tr hD).mp h, z⟩
      · rintro ⟨s2, h1, h2⟩
        rw [(aft_tr hD).mpr h1] at h
        injection h with h
        rw [← h]
        exact h2
theorem accF_iff {D : DF} (hD : Det D) {w : List Nat} {s : Nat} : accF D s w = true ↔ ∃ s', Rn D w s s' ∧ D.2.2.2 s' = true := by
  unfold accF
  cases h : rnO D w s with
  | none =>
    dsimp only
    constructor
    · intro z; cases z
    · rintro ⟨s', h1, h2⟩
      rw [(rnO_iff hD w s s').mpr h1] at h
      cases h
  | some s1 =>
    dsimp only
    constructor
    · intro z
      exact ⟨s1, (rnO_iff hD w s s1).mp h, z⟩
    · rintro ⟨s', h1, h2⟩
      rw [(rnO_iff hD w s s').mpr h1] at h
      injection h with h
      rw [← h]
      exact h2
theorem rl_det (s : Nat) (al : Bool) (t z : Nat) : Det (rl s al t z) := by
  intro g σ h
  unfold rl at h ⊢
  cases ho : ofS s al with
  | true =>
    rw [ho, cond_true] at h
    rw [cond_true]
    have h : (al && σ.testBit (g - 1)) = true := h
    rw [Bool.and_eq_true] at h
    show (!σ.testBit (g - 1)) = false
    rw [h.2]
    rfl
  | false =>
    rw [ho, cond_false] at h
    cases hs : decide (s = 0) with
    | true => rw [hs, cond_true] at h; cases h
    | false => rw [hs, cond_false] at h; cases h
theorem cgD_det (b : Nat → Nat) (k : Nat) : Det (cgD b k) := rl_det _ _ _ _
theorem cgM_eq (b : Nat → Nat) (k : Nat) : cgM b k = (List.range (cgN b k)).map (cgMs b k) := rfl
theorem ways_wds {b : Nat → Nat} (hW : Wf b) {k : Nat} (hk : k < b 3) : ways b k = (wds (cgM b k)).filter (accF (cgD b k) 0) := by
  unfold ways
  have hm : ∀ m ∈ cgM b k, m < 2 ^ (b 2 + 1) := fun m hm => by
    rw [cgM_eq] at hm
    obtain ⟨i, hi, rfl⟩ := List.mem_map.mp hm
    exact (hW.2.2.2.1 _ (cgC_lt hW hk (List.mem_range.mp hi))).2.1.2.1
  rw [ext_wds hW.1.2.2.1 _ _ hm, show (fun x : List Nat => [] ++ x) = fun x => x from rfl, List.map_id', List.filter_filter]
  refine List.filter_congr fun w hw => ?_
  have hd := wds_dig hw
  have hl := (mem_wds.mp hw).1
  rw [cgM_eq, List.length_map, List.length_range] at hl
  rw [Bool.eq_iff_iff, Bool.and_eq_true, accF_iff (cgD_det b k), show (∃ s', Rn (cgD b k) w 0 s' ∧ (cgD b k).2.2.2 s' = true) ↔ acc (cgD b k) w from Iff.rfl, cgD_cg hW hk w hl hd]
  cases hu : cgU b k with
  | true =>
    rw [ud_iff]
    constructor
    · rintro ⟨h1, h2, -⟩
      exact ⟨fun _ => h2, h1⟩
    · rintro ⟨h1, h2⟩
      exact ⟨h2, h1 rfl, fun x _ z => by cases z⟩
  | false =>
    rw [ud_false]
    constructor
    · rintro ⟨h1, -⟩
      exact ⟨fun z => (by cases z), h1⟩
    · rintro ⟨-, h2⟩
      exact ⟨h2, rfl⟩
theorem wds_snoc : ∀ (ms : List Nat) (m : Nat), wds (ms ++ [m]) = (wds ms).flatMap fun w => (List.range' 1 7).flatMap fun g => if m.testBit g then [w ++ [g]] else []
  | [], m => by
    show (List.range' 1 7).flatMap (fun g => if m.testBit g then [[g]] else []) = ([[]] : List (List Nat)).flatMap _
    rw [List.flatMap_cons, List.flatMap_nil, List.append_nil]
    rfl
  | m0 :: ms, m => by
    show (List.range' 1 7).flatMap (fun g => if m0.testBit g then (wds (ms ++ [m])).map (g :: ·) else []) = ((List.range' 1 7).flatMap fun g => if m0.testBit g then (wds ms).map (g :: ·) else []).flatMap _
    rw [List.flatMap_assoc]
    refine flatMap_congr2 fun g _ => ?_
    by_cases hb : m0.testBit g = true
    · rw [if_pos hb, if_pos hb, wds_snoc ms m, List.map_flatMap, List.flatMap_map]
      refine flatMap_congr2 fun w _ => ?_
      rw [List.map_flatMap]
      refine flatMap_congr2 fun x _ => ?_
      by_cases hx : m.testBit x = true
      · rw [if_pos hx, if_pos hx]; rfl
      · rw [if_neg hx, if_neg hx]; rfl
    · rw [if_neg hb, if_neg hb]; rfl
theorem flatMap_len {α β : Type} {f : α → List β} {n : Nat} : ∀ {l : List α}, (∀ x ∈ l, (f x).length ≤ n) → (l.flatMap f).length ≤ l.length * n
  | [], _ => by simp
  | a :: l, h => by
    rw [List.flatMap_cons, List.length_append, List.length_cons, Nat.succ_mul]
    have h1 := h a List.mem_cons_self
    have h2 := flatMap_len (l := l) fun x hx => h x (List.mem_cons_of_mem _ hx)
    omega
theorem wds_len : ∀ ms : List Nat, (wds ms).length ≤ 7 ^ ms.length
  | [] => Nat.le_refl 1
  | m :: ms => by
    have h := flatMap_len (l := List.range' 1 7) (f := fun g => if m.testBit g then (wds ms).map (g :: ·) else []) (n := 7 ^ ms.length) fun g _ => by
      by_cases hb : m.testBit g = true
      · rw [if_pos hb, List.length_map]; exact wds_len ms
      · rw [if_neg hb]; exact Nat.zero_le _
    rw [List.length_range'] at h
    rw [List.length_cons, Nat.pow_succ, Nat.mul_comm]
    exact h
