/-! THE CLASS, 22: a cage's rule -/
def kSum (σ : Nat) : Nat := (List.range' 1 7).foldl (fun a g => bif σ.testBit (g - 1) then a + g else a) 0
def kPrd (σ : Nat) : Nat := (List.range' 1 7).foldl (fun a g => bif σ.testBit (g - 1) then a * g else a) 1
def kMin (σ : Nat) : Nat := (List.range' 1 7).foldl (fun a g => bif σ.testBit (g - 1) then (if g < a then g else a) else a) 9
def kMax (σ : Nat) : Nat := (List.range' 1 7).foldl (fun a g => bif σ.testBit (g - 1) then (if a < g then g else a) else a) 0
def kTot (s σ : Nat) : Nat := if s = 0 then kSum σ else if s = 1 then kPrd σ else if s = 2 then kMax σ - kMin σ else 0
/-- set σ, one more digit -/
def kIn (σ g : Nat) : Nat := bif σ.testBit (g - 1) then σ else σ + 2 ^ (g - 1)
theorem k_in1 : ∀ σ, σ < 128 → ∀ g, g < 8 → 1 ≤ g → kIn σ g < 128 ∧ 1 ≤ kIn σ g := by decide +kernel
theorem k_in2 : ∀ σ, σ < 128 → ∀ g, g < 8 → 1 ≤ g → σ.testBit (g - 1) = false → (kSum (kIn σ g) = kSum σ + g ∧ kPrd (kIn σ g) = kPrd σ * g) ∧ popc (kIn σ g) = popc σ + 1 := by decide +kernel
theorem k_in3 : ∀ σ, σ < 128 → ∀ g, g < 8 → 1 ≤ g → kMin (kIn σ g) = (if g < kMin σ then g else kMin σ) ∧ kMax (kIn σ g) = (if kMax σ < g then g else kMax σ) := by decide +kernel
theorem k_in (σ : Nat) (hs : σ < 128) (g : Nat) (hg : g < 8) (h1 : 1 ≤ g) : (kIn σ g < 128 ∧ 1 ≤ kIn σ g) ∧ (σ.testBit (g - 1) = false → (kSum (kIn σ g) = kSum σ + g ∧ kPrd (kIn σ g) = kPrd σ * g) ∧ popc (kIn σ g) = popc σ + 1) ∧ kMin (kIn σ g) = (if g < kMin σ then g else kMin σ) ∧ kMax (kIn σ g) = (if kMax σ < g then g else kMax σ) := ⟨k_in1 σ hs g hg h1, k_in2 σ hs g hg h1, k_in3 σ hs g hg h1⟩
theorem k_bit : ∀ σ, σ < 128 → ∀ g, g < 8 → 1 ≤ g → ∀ x, x < 8 → 1 ≤ x → (kIn σ g).testBit (x - 1) = (decide (x = g) || σ.testBit (x - 1)) := by decide +kernel
def kSet (σ : Nat) (w : List Nat) : Nat := w.foldl kIn σ
def rSet (s : Nat) (al : Bool) (t z : Nat) : DF := (fun g σ => al && σ.testBit (g - 1), fun g σ => !σ.testBit (g - 1), fun g => 2 ^ (g - 1), fun σ => decide (1 ≤ σ) && ((al || decide (popc σ = z)) && (decide (s = 3) || decide (kTot s σ = t))))
theorem rset_mv : ∀ g, g < 8 → 1 ≤ g → 2 ^ (g - 1) ≤ 128 ∧ ∀ σ, σ < 128 → (!σ.testBit (g - 1)) = true → σ + 2 ^ (g - 1) < 128 := by decide +kernel
theorem rset_ok (s : Nat) (al : Bool) (t z : Nat) : DOk (rSet s al t z) := fun g h1 h7 => rset_mv g (by omega) h1
/-- what the digits come to -/
theorem rset_run {s : Nat} {al : Bool} {t z : Nat} : ∀ (w : List Nat) (σ s' : Nat), (∀ x ∈ w, 1 ≤ x ∧ x ≤ 7) → σ < 128 → (Rn (rSet s al t z) w σ s' ↔ (al = false → w.Nodup ∧ ∀ x ∈ w, σ.testBit (x - 1) = false) ∧ s' = kSet σ w)
  | [], σ, s', _, _ => ⟨fun h => ⟨fun _ => ⟨List.nodup_nil, fun x hx => by cases hx⟩, h⟩, fun h => h.2⟩
  | g :: w, σ, s', hd, hs => by
    have hg := hd g List.mem_cons_self
    obtain ⟨⟨k1, k1'⟩, k2⟩ := k_in σ hs g (by omega) hg.1
    have ih := rset_run (s := s) (al := al) (t := t) (z := z) w (kIn σ g) s' (fun x hx => hd x (List.mem_cons_of_mem _ hx)) k1
    show (∃ s1, trD (rSet s al t z) g σ s1 ∧ Rn (rSet s al t z) w s1 s') ↔ _
    have ek : kSet σ (g :: w) = kSet (kIn σ g) w := rfl
    rw [ek]
    have hstep : ∀ s1, trD (rSet s al t z) g σ s1 ↔ (al = false → σ.testBit (g - 1) = false) ∧ s1 = kIn σ g := by
      intro s1
      unfold trD rSet kIn
      dsimp only
      cases hb : σ.testBit (g - 1) <;> cases al <;> simp
    constructor
    · rintro ⟨s1, h1, h2⟩
      obtain ⟨h3, h4⟩ := (hstep s1).mp h1
      rw [h4] at h2
      obtain ⟨h5, h6⟩ := ih.mp h2
      refine ⟨fun ha => ?_, h6⟩
      obtain ⟨n1, n2⟩ := h5 ha
      have key : ∀ x ∈ w, x ≠ g ∧ σ.testBit (x - 1) = false := fun x hx => by
        have hx2 := hd x (List.mem_cons_of_mem _ hx)
        have h7 := n2 x hx
        rw [k_bit σ hs g (by omega) hg.1 x (by omega) hx2.1, Bool.or_eq_false_iff] at h7
        exact ⟨of_decide_eq_false h7.1, h7.2⟩
      refine ⟨List.nodup_cons.mpr ⟨fun z => (key g z).1 rfl, n1⟩, fun x hx => ?_⟩
      rcases List.mem_cons.mp hx with e | e
      · rw [e]; exact h3 ha
      · exact (key x e).2
    · rintro ⟨h1, h2⟩
      refine ⟨kIn σ g, (hstep _).mpr ⟨fun ha => (h1 ha).2 g List.mem_cons_self, rfl⟩, ih.mpr ⟨fun ha => ?_, h2⟩⟩
      obtain ⟨n1, n2⟩ := h1 ha
      rw [List.nodup_cons] at n1
      refine ⟨n1.2, fun x hx => ?_⟩
      have hx2 := hd x (List.mem_cons_of_mem _ hx)
      rw [k_bit σ hs g (by omega) hg.1 x (by omega) hx2.1, Bool.or_eq_false_iff]
      exact ⟨decide_eq_false fun e => n1.1 (e ▸ hx), n2 x (List.mem_cons_of_mem _ hx)⟩
theorem kset_lt : ∀ (w : List Nat) (σ : Nat), (∀ x ∈ w, 1 ≤ x ∧ x ≤ 7) → σ < 128 → kSet σ w < 128
  | [], σ, _, hs => hs
  | g :: w, σ, hd, hs => by
    have hg := hd g List.mem_cons_self
    exact kset_lt w (kIn σ g) (fun x hx => hd x (List.mem_cons_of_mem _ hx)) (k_in σ hs g (by omega) hg.1).1.1
theorem kset_span : ∀ (w : List Nat) (σ : Nat), (∀ x ∈ w, 1 ≤ x ∧ x ≤ 7) → σ < 128 → kMin (kSet σ w) = w.foldl (fun a x => if x < a then x else a) (kMin σ) ∧ kMax (kSet σ w) = w.foldl (fun a x => if a < x then x else a) (kMax σ)
  | [], σ, _, _ => ⟨rfl, rfl⟩
  | g :: w, σ, hd, hs => by
    have hg := hd g List.mem_cons_self
    obtain ⟨⟨k1, -⟩, -, k3, k4⟩ := k_in σ hs g (by omega) hg.1
    have ih := kset_span w (kIn σ g) (fun x hx => hd x (List.mem_cons_of_mem _ hx)) k1
    rw [k3, k4] at ih
    exact ih
theorem kset_un : ∀ (w : List Nat) (σ : Nat), (∀ x ∈ w, 1 ≤ x ∧ x ≤ 7) → σ < 128 → w.Nodup → (∀ x ∈ w, σ.testBit (x - 1) = false) → (kSum (kSet σ w) = w.foldl (fun a x => a + x) (kSum σ) ∧ kPrd (kSet σ w) = w.foldl (fun a x => a * x) (kPrd σ)) ∧ popc (kSet σ w) = popc σ + w.length
  | [], σ, _, _, _, _ => ⟨⟨rfl, rfl⟩, rfl⟩
  | g :: w, σ, hd, hs, hn, hx => by
    have hg := hd g List.mem_cons_self
    obtain ⟨⟨k1, -⟩, k2, -⟩ := k_in σ hs g (by omega) hg.1
    obtain ⟨⟨k3, k4⟩, k5⟩ := k2 (hx g List.mem_cons_self)
    rw [List.nodup_cons] at hn
    have ih := kset_un w (kIn σ g) (fun x hx => hd x (List.mem_cons_of_mem _ hx)) k1 hn.2 fun x h => by
      have hx2 := hd x (List.mem_cons_of_mem _ h)
      rw [k_bit σ hs g (by omega) hg.1 x (by omega) hx2.1, Bool.or_eq_false_iff]
      exact ⟨decide_eq_false fun e => hn.1 (e ▸ h), hx x (List.mem_cons_of_mem _ h)⟩
    rw [k3, k4, k5] at ih
    refine ⟨ih.1, ?_⟩
    rw [List.length_cons]
    have := ih.2
    show popc (kSet (kIn σ g) w) = _
    omega
theorem kset_pos {w : List Nat} {σ : Nat} (hd : ∀ x ∈ w, 1 ≤ x ∧ x ≤ 7) (hs : σ < 128) (hne : w ≠ []) : 1 ≤ kSet σ w := by
  have aux : ∀ (w : List Nat) (σ : Nat), (∀ x ∈ w, 1 ≤ x ∧ x ≤ 7) → σ < 128 → 1 ≤ σ → 1 ≤ kSet σ w := by
    intro w
    induction w with
    | nil => intro σ _ _ h; exact h
    | cons g w ih =>
      intro σ hd hs h
      have hg := hd g List.mem_cons_self
      have hk := (k_in σ hs g (by omega) hg.1).1
      exact ih (kIn σ g) (fun x hx => hd x (List.mem_cons_of_mem _ hx)) hk.1 hk.2
  cases w with
  | nil => exact absurd rfl hne
  | cons g w =>
    have hg := hd g List.mem_cons_self
    have hk := (k_in σ hs g (by omega) hg.1).1
    exact aux w (kIn σ g) (fun x hx => hd x (List.mem_cons_of_mem _ hx)) hk.1 hk.2
theorem kset_tot {s : Nat} {al : Bool} {w : List Nat} (hd : ∀ x ∈ w, 1 ≤ x ∧ x ≤ 7) (ha : al = true → s = 2 ∨ s = 3) (hn : al = false → w.Nodup) : kTot s (kSet 0 w) = tot s w := by
  have h1 := kset_span w 0 hd (by omega)
  unfold kTot tot
  by_cases c0 : s = 0
  · have h2 := kset_un w 0 hd (by omega) (hn (by cases al with | false => rfl | true => have := ha rfl; omega)) fun x _ => Nat.zero_testBit _
    rw [if_pos c0, if_pos c0]
    exact h2.1.1
  · rw [if_neg c0, if_neg c0]
    by_cases c1 : s = 1
    · have h2 := kset_un w 0 hd (by omega) (hn (by cases al with | false => rfl | true => have := ha rfl; omega)) fun x _ => Nat.zero_testBit _
      rw [if_pos c1, if_pos c1]
      exact h2.1.2
    · rw [if_neg c1, if_neg c1]
      by_cases c2 : s = 2
      · rw [if_pos c2, if_pos c2, h1.1, h1.2]
        rfl
      · rw [if_neg c2, if_neg c2]
theorem rset_acc {s : Nat} {al : Bool} {t z : Nat} {w : List Nat} (hd : ∀ x ∈ w, 1 ≤ x ∧ x ≤ 7) (hz : w.length = z) (h0 : 1 ≤ z) (ha : al = true → s = 2 ∨ s = 3) : acc (rSet s al t z) w ↔ (al = false → w.Nodup) ∧ (decide (s = 3) || decide (tot s w = t)) = true := by
  have hne : w ≠ [] := fun e => by rw [e] at hz; rw [← hz] at h0; exact absurd h0 (by simp)
  unfold acc
  constructor
  · rintro ⟨s', h1, h2⟩
    obtain ⟨h3, h4⟩ := (rset_run w 0 s' hd (by omega)).mp h1
    rw [h4] at h2
    have h5 : (decide (1 ≤ kSet 0 w) && ((al || decide (popc (kSet 0 w) = z)) && (decide (s = 3) || decide (kTot s (kSet 0 w) = t)))) = true := h2
    rw [kset_tot hd ha fun h => (h3 h).1] at h5
    rw [Bool.and_eq_true, Bool.and_eq_true] at h5
    exact ⟨fun h => (h3 h).1, h5.2.2⟩
  · rintro ⟨h1, h2⟩
    refine ⟨kSet 0 w, (rset_run w 0 _ hd (by omega)).mpr ⟨fun h => ⟨h1 h, fun x _ => Nat.zero_testBit _⟩, rfl⟩, ?_⟩
    show (decide (1 ≤ kSet 0 w) && ((al || decide (popc (kSet 0 w) = z)) && (decide (s = 3) || decide (kTot s (kSet 0 w) = t)))) = true
    rw [kset_tot hd ha h1, h2, decide_eq_true (kset_pos hd (by omega) hne), Bool.and_true, Bool.true_and]
    cases al with
    | true => rfl
    | false =>
      have := (kset_un w 0 hd (by omega) (h1 rfl) fun x _ => Nat.zero_testBit _).2
      rw [show popc 0 = 0 from by decide +kernel, Nat.zero_add, hz] at this
      rw [this]
      exact decide_eq_true rfl
/-! a sum of alike digits -/
def rSum (t : Nat) : DF := (fun _ _ => false, fun g σ => decide (t ≤ 42) && decide (σ + g ≤ t), fun g => if t ≤ 42 then g else 0, fun σ => decide (t ≤ 42) && decide (σ = t))
theorem rsum_ok (t : Nat) : DOk (rSum t) := fun g h1 h7 => by
  refine ⟨?_, fun σ hs h => ?_⟩
  · show (if t ≤ 42 then g else 0) ≤ 128
    split <;> omega
  · have h : (decide (t ≤ 42) && decide (σ + g ≤ t)) = true := h
    rw [Bool.and_eq_true] at h
    have h2 := of_decide_eq_true h.1
    have h3 := of_decide_eq_true h.2
    show σ + (if t ≤ 42 then g else 0) < 128
    rw [if_pos h2]
    omega
theorem foldl_add_ge : ∀ (w : List Nat) (a : Nat), a ≤ w.foldl (fun a x => a + x) a
  | [], a => Nat.le_refl a
  | g :: w, a => Nat.le_trans (Nat.le_add_right a g) (foldl_add_ge w (a + g))
theorem rsum_run {t : Nat} (ht : t ≤ 42) : ∀ (w : List Nat) (σ s' : Nat), σ ≤ t → (Rn (rSum t) w σ s' ↔ w.foldl (fun a x => a + x) σ ≤ t ∧ s' = w.foldl (fun a x => a + x) σ)
  | [], σ, s', hs => ⟨fun h => ⟨hs, h⟩, fun h => h.2⟩
  | g :: w, σ, s', hs => by
    show (∃ s1, trD (rSum t) g σ s1 ∧ Rn (rSum t) w s1 s') ↔ w.foldl (fun a x => a + x) (σ + g) ≤ t ∧ s' = w.foldl (fun a x => a + x) (σ + g)
    have hstep : ∀ s1, trD (rSum t) g σ s1 ↔ σ + g ≤ t ∧ s1 = σ + g := by
      intro s1
      unfold trD rSum
      dsimp only
      rw [if_pos ht, decide_eq_true ht]
      simp
    constructor
    · rintro ⟨s1, h1, h2⟩
      obtain ⟨h3, rfl⟩ := (hstep s1).mp h1
      exact (rsum_run ht w (σ + g) s' h3).mp h2
    · intro h
      have h3 : σ + g ≤ t := Nat.le_trans (foldl_add_ge w (σ + g)) h.1
      exact ⟨σ + g, (hstep _).mpr ⟨h3, rfl⟩, (rsum_run ht w (σ + g) s' h3).mpr h⟩
theorem rsum_acc {t : Nat} {w : List Nat} (hd : ∀ x ∈ w, 1 ≤ x ∧ x ≤ 7) (h6 : w.length ≤ 6) : acc (rSum t) w ↔ tSum w = t := by
  have hle := tSum_le w 0 fun x hx => (hd x hx).2
  have hle2 : tSum w ≤ 42 := by unfold tSum; omega
  unfold acc
  constructor
  · rintro ⟨s', h1, h2⟩
    have h2 : (decide (t ≤ 42) && decide (s' = t)) = true := h2
    rw [Bool.and_eq_true] at h2
    have h4 := of_decide_eq_true h2.1
    have h5 := of_decide_eq_true h2.2
    have := (rsum_run h4 w 0 s' (by omega)).mp h1
    unfold tSum
    omega
  · intro h
    have h4 : t ≤ 42 := by omega
    refine ⟨t, (rsum_run h4 w 0 t (by omega)).mpr ⟨Nat.le_of_eq h, h.symm⟩, ?_⟩
    show (decide (t ≤ 42) && decide (t = t)) = true
    rw [decide_eq_true h4, decide_eq_true rfl]
    rfl
