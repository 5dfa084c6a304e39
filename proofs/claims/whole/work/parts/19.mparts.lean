/-! THE MODEL, 8: parts of the board that no cage joins -/
def sumF (f : Nat → Nat) : Nat → Nat
  | 0 => 0
  | n + 1 => sumF f n + f n
theorem sumF_le {f g : Nat → Nat} : ∀ {n : Nat}, (∀ x, x < n → g x ≤ f x) → sumF g n ≤ sumF f n
  | 0, _ => Nat.le_refl 0
  | n + 1, h => Nat.add_le_add (sumF_le fun x hx => h x (by omega)) (h n (by omega))
theorem sumF_lt {f g : Nat → Nat} : ∀ {n : Nat}, (∀ x, x < n → g x ≤ f x) → (∃ x, x < n ∧ g x < f x) → sumF g n < sumF f n
  | 0, _, ⟨x, h, _⟩ => by omega
  | n + 1, h, ⟨x, hx, hl⟩ => by
    by_cases e : x = n
    · subst e
      have := sumF_le (f := f) (g := g) (n := x) fun y hy => h y (by omega)
      show sumF g x + g x < sumF f x + f x
      omega
    · have := sumF_lt (f := f) (g := g) (n := n) (fun y hy => h y (by omega)) ⟨x, by omega, hl⟩
      have := h n (by omega)
      show sumF g n + g n < sumF f n + f n
      omega
section MP
variable {d : Nat} {M : ZM} {b : Nat → Nat}
theorem s_min {x y : Nat} (hx : x < 2147483648) (hy : y < 2147483648) : zEv (d + 1) zmJM_min [.int (nI x), .int (nI y)] M = some (some (.int (nI (if y < x then y else x))), M) := by
  refine e_JM_min ?_
  simp only [n_lt hy hx]
  split <;> rfl
def pP : Nat → Nat → Prop := fun a _ => a = 877
theorem MR.frP {M M' : ZM} (h : MR b M) (hf : frI pP M M') : MR b M' := h.fr hf fun k _ z => by unfold pP at z; omega
/-- the first loop: each cell is a part -/
theorem s_parts_a (hW : Wf b) : ∀ j i (M : ZM), i + j = b 0 * b 1 → MR b M → (∀ x, x < i → M.1 877 x = nI x) → ∃ M', frI pP M M' ∧ (∀ x, x < b 0 * b 1 → M'.1 877 x = nI x) ∧ ∀ r, h_M_parts_25 (d + 2) (nI 1) M' = some r → h_M_parts_2 (d + 2) (nI i) M = some r := by
  have h36 := hW.n36
  intro j
  induction j with
  | zero =>
    intro i M h hR hP
    refine ⟨M, fr.refl, fun x hx => hP x (by omega), fun r hr => ?_⟩
    refine e_M_parts_2 ?_
    simp only [s_cells hR, zC1_some, n_lt (show i < 2147483648 by omega) (show b 0 * b 1 < 2147483648 by omega)]
    rw [if_neg (by omega)]
    exact hr
  | succ j ih =>
    intro i M h hR hP
    have f1 : frI pP M (zpi M 877 i (nI i)) := fr.refl.pi rfl
    obtain ⟨M', h1, h2, h3⟩ := ih (i + 1) (zpi M 877 i (nI i)) (by omega) (hR.frP f1) (fun x hx => by
      rw [m_pi]
      by_cases e : x = i
      · rw [if_pos ⟨rfl, e⟩, e]
      · rw [if_neg (fun z => e z.2), hP x (by omega)])
    refine ⟨M', f1.trans h1, h2, fun r hr => ?_⟩
    refine e_M_parts_2 ?_
    simp only [s_cells hR, zC1_some, n_lt (show i < 2147483648 by omega) (show b 0 * b 1 < 2147483648 by omega), n_zin (show i < 2147483648 by omega), n_clamp (show i < 2147483648 by omega), n_add1]
    rw [if_pos (by omega), if_pos (by omega)]
    exact h3 r hr
/-- the least of a cage's cells -/
def mnF (f : Nat → Nat) (c : Nat → Nat) : Nat → Nat
  | 0 => f (c 0)
  | i + 1 => if f (c i) < mnF f c i then f (c i) else mnF f c i
theorem s_parts_m (hR : MR b M) (hW : Wf b) {k : Nat} (hk : k < b 3) {f : Nat → Nat} (hP : ∀ x, x < b 0 * b 1 → M.1 877 x = nI (f x)) (hf : ∀ x, x < b 0 * b 1 → f x < 36) {mo : Int32} {r : ZR} : (h_M_parts_93 (d + 2) mo (nI k) (nI (mnF f (cgC b k) (cgN b k))) (nI 0) M = some r) → ∀ j i, i + j = cgN b k → h_M_parts_56 (d + 2) mo (nI k) (nI (mnF f (cgC b k) i)) (nI i) M = some r := by
  have h12 := cg_12 hW hk
  have h6 := cgN_le hW hk
  have hlt : ∀ i, i < cgN b k → cgC b k i < b 0 * b 1 := fun i hi => by
    have := (hW.2.2.2.2.2 k hk).2.2.1 i hi
    unfold isO at this
    rw [Bool.and_eq_true] at this
    exact of_decide_eq_true this.1
  have hmn : ∀ i, i ≤ cgN b k → mnF f (cgC b k) i < 36 := by
    intro i
    induction i with
    | zero => intro _; exact hf _ (hlt 0 (hW.2.2.2.2.2 k hk).2.1.1)
    | succ i ih =>
      intro h
      unfold mnF
      have := hf _ (hlt i (by omega))
      have := ih (by omega)
      split <;> omega
  intro hr j
  induction j with
  | zero =>
    intro i h
    refine e_M_parts_56 ?_
    simp only [s_ofN hR h12, zC1_some, n_lt (show i < 2147483648 by omega) (show cgN b k < 2147483648 by omega)]
    rw [if_neg (by omega)]
    obtain rfl : i = cgN b k := by omega
    exact hr
  | succ j ih =>
    intro i h
    refine e_M_parts_56 ?_
    have h36 := cgC_lt hW hk (show i < cgN b k by omega)
    have hlt' := hlt i (by omega)
    have e1 := hf _ hlt'
    have e2 := hmn i (by omega)
    simp only [s_ofN hR h12, zC1_some, n_lt (show i < 2147483648 by omega) (show cgN b k < 2147483648 by omega), s_cellOf hR h12 (show i < 6 by omega), n_zin (show cgC b k i < 2147483648 by omega), n_clamp (show cgC b k i < 2147483648 by omega), hP _ hlt', s_min (show mnF f (cgC b k) i < 2147483648 by omega) (show f (cgC b k i) < 2147483648 by omega), n_add1]
    rw [if_pos (by omega), if_pos (by omega)]
    exact ih (i + 1) (by omega)
theorem mnF_le {f c : Nat → Nat} : ∀ {n i : Nat}, i < n → mnF f c n ≤ f (c i)
  | n + 1, i, h => by
    unfold mnF
    by_cases e : i = n
    · subst e; split <;> omega
    · have := mnF_le (f := f) (c := c) (n := n) (i := i) (by omega)
      split <;> omega
theorem mnF_ex {f c : Nat → Nat} : ∀ {n : Nat}, 0 < n → ∃ i, i < n ∧ mnF f c n = f (c i)
  | n + 1, _ => by
    unfold mnF
    by_cases h : f (c n) < mnF f c n
    · rw [if_pos h]; exact ⟨n, by omega, rfl⟩
    · rw [if_neg h]
      cases n with
      | zero => exact ⟨0, by omega, rfl⟩
      | succ n =>
        obtain ⟨i, h1, h2⟩ := mnF_ex (f := f) (c := c) (n := n + 1) (by omega)
        exact ⟨i, by omega, h2⟩
/-- a cage's cells are set to the least; told whether one differed -/
theorem s_parts_s (hW : Wf b) {k : Nat} (hk : k < b 3) {v : Nat} (hv : v < 36) : ∀ j i (M : ZM) (f : Nat → Nat) (mo : Bool), i + j = cgN b k → MR b M → (∀ x, x < b 0 * b 1 → M.1 877 x = nI (f x)) → (∀ x, x < b 0 * b 1 → f x < 36) → (∀ z, i ≤ z → z < cgN b k → v ≤ f (cgC b k z)) →
    ∃ (M' : ZM) (f' : Nat → Nat) (m' : Bool), frI pP M M' ∧ (∀ x, x < b 0 * b 1 → M'.1 877 x = nI (f' x)) ∧ (∀ x, x < b 0 * b 1 → f' x < 36) ∧ (∀ x, f' x ≤ f x) ∧ (m' = false → mo = false ∧ (∀ x, f' x = f x) ∧ ∀ z, i ≤ z → z < cgN b k → f (cgC b k z) = v) ∧ (m' = true → mo = true ∨ ∃ x, x < b 0 * b 1 ∧ f' x < f x) ∧ ∀ r, h_M_parts_33 (d + 2) (nB m') (nI (k + 1)) M' = some r → h_M_parts_93 (d + 2) (nB mo) (nI k) (nI v) (nI i) M = some r := by
  have h12 := cg_12 hW hk
  have h6 := cgN_le hW hk
  have hlt : ∀ i, i < cgN b k → cgC b k i < b 0 * b 1 := fun i hi => by
    have := (hW.2.2.2.2.2 k hk).2.2.1 i hi
    unfold isO at this
    rw [Bool.and_eq_true] at this
    exact of_decide_eq_true this.1
  have hinj : ∀ i j, i < j → j < cgN b k → cgC b k i < cgC b k j := (hW.2.2.2.2.2 k hk).2.2.2
  intro j
  induction j with
  | zero =>
    intro i M f mo h hR hP hf hv2
    refine ⟨M, f, mo, fr.refl, hP, hf, fun x => Nat.le_refl _, fun e => ⟨e, fun _ => rfl, fun z h1 h2 => by omega⟩, fun e => Or.inl e, fun r hr => ?_⟩
    refine e_M_parts_93 ?_
    simp only [s_ofN hR h12, zC1_some, n_lt (show i < 2147483648 by omega) (show cgN b k < 2147483648 by omega), n_add1]
    rw [if_neg (by omega)]
    exact hr
  | succ j ih =>
    intro i M f mo h hR hP hf hv2
    have h36 := cgC_lt hW hk (show i < cgN b k by omega)
    have hlt' := hlt i (by omega)
    have f1 : frI pP M (zpi M 877 (cgC b k i) (nI v)) := fr.refl.pi rfl
    have hP' : ∀ x, x < b 0 * b 1 → (zpi M 877 (cgC b k i) (nI v)).1 877 x = nI ((fun y => if y = cgC b k i then v else f y) x) := by
      intro x hx
      rw [m_pi]
      dsimp only
      by_cases e : x = cgC b k i
      · rw [if_pos ⟨rfl, e⟩, if_pos e]
      · rw [if_neg (fun z => e z.2), if_neg e, hP x hx]
    have hf' : ∀ x, x < b 0 * b 1 → (fun y => if y = cgC b k i then v else f y) x < 36 := by
      intro x hx
      dsimp only
      split
      · exact hv
      · exact hf x hx
    have hv3 : ∀ z, i + 1 ≤ z → z < cgN b k → v ≤ (fun y => if y = cgC b k i then v else f y) (cgC b k z) := by
      intro z h1 h2
      dsimp only
      split
      · exact Nat.le_refl v
      · exact hv2 z (by omega) h2
    obtain ⟨M', f', m', g1, g2, g2', g3, g4, g5, g6⟩ := ih (i + 1) _ _ (mo || decide (f (cgC b k i) ≠ v)) (by omega) (hR.frP f1) hP' hf' hv3
    have hvi := hv2 i (Nat.le_refl i) (by omega)
    have hle : ∀ x, f' x ≤ f x := fun x => by
      have := g3 x
      by_cases e : x = cgC b k i
      · rw [if_pos e] at this; rw [e] at this ⊢; omega
      · rw [if_neg e] at this; exact this
    refine ⟨M', f', m', f1.trans g1, g2, g2', hle, fun e => ?_, fun e => ?_, fun r hr => ?_⟩
    · obtain ⟨q1, q2, q3⟩ := g4 e
      rw [Bool.or_eq_false_iff] at q1
      have q4 : f (cgC b k i) = v := by
        have := of_decide_eq_false q1.2
        omega
      refine ⟨q1.1, fun x => ?_, fun z h1 h2 => ?_⟩
      · have := q2 x
        by_cases e : x = cgC b k i
        · rw [if_pos e] at this; rw [this, e, q4]
        · rw [if_neg e] at this; exact this
      · by_cases e3 : z = i
        · rw [e3]; exact q4
        · have h3 := q3 z (by omega) h2
          have := hinj i z (by omega) h2
          rw [if_neg (by omega)] at h3
          exact h3
    · rcases g5 e with q | ⟨x, hx, q⟩
      · rw [Bool.or_eq_true] at q
        rcases q with q | q
        · exact Or.inl q
        · have := of_decide_eq_true q
          refine Or.inr ⟨cgC b k i, hlt', ?_⟩
          have := g3 (cgC b k i)
          rw [if_pos rfl] at this
          omega
      · refine Or.inr ⟨x, hx, ?_⟩
        by_cases e2 : x = cgC b k i
        · rw [if_pos e2] at q; rw [e2] at q ⊢; omega
        · rw [if_neg e2] at q; exact q
    · have g7 := g6 r hr
      have e1 := hf _ hlt'
      refine e_M_parts_93 ?_
      simp only [s_ofN hR h12, zC1_some, n_lt (show i < 2147483648 by omega) (show cgN b k < 2147483648 by omega), s_cellOf hR h12 (show i < 6 by omega), n_zin (show cgC b k i < 2147483648 by omega), n_clamp (show cgC b k i < 2147483648 by omega), hP _ hlt', n_eq (show f (cgC b k i) < 2147483648 by omega) (show v < 2147483648 by omega), n_add1, nB0]
      simp only [if_pos (show i < cgN b k by omega), if_pos (show cgC b k i < 36 by omega)]
      cases mo with
      | true =>
        rw [if_neg (by simp)]
        exact g7
      | false =>
        rw [if_pos rfl]
        by_cases e2 : f (cgC b k i) = v
        · rw [if_pos e2]
          rw [decide_eq_false (by simp [e2])] at g7
          exact g7
        · rw [if_neg e2]
          rw [decide_eq_true e2] at g7
          exact g7
/-- the parts of a cage are one -/
def oneP (b f : Nat → Nat) (k : Nat) : Prop := ∀ z, z < cgN b k → f (cgC b k z) = f (cgC b k 0)
/-- one go over all cages -/
theorem s_parts_k (hW : Wf b) : ∀ j k (M : ZM) (f : Nat → Nat) (mo : Bool), k + j = b 3 → MR b M → (∀ x, x < b 0 * b 1 → M.1 877 x = nI (f x)) → (∀ x, x < b 0 * b 1 → f x < 36) → (mo = false → ∀ k', k' < k → oneP b f k') →
    ∃ (M' : ZM) (f' : Nat → Nat) (m' : Bool), frI pP M M' ∧ (∀ x, x < b 0 * b 1 → M'.1 877 x = nI (f' x)) ∧ (∀ x, x < b 0 * b 1 → f' x < 36) ∧ (∀ x, f' x ≤ f x) ∧ (m' = false → ∀ k', k' < b 3 → oneP b f' k') ∧ (m' = true → mo = true ∨ ∃ x, x < b 0 * b 1 ∧ f' x < f x) ∧ ∀ r, h_M_parts_25 (d + 2) (nB m') M' = some r → h_M_parts_33 (d + 2) (nB mo) (nI k) M = some r := by
  have h12 := hW.1.2.2.2
  intro j
  induction j with
  | zero =>
    intro k M f mo h hR hP hf hmo
    refine ⟨M, f, mo, fr.refl, hP, hf, fun x => Nat.le_refl _, fun e k' hk' => hmo e k' (by omega), fun e => Or.inl e, fun r hr => ?_⟩
    refine e_M_parts_33 ?_
    simp only [s_cages hR, zC1_some, n_lt (show k < 2147483648 by omega) (show b 3 < 2147483648 by omega)]
    rw [if_neg (by omega)]
    exact hr
  | succ j ih =>
    intro k M f mo h hR hP hf hmo
    have hk : k < b 3 := by omega
    have hN := (hW.2.2.2.2.2 k hk).2.1
    have hlt : ∀ i, i < cgN b k → cgC b k i < b 0 * b 1 := fun i hi => by
      have := (hW.2.2.2.2.2 k hk).2.2.1 i hi
      unfold isO at this
      rw [Bool.and_eq_true] at this
      exact of_decide_eq_true this.1
    obtain ⟨i0, hi0, he0⟩ := mnF_ex (f := f) (c := cgC b k) (n := cgN b k) hN.1
    have hv : mnF f (cgC b k) (cgN b k) < 36 := by rw [he0]; exact hf _ (hlt i0 hi0)
    obtain ⟨M1, f1, m1, a1, a2, a3, a4, a5, a6, a7⟩ := s_parts_s (d := d) hW hk hv (cgN b k) 0 M f mo (by omega) hR hP hf (fun z _ hz => mnF_le hz)
    obtain ⟨M', f', m', c1, c2, c3, c4, c5, c6, c7⟩ := ih (k + 1) M1 f1 m1 (by omega) (hR.frP a1) a2 a3 (fun e k' hk' => by
      obtain ⟨q1, q2, q3⟩ := a5 e
      by_cases e2 : k' = k
      · subst e2
        intro z hz
        rw [q2, q2, q3 z (by omega) hz, q3 0 (by omega) (by omega)]
      · intro z hz
        rw [q2, q2]
        exact hmo q1 k' (by omega) z hz)
    refine ⟨M', f', m', a1.trans c1, c2, c3, fun x => Nat.le_trans (c4 x) (a4 x), c5, fun e => ?_, fun r hr => ?_⟩
    · rcases c6 e with q | ⟨x, hx, q⟩
      · rcases a6 q with q | ⟨x, hx, q⟩
        · exact Or.inl q
        · exact Or.inr ⟨x, hx, Nat.lt_of_le_of_lt (c4 x) q⟩
      · exact Or.inr ⟨x, hx, Nat.lt_of_lt_of_le q (a4 x)⟩
    · have g := a7 r (c7 r hr)
      have h36 := cgC_lt hW hk (show 0 < cgN b k by omega)
      refine e_M_parts_33 ?_
      simp only [s_cages hR, zC1_some, n_lt (show k < 2147483648 by omega) (show b 3 < 2147483648 by omega), s_cellOf hR (show k < 12 by omega) (show 0 < 6 by omega), n_zin (show cgC b k 0 < 2147483648 by omega), n_clamp (show cgC b k 0 < 2147483648 by omega), hP _ (hlt 0 (by omega))]
      simp only [if_pos (show k < b 3 by omega), if_pos (show cgC b k 0 < 36 by omega)]
      exact s_parts_m (M := M) hR hW hk hP hf g (cgN b k) 0 (by omega)
/-- goes until nothing differs -/
theorem s_parts_w (hW : Wf b) : ∀ n (M : ZM) (f : Nat → Nat), sumF f (b 0 * b 1) ≤ n → MR b M → (∀ x, x < b 0 * b 1 → M.1 877 x = nI (f x)) → (∀ x, x < b 0 * b 1 → f x < 36) →
    ∃ (M' : ZM) (f' : Nat → Nat), frI pP M M' ∧ (∀ x, x < b 0 * b 1 → M'.1 877 x = nI (f' x)) ∧ (∀ x, x < b 0 * b 1 → f' x < 36) ∧ (∀ k', k' < b 3 → oneP b f' k') ∧ h_M_parts_25 (d + 2) (nI 1) M = some (none, M') := by
  intro n
  induction n with
  | zero =>
    intro M f h hR hP hf
    obtain ⟨M', f', m', c1, c2, c3, c4, c5, c6, c7⟩ := s_parts_k (d := d) hW (b 3) 0 M f false (by omega) hR hP hf (fun _ k' hk' => by omega)
    cases m' with
    | true =>
      rcases c6 rfl with q | q
      · cases q
      · have := sumF_lt (n := b 0 * b 1) (fun x _ => c4 x) q
        omega
    | false =>
      refine ⟨M', f', c1, c2, c3, c5 rfl, ?_⟩
      refine e_M_parts_25 ?_
      rw [if_neg (by decide)]
      refine c7 _ (e_M_parts_25 ?_)
      rw [if_pos (show nB false = nI 0 from rfl)]
  | succ n ih =>
    intro M f h hR hP hf
    obtain ⟨M', f', m', c1, c2, c3, c4, c5, c6, c7⟩ := s_parts_k (d := d) hW (b 3) 0 M f false (by omega) hR hP hf (fun _ k' hk' => by omega)
    cases m' with
    | true =>
      rcases c6 rfl with q | q
      · cases q
      · have := sumF_lt (n := b 0 * b 1) (fun x _ => c4 x) q
        obtain ⟨M2, f2, k1, k2, k3, k4, k5⟩ := ih M' f' (by omega) (hR.frP c1) c2 c3
        refine ⟨M2, f2, c1.trans k1, k2, k3, k4, ?_⟩
        refine e_M_parts_25 ?_
        rw [if_neg (by decide)]
        exact c7 _ k5
    | false =>
      refine ⟨M', f', c1, c2, c3, c5 rfl, ?_⟩
      refine e_M_parts_25 ?_
      rw [if_neg (by decide)]
      refine c7 _ (e_M_parts_25 ?_)
      rw [if_pos (show nB false = nI 0 from rfl)]
theorem s_parts (hR : MR b M) (hW : Wf b) : ∃ (M' : ZM) (f : Nat → Nat), frI pP M M' ∧ (∀ x, x < b 0 * b 1 → M'.1 877 x = nI (f x)) ∧ (∀ x, x < b 0 * b 1 → f x < 36) ∧ (∀ k', k' < b 3 → oneP b f k') ∧ zEv (d + 3) zmM_parts [.ref 866] M = some (none, M') := by
  obtain ⟨M1, a1, a2, a3⟩ := s_parts_a (d := d) hW (b 0 * b 1) 0 M (by omega) hR (fun x hx => by omega)
  have h36 := hW.n36
  obtain ⟨M', f, c1, c2, c3, c4, c5⟩ := s_parts_w (d := d) hW _ M1 (fun x => x) (Nat.le_refl _) (hR.frP a1) a2 (fun x hx => by omega)
  exact ⟨M', f, a1.trans c1, c2, c3, c4, e_M_parts (a3 _ c5)⟩
end MP
