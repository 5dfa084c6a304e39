/-! THE CLASS, 2: a board copied; a cell changed -/
theorem cpy0 {α : Type} {f g : Nat → α} {n j : Nat} : va_cpy f g 0 0 n j = if j < n then f j else g j := by
  unfold va_cpy
  by_cases h : j < n
  · rw [if_pos (by omega), if_pos h, Nat.zero_add, Nat.sub_zero]
  · rw [if_neg (by omega), if_neg h]
theorem m_six {M : ZM} {q a j : Nat} {f : Nat → Int32} : (zsi M q f).1 a j = if a = q then f j else M.1 a j := by
  rw [m_si]
  by_cases h : a = q
  · rw [if_pos h, if_pos h]
  · rw [if_neg h, if_neg h]
theorem m_slx {M : ZM} {q a j : Nat} {f : Nat → Int64} : (zsl' M q f).2 a j = if a = q then f j else M.2 a j := by
  rw [m_sl]
  by_cases h : a = q
  · rw [if_pos h, if_pos h]
  · rw [if_neg h, if_neg h]
def pBd (q : Nat) : Nat → Nat → Prop := fun a _ => q ≤ a ∧ a ≤ q + 18
/-- what is copied -/
def CpR (x0 x1 : Nat) (M M' : ZM) : Prop :=
  ((M'.1 x0 0 = M.1 x1 0 ∧ M'.1 x0 1 = M.1 x1 1) ∧ (M'.1 x0 2 = M.1 x1 2 ∧ M'.1 x0 3 = M.1 x1 3)) ∧
  ((M'.2 x0 4 = M.2 x1 4 ∧ M'.2 x0 5 = M.2 x1 5) ∧ (M'.2 x0 6 = M.2 x1 6 ∧ M'.1 x0 7 = M.1 x1 7)) ∧
  (∀ c, c < 36 → M'.1 (x0 + 1) c = M.1 (x1 + 1) c) ∧
  (∀ k, k < 12 → (M'.1 (x0 + 2) k = M.1 (x1 + 2) k ∧ M'.1 (x0 + 3) k = M.1 (x1 + 3) k) ∧ (M'.1 (x0 + 4) k = M.1 (x1 + 4) k ∧ M'.2 (x0 + 5) k = M.2 (x1 + 5) k))
def cpA (x0 x1 : Nat) (M : ZM) : ZM := (zpi (zpi (zpi M x0 0 (M.1 x1 0)) x0 1 ((zpi M x0 0 (M.1 x1 0)).1 x1 1)) x0 2 ((zpi (zpi M x0 0 (M.1 x1 0)) x0 1 ((zpi M x0 0 (M.1 x1 0)).1 x1 1)).1 x1 2))
def cpB (x0 x1 : Nat) (M1 : ZM) : ZM := (zpl (zpl (zpi M1 x0 3 (M1.1 x1 3)) x0 4 ((zpi M1 x0 3 (M1.1 x1 3)).2 x1 4)) x0 5 ((zpl (zpi M1 x0 3 (M1.1 x1 3)) x0 4 ((zpi M1 x0 3 (M1.1 x1 3)).2 x1 4)).2 x1 5))
def cpC (x0 x1 : Nat) (M3 : ZM) : ZM := (zsi (zpi (zpl M3 x0 6 (M3.2 x1 6)) x0 7 ((zpl M3 x0 6 (M3.2 x1 6)).1 x1 7)) (x0 + 1) (va_cpy ((zpi (zpl M3 x0 6 (M3.2 x1 6)) x0 7 ((zpl M3 x0 6 (M3.2 x1 6)).1 x1 7)).1 (x1 + 1)) ((zpi (zpl M3 x0 6 (M3.2 x1 6)) x0 7 ((zpl M3 x0 6 (M3.2 x1 6)).1 x1 7)).1 (x0 + 1)) (0) (0) (36)))
def cpD (x0 x1 : Nat) (M6 : ZM) : ZM := (zsi (zsi M6 (x0 + 2) (va_cpy (M6.1 (x1 + 2)) (M6.1 (x0 + 2)) (0) (0) (12))) (x0 + 3) (va_cpy ((zsi M6 (x0 + 2) (va_cpy (M6.1 (x1 + 2)) (M6.1 (x0 + 2)) (0) (0) (12))).1 (x1 + 3)) ((zsi M6 (x0 + 2) (va_cpy (M6.1 (x1 + 2)) (M6.1 (x0 + 2)) (0) (0) (12))).1 (x0 + 3)) (0) (0) (12)))
def cpE (x0 x1 : Nat) (M10 : ZM) : ZM := (zsl' (zsi M10 (x0 + 4) (va_cpy (M10.1 (x1 + 4)) (M10.1 (x0 + 4)) (0) (0) (12))) (x0 + 5) (va_cpy ((zsi M10 (x0 + 4) (va_cpy (M10.1 (x1 + 4)) (M10.1 (x0 + 4)) (0) (0) (12))).2 (x1 + 5)) ((zsi M10 (x0 + 4) (va_cpy (M10.1 (x1 + 4)) (M10.1 (x0 + 4)) (0) (0) (12))).2 (x0 + 5)) (0) (0) (12)))
section QC
variable {d : Nat} {M : ZM} {b : Nat → Nat} {q : Nat}
theorem fr.si {p p2 : Nat → Nat → Prop} {M M1 : ZM} (h : fr p p2 M M1) {a : Nat} {f : Nat → Int32} (hp : ∀ k, p a k) : fr p p2 M (zsi M1 a f) := by
  refine ⟨fun x y g => ?_, h.2⟩
  rw [m_si, if_neg (fun z => g (by rw [z]; exact hp y))]
  exact h.1 x y g
theorem fr.sl {p p2 : Nat → Nat → Prop} {M M1 : ZM} (h : fr p p2 M M1) {a : Nat} {f : Nat → Int64} (hp : ∀ k, p2 a k) : fr p p2 M (zsl' M1 a f) := by
  refine ⟨h.1, fun x y g => ?_⟩
  rw [m_sl, if_neg (fun z => g (by rw [z]; exact hp y))]
  exact h.2 x y g
theorem q_copy_l {x0 x1 : Nat} (h0 : zkd x0 = (10, 0)) (h1 : zkd x1 = (10, 0)) (hne : x0 + 18 < x1 ∨ x1 + 18 < x0) : ∀ j i (M : ZM), i + j = 12 → ∃ M', h_B_copyFrom_141 d x0 x1 (nI i) M = some (none, M') ∧ fr (fun a _ => x0 + 7 ≤ a ∧ a ≤ x0 + 18) (fun _ _ => False) M M' ∧ (∀ k, k < i → M'.1 (x0 + 7 + k) = M.1 (x0 + 7 + k)) ∧ ∀ k, i ≤ k → k < 12 → ∀ c, c < 6 → M'.1 (x0 + 7 + k) c = M.1 (x1 + 7 + k) c := by
  intro j
  induction j with
  | zero =>
    intro i M h
    refine ⟨M, e_B_copyFrom_141 h0 h1 ?_, fr.refl, fun _ _ => rfl, fun k h1 h2 => by omega⟩
    rw [if_neg (by rw [n_lt (by omega) (by omega)]; omega)]
  | succ j ih =>
    intro i M h
    obtain ⟨M', a1, a2, a3, a4⟩ := ih (i + 1) (zsi M (x0 + 7 + i) (va_cpy (M.1 (x1 + 7 + i)) (M.1 (x0 + 7 + i)) 0 0 6)) (by omega)
    refine ⟨M', e_B_copyFrom_141 h0 h1 ?_, (fr.refl.si (fun k => by omega)).trans a2, fun k hk => ?_, fun k hk1 hk2 c hc => ?_⟩
    · rw [if_pos ((n_lt (by omega) (by omega)).mpr (by omega)), if_pos ((n_zin (by omega)).mpr (by omega)), n_clamp (by omega), if_pos (by omega), zLr, n_add1]
      exact a1
    · rw [a3 k (by omega), m_si, if_neg (by omega)]
    · by_cases e : k = i
      · rw [a3 k (by omega), m_si, if_pos (by omega), cpy0, if_pos hc, e]
      · rw [a4 k (by omega) hk2 c hc, m_si, if_neg (by omega)]
theorem cpA_r {x0 x1 : Nat} (hne : x0 + 18 < x1 ∨ x1 + 18 < x0) (M : ZM) : ((cpA x0 x1 M).1 x0 0 = M.1 x1 0 ∧ (cpA x0 x1 M).1 x0 1 = M.1 x1 1 ∧ (cpA x0 x1 M).1 x0 2 = M.1 x1 2) ∧ (∀ a k, a ≠ x0 → (cpA x0 x1 M).1 a k = M.1 a k) ∧ (cpA x0 x1 M).2 = M.2 := by
  unfold cpA
  refine ⟨⟨?_, ?_, ?_⟩, fun a k h => ?_, rfl⟩
  · simp (disch := omega) only [m_pi, m_six, m_pl, m_slx, m_pi2, m_si2, m_pl1, m_sl1, if_pos, if_neg, cpy0, if_true, and_self]
  · simp (disch := omega) only [m_pi, m_six, m_pl, m_slx, m_pi2, m_si2, m_pl1, m_sl1, if_pos, if_neg, cpy0, if_true, and_self]
  · simp (disch := omega) only [m_pi, m_six, m_pl, m_slx, m_pi2, m_si2, m_pl1, m_sl1, if_pos, if_neg, cpy0, if_true, and_self]
  · simp (disch := omega) only [m_pi, m_six, m_pl, m_slx, m_pi2, m_si2, m_pl1, m_sl1, if_pos, if_neg, cpy0, if_true, and_self]
theorem cpB_r {x0 x1 : Nat} (hne : x0 + 18 < x1 ∨ x1 + 18 < x0) (M : ZM) : ((cpB x0 x1 M).1 x0 3 = M.1 x1 3 ∧ (cpB x0 x1 M).2 x0 4 = M.2 x1 4 ∧ (cpB x0 x1 M).2 x0 5 = M.2 x1 5) ∧ (∀ a k, ¬ (a = x0 ∧ 3 ≤ k) → (cpB x0 x1 M).1 a k = M.1 a k) ∧ ∀ a k, a ≠ x0 → (cpB x0 x1 M).2 a k = M.2 a k := by
  unfold cpB
  refine ⟨⟨?_, ?_, ?_⟩, fun a k h => ?_, fun a k h => ?_⟩
  · simp (disch := omega) only [m_pi, m_six, m_pl, m_slx, m_pi2, m_si2, m_pl1, m_sl1, if_pos, if_neg, cpy0, if_true, and_self]
  · simp (disch := omega) only [m_pi, m_six, m_pl, m_slx, m_pi2, m_si2, m_pl1, m_sl1, if_pos, if_neg, cpy0, if_true, and_self]
  · simp (disch := omega) only [m_pi, m_six, m_pl, m_slx, m_pi2, m_si2, m_pl1, m_sl1, if_pos, if_neg, cpy0, if_true, and_self]
  · simp (disch := omega) only [m_pi, m_six, m_pl, m_slx, m_pi2, m_si2, m_pl1, m_sl1, if_pos, if_neg, cpy0, if_true, and_self]
  · simp (disch := omega) only [m_pi, m_six, m_pl, m_slx, m_pi2, m_si2, m_pl1, m_sl1, if_pos, if_neg, cpy0, if_true, and_self]
theorem cpC_r {x0 x1 : Nat} (hne : x0 + 18 < x1 ∨ x1 + 18 < x0) (M : ZM) : ((cpC x0 x1 M).2 x0 6 = M.2 x1 6 ∧ (cpC x0 x1 M).1 x0 7 = M.1 x1 7 ∧ ∀ c, c < 36 → (cpC x0 x1 M).1 (x0 + 1) c = M.1 (x1 + 1) c) ∧ (∀ a k, ¬ (a = x0 ∧ 7 ≤ k) → a ≠ x0 + 1 → (cpC x0 x1 M).1 a k = M.1 a k) ∧ ∀ a k, ¬ (a = x0 ∧ 6 ≤ k) → (cpC x0 x1 M).2 a k = M.2 a k := by
  unfold cpC
  refine ⟨⟨?_, ?_, fun c hc => ?_⟩, fun a k h h2 => ?_, fun a k h => ?_⟩
  · simp (disch := omega) only [m_pi, m_six, m_pl, m_slx, m_pi2, m_si2, m_pl1, m_sl1, if_pos, if_neg, cpy0, if_true, and_self]
  · simp (disch := omega) only [m_pi, m_six, m_pl, m_slx, m_pi2, m_si2, m_pl1, m_sl1, if_pos, if_neg, cpy0, if_true, and_self]
  · simp (disch := omega) only [m_pi, m_six, m_pl, m_slx, m_pi2, m_si2, m_pl1, m_sl1, if_pos, if_neg, cpy0, if_true, and_self]
  · simp (disch := omega) only [m_pi, m_six, m_pl, m_slx, m_pi2, m_si2, m_pl1, m_sl1, if_pos, if_neg, cpy0, if_true, and_self]
  · simp (disch := omega) only [m_pi, m_six, m_pl, m_slx, m_pi2, m_si2, m_pl1, m_sl1, if_pos, if_neg, cpy0, if_true, and_self]
theorem cpD_r {x0 x1 : Nat} (hne : x0 + 18 < x1 ∨ x1 + 18 < x0) (M : ZM) : (∀ c, c < 12 → (cpD x0 x1 M).1 (x0 + 2) c = M.1 (x1 + 2) c ∧ (cpD x0 x1 M).1 (x0 + 3) c = M.1 (x1 + 3) c) ∧ (∀ a k, a ≠ x0 + 2 → a ≠ x0 + 3 → (cpD x0 x1 M).1 a k = M.1 a k) ∧ (cpD x0 x1 M).2 = M.2 := by
  unfold cpD
  refine ⟨fun c hc => ⟨?_, ?_⟩, fun a k h h2 => ?_, rfl⟩
  · simp (disch := omega) only [m_pi, m_six, m_pl, m_slx, m_pi2, m_si2, m_pl1, m_sl1, if_pos, if_neg, cpy0, if_true, and_self]
  · simp (disch := omega) only [m_pi, m_six, m_pl, m_slx, m_pi2, m_si2, m_pl1, m_sl1, if_pos, if_neg, cpy0, if_true, and_self]
  · simp (disch := omega) only [m_pi, m_six, m_pl, m_slx, m_pi2, m_si2, m_pl1, m_sl1, if_pos, if_neg, cpy0, if_true, and_self]
theorem cpE_r {x0 x1 : Nat} (hne : x0 + 18 < x1 ∨ x1 + 18 < x0) (M : ZM) : (∀ c, c < 12 → (cpE x0 x1 M).1 (x0 + 4) c = M.1 (x1 + 4) c ∧ (cpE x0 x1 M).2 (x0 + 5) c = M.2 (x1 + 5) c) ∧ (∀ a k, a ≠ x0 + 4 → (cpE x0 x1 M).1 a k = M.1 a k) ∧ ∀ a k, a ≠ x0 + 5 → (cpE x0 x1 M).2 a k = M.2 a k := by
  unfold cpE
  refine ⟨fun c hc => ⟨?_, ?_⟩, fun a k h => ?_, fun a k h => ?_⟩
  · simp (disch := omega) only [m_pi, m_six, m_pl, m_slx, m_pi2, m_si2, m_pl1, m_sl1, if_pos, if_neg, cpy0, if_true, and_self]
  · simp (disch := omega) only [m_pi, m_six, m_pl, m_slx, m_pi2, m_si2, m_pl1, m_sl1, if_pos, if_neg, cpy0, if_true, and_self]
  · simp (disch := omega) only [m_pi, m_six, m_pl, m_slx, m_pi2, m_si2, m_pl1, m_sl1, if_pos, if_neg, cpy0, if_true, and_self]
  · simp (disch := omega) only [m_pi, m_six, m_pl, m_slx, m_pi2, m_si2, m_pl1, m_sl1, if_pos, if_neg, cpy0, if_true, and_self]
theorem q_copyFrom_m {x0 x1 : Nat} (h0 : zkd x0 = (10, 0)) (h1 : zkd x1 = (10, 0)) (hne : x0 + 18 < x1 ∨ x1 + 18 < x0) : ∃ M1, fr (pBd x0) (pBd x0) M M1 ∧ CpR x0 x1 M M1 ∧ (∀ k, k < 12 → M1.1 (x0 + 7 + k) = M.1 (x0 + 7 + k)) ∧ ∀ r, h_B_copyFrom_141 d x0 x1 (nI 0) M1 = some r → zEv (d + 1) zmB_copyFrom [.ref x0, .ref x1] M = some r := by
  obtain ⟨⟨a0, a1, a2⟩, aI, aJ⟩ := cpA_r hne M
  obtain ⟨⟨b3, b4, b5⟩, bI, bJ⟩ := cpB_r hne (cpA x0 x1 M)
  obtain ⟨⟨c6, c7, c1⟩, cI, cJ⟩ := cpC_r hne (cpB x0 x1 (cpA x0 x1 M))
  obtain ⟨d2, dI, dJ⟩ := cpD_r hne (cpC x0 x1 (cpB x0 x1 (cpA x0 x1 M)))
  obtain ⟨e4, eI, eJ⟩ := cpE_r hne (cpD x0 x1 (cpC x0 x1 (cpB x0 x1 (cpA x0 x1 M))))
  refine ⟨cpE x0 x1 (cpD x0 x1 (cpC x0 x1 (cpB x0 x1 (cpA x0 x1 M)))), ⟨fun a k h => ?_, fun a k h => ?_⟩, ⟨⟨⟨?_, ?_⟩, ?_, ?_⟩, ⟨⟨?_, ?_⟩, ?_, ?_⟩, fun c hc => ?_, fun k hk => ⟨⟨?_, ?_⟩, ?_, ?_⟩⟩, fun k hk => funext fun c => ?_, fun r hr => e_B_copyFrom h0 h1 ?_⟩
  · unfold pBd at h
    rw [eI _ _ (by omega), dI _ _ (by omega) (by omega), cI _ _ (by omega) (by omega), bI _ _ (by omega), aI _ _ (by omega)]
  · unfold pBd at h
    rw [eJ _ _ (by omega), dJ, cJ _ _ (by omega), bJ _ _ (by omega), aJ]
  · rw [eI _ _ (by omega), dI _ _ (by omega) (by omega), cI _ _ (by omega) (by omega), bI _ _ (by omega), a0]
  · rw [eI _ _ (by omega), dI _ _ (by omega) (by omega), cI _ _ (by omega) (by omega), bI _ _ (by omega), a1]
  · rw [eI _ _ (by omega), dI _ _ (by omega) (by omega), cI _ _ (by omega) (by omega), bI _ _ (by omega), a2]
  · rw [eI _ _ (by omega), dI _ _ (by omega) (by omega), cI _ _ (by omega) (by omega), b3, aI _ _ (by omega)]
  · rw [eJ _ _ (by omega), dJ, cJ _ _ (by omega), b4, aJ]
  · rw [eJ _ _ (by omega), dJ, cJ _ _ (by omega), b5, aJ]
  · rw [eJ _ _ (by omega), dJ, c6, bJ _ _ (by omega), aJ]
  · rw [eI _ _ (by omega), dI _ _ (by omega) (by omega), c7, bI _ _ (by omega), aI _ _ (by omega)]
  · rw [eI _ _ (by omega), dI _ _ (by omega) (by omega), c1 c hc, bI _ _ (by omega), aI _ _ (by omega)]
  · rw [eI _ _ (by omega), (d2 k hk).1, cI _ _ (by omega) (by omega), bI _ _ (by omega), aI _ _ (by omega)]
  · rw [eI _ _ (by omega), (d2 k hk).2, cI _ _ (by omega) (by omega), bI _ _ (by omega), aI _ _ (by omega)]
  · rw [(e4 k hk).1, dI _ _ (by omega) (by omega), cI _ _ (by omega) (by omega), bI _ _ (by omega), aI _ _ (by omega)]
  · rw [(e4 k hk).2, dJ, cJ _ _ (by omega), bJ _ _ (by omega), aJ]
  · rw [eI _ _ (by omega), dI _ _ (by omega) (by omega), cI _ _ (by omega) (by omega), bI _ _ (by omega), aI _ _ (by omega)]
  · rw [zLr, zLr, if_pos (by omega), zLr, if_pos (by omega), if_pos (by omega), zLr, if_pos (by omega), if_pos (by omega), zLr]
    exact hr
theorem q_copyFrom {x0 x1 : Nat} (h0 : zkd x0 = (10, 0)) (h1 : zkd x1 = (10, 0)) (hne : x0 + 18 < x1 ∨ x1 + 18 < x0) (hB : BRep b x1 M) (hW : Wf b) : ∃ M', zEv (d + 1) zmB_copyFrom [.ref x0, .ref x1] M = some (none, M') ∧ BRep b x0 M' ∧ fr (pBd x0) (pBd x0) M M' := by
  have h12 := hW.1.2.2.2
  obtain ⟨M1, f1, c1, n1, k1⟩ := q_copyFrom_m (d := d) (M := M) h0 h1 hne
  obtain ⟨M2, a1, a2, a3, a4⟩ := q_copy_l (d := d) h0 h1 hne 12 0 M1 (by omega)
  have e1 : ∀ a k, x0 ≤ a → a ≤ x0 + 6 → M2.1 a k = M1.1 a k := fun a k z1 z2 => a2.1 a k (by omega)
  have e2 : ∀ a k, M2.2 a k = M1.2 a k := fun a k => a2.2 a k (fun z => z)
  have e7 : ∀ k, k < 12 → M1.1 (x1 + 7 + k) = M.1 (x1 + 7 + k) := fun k hk => funext fun c => f1.1 _ _ (fun z => by have := z.1; have := z.2; omega)
  refine ⟨M2, k1 _ a1, ?_, f1.trans (a2.mono (fun a k z => ⟨by omega, by omega⟩) (fun _ _ z => z.elim))⟩
  unfold BRep
  rw [e1 x0 0 (by omega) (by omega), e1 x0 1 (by omega) (by omega), e1 x0 2 (by omega) (by omega), e1 x0 3 (by omega) (by omega), e1 x0 7 (by omega) (by omega), e2 x0 4, e2 x0 5, e2 x0 6, c1.1.1.1, c1.1.1.2, c1.1.2.1, c1.1.2.2, c1.2.1.1.1, c1.2.1.1.2, c1.2.1.2.1, c1.2.1.2.2]
  refine ⟨hB.1, hB.2.1, fun c hc => ?_, fun k hk => ?_⟩
  · rw [e1 (x0 + 1) c (by omega) (by omega), c1.2.2.1 c hc]
    exact hB.2.2.1 c hc
  · obtain ⟨g1, g2⟩ := c1.2.2.2 k (by omega)
    rw [e1 (x0 + 2) k (by omega) (by omega), e1 (x0 + 3) k (by omega) (by omega), e1 (x0 + 4) k (by omega) (by omega), e2 (x0 + 5) k, g1.1, g1.2, g2.1, g2.2]
    refine ⟨(hB.2.2.2 k hk).1, fun i hi => ?_⟩
    have h6 := cgN_le hW hk
    rw [a4 k (Nat.zero_le _) (by omega) i (by omega), e7 k (by omega)]
    exact (hB.2.2.2 k hk).2 i hi
theorem msk_set {p p' : Nat → Bool} {c : Nat} (hc : c < 36) (h : ∀ x, x < 36 → x ≠ c → p' x = p x) (h1 : p' c = true) : msk 36 p' = msk 36 p ||| 2 ^ c := by
  apply Nat.eq_of_testBit_eq
  intro i
  rw [Nat.testBit_or, msk_bit, msk_bit, Nat.testBit_two_pow]
  by_cases e : c = i
  · subst e
    rw [h1, decide_eq_true hc, decide_eq_true rfl, Bool.or_true]
    rfl
  · rw [decide_eq_false e, Bool.or_false]
    by_cases hi : i < 36
    · rw [h i hi (fun z => e z.symm)]
    · rw [decide_eq_false hi]; rfl
theorem msk_clr {p p' : Nat → Bool} {c : Nat} (h : ∀ x, x < 36 → x ≠ c → p' x = p x) (h1 : p' c = false) : msk 36 p' = msk 36 p ^^^ (msk 36 p &&& 2 ^ c) := by
  apply Nat.eq_of_testBit_eq
  intro i
  rw [Nat.testBit_xor, Nat.testBit_and, msk_bit, msk_bit, Nat.testBit_two_pow]
  by_cases e : c = i
  · subst e
    rw [h1, decide_eq_true rfl, Bool.and_false, Bool.and_true, Bool.xor_self]
  · rw [decide_eq_false e, Bool.and_false, Bool.xor_false]
    by_cases hi : i < 36
    · rw [h i hi (fun z => e z.symm)]
    · rw [decide_eq_false hi]; rfl
theorem l_one {c : Nat} (hc : c < 36) : nJ 1 <<< (Int32.toInt64 (nI c) &&& 63) = nJ (2 ^ c) := by
  rw [l_shl (by omega), Nat.shiftLeft_eq, Nat.one_mul]
theorem n_one {c : Nat} (hc : c < 32) : nI 1 <<< (nI c &&& 31) = nI (2 ^ c) := by
  rw [n_shl hc, Nat.shiftLeft_eq, Nat.one_mul]
theorem BRep.cell {b b' : Nat → Nat} {q c : Nat} {M M' : ZM} (h : BRep b q M) (hN : b 0 * b 1 ≤ 36) (h12 : b 3 ≤ 12) (hc : c < 36) (hne : ∀ k, k ≠ 40 + c → k ≠ 76 + c → k ≠ 112 + c → b' k = b k) (hM1 : ∀ a k, q ≤ a → a ≤ q + 18 → ¬ (a = q + 1 ∧ k = c) → M'.1 a k = M.1 a k) (hM2 : ∀ a k, q ≤ a → a ≤ q + 18 → ¬ (a = q ∧ (k = 5 ∨ k = 6)) → M'.2 a k = M.2 a k) (hm : M'.1 (q + 1) c = nI (b' (112 + c))) (h5 : M'.2 q 5 = nJ (gM b')) (h6 : M'.2 q 6 = nJ (pM b')) : BRep b' q M' := by
  have eO : isO b' = isO b := funext fun x => by
    unfold isO
    rw [hne 0 (by omega) (by omega) (by omega), hne 1 (by omega) (by omega) (by omega)]
    by_cases hx : x < b 0 * b 1
    · rw [hne (4 + x) (by omega) (by omega) (by omega)]
    · rw [decide_eq_false hx, Bool.false_and, Bool.false_and]
  have eN : ∀ k, cgN b' k = cgN b k := fun k => hne _ (by omega) (by omega) (by omega)
  have eC : ∀ k i, cgC b' k i = cgC b k i := fun k i => hne _ (by omega) (by omega) (by omega)
  have eI : ∀ k, iM b' k = iM b k := fun k => by
    unfold iM
    congr 1
    funext x
    unfold inC plc
    rw [eN]
    congr 2
    funext i
    rw [eC]
  have eA : aM b' = aM b := by
    unfold aM
    rw [hne 3 (by omega) (by omega) (by omega)]
    congr 1
    funext k
    unfold cgU
    rw [hne (150 + 10 * k) (by omega) (by omega) (by omega)]
  have eOM : oM b' = oM b := by unfold oM; rw [eO]
  unfold BRep
  rw [hne 0 (by omega) (by omega) (by omega), hne 1 (by omega) (by omega) (by omega), hne 2 (by omega) (by omega) (by omega), hne 3 (by omega) (by omega) (by omega), eOM, eA, h5, h6, hM1 q 0 (by omega) (by omega) (by omega), hM1 q 1 (by omega) (by omega) (by omega), hM1 q 2 (by omega) (by omega) (by omega), hM1 q 3 (by omega) (by omega) (by omega), hM1 q 7 (by omega) (by omega) (by omega), hM2 q 4 (by omega) (by omega) (by omega)]
  refine ⟨h.1, ⟨⟨h.2.1.1.1, rfl⟩, rfl, h.2.1.2.2⟩, fun x hx => ?_, fun k hk => ?_⟩
  · by_cases e : x = c
    · rw [e]; exact hm
    · rw [hM1 (q + 1) x (by omega) (by omega) (fun z => e z.2), hne (112 + x) (by omega) (by omega) (by omega)]
      exact h.2.2.1 x hx
  · rw [hM1 (q + 2) k (by omega) (by omega) (by omega), hM1 (q + 3) k (by omega) (by omega) (by omega), hM1 (q + 4) k (by omega) (by omega) (by omega), hM2 (q + 5) k (by omega) (by omega) (by omega), hne (148 + 10 * k) (by omega) (by omega) (by omega), hne (149 + 10 * k) (by omega) (by omega) (by omega), eN, eI]
    refine ⟨(h.2.2.2 k hk).1, fun i hi => ?_⟩
    rw [hM1 (q + 7 + k) i (by omega) (by omega) (by omega), eC]
    exact (h.2.2.2 k hk).2 i hi
theorem oI_c {c : Nat} (hW : Wk b) (hO : isO b c = true) : oI b (nI c) = true := by
  have hc := isO_cell hO
  have := hW.n36
  unfold oI
  rw [iI_n (by omega), decide_eq_true hc, n_toInt (by omega), Int.toNat_natCast, hO]
  rfl
theorem iD_c {x t : Nat} (h1 : 1 ≤ x) (h2 : x ≤ t) (ht : t < 100) : iD (nI x) t = true := by
  unfold iD
  rw [n_toInt (by omega), decide_eq_true (by omega), decide_eq_true (by omega)]
  rfl
theorem q_putDigit (hq : zkd q = (10, 0)) (hB : BRep b q M) (hW : Wk b) {c x : Nat} (hO : isO b c = true) (hG : b (76 + c) ≠ 1) (h1 : 1 ≤ x) (h2 : x ≤ b 2) : ∃ M', zEv (d + 3) zmB_putDigit [.ref q, .int (nI c), .int (nI x)] M = some (none, M') ∧ BRep (putR b c x) q M' ∧ fr (pBd q) (pBd q) M M' := by
  have hc := isO_lt2 hW hO
  have h27 := hW.1.2.2.1
  have e112 : putR b c x (112 + c) = 2 ^ x := if_pos rfl
  have e40 : putR b c x (40 + c) = x := by unfold putR; rw [if_neg (by omega), if_pos rfl]
  have e76 : ∀ y, y < 36 → putR b c x (76 + y) = b (76 + y) := fun y hy => putR_ne (by omega) (by omega)
  refine ⟨zpi (zpl M q 6 (nJ (pM b ||| 2 ^ c))) (q + 1) c (nI (2 ^ x)), e_B_putDigit hq ?_, hB.cell hW.n36 hW.1.2.2.2 hc (fun k h1 h2 h3 => putR_ne h3 h1) (fun a k z1 z2 z3 => by rw [m_pi, if_neg z3]; rfl) (fun a k z1 z2 z3 => by rw [m_pi2, m_pl, if_neg (by omega)]) (by rw [m_pi, if_pos ⟨rfl, rfl⟩, e112]) ?_ ?_, (fr.refl.pl ⟨by omega, by omega⟩).pi ⟨by omega, by omega⟩⟩
  · rw [q_isOpen (d := d) hq hB.sc hW, zC1_some, oI_c hW hO, if_neg (by decide), q_isDigit (d := d + 1) hq hB.sc hW, zC1_some, iD_c h1 h2 (by omega), if_neg (by decide), if_pos ((n_zin (by omega)).mpr hc), n_clamp (by omega), hB.2.1.2.1, l_one hc, l_or, n_one (by omega)]
  · rw [m_pi2, m_pl, if_neg (by omega), hB.2.1.1.2]
    congr 1
    unfold gM
    exact msk_congr fun y hy => by rw [e76 y hy]
  · rw [m_pi2, m_pl, if_pos ⟨rfl, rfl⟩]
    congr 1
    unfold pM
    refine (msk_set hc (fun y hy hyc => ?_) ?_).symm
    · rw [e76 y hy, putR_ne (by omega) (by omega)]
    · rw [e76 c hc, e40, decide_eq_true (show 0 < x by omega), decide_eq_true hG]
      rfl
theorem q_giveDigit (hq : zkd q = (10, 0)) (hB : BRep b q M) (hW : Wk b) {c x : Nat} (hO : isO b c = true) (h1 : 1 ≤ x) (h2 : x ≤ b 2) : ∃ M', zEv (d + 3) zmB_giveDigit [.ref q, .int (nI c), .int (nI x)] M = some (none, M') ∧ BRep (givR b c x) q M' ∧ fr (pBd q) (pBd q) M M' := by
  have hc := isO_lt2 hW hO
  have h27 := hW.1.2.2.1
  have e112 : givR b c x (112 + c) = 2 ^ x := by unfold givR; rw [if_neg (by omega)]; exact if_pos rfl
  have e76c : givR b c x (76 + c) = 1 := if_pos rfl
  have ene : ∀ k, k ≠ 40 + c → k ≠ 76 + c → k ≠ 112 + c → givR b c x k = b k := fun k h1 h2 h3 => by unfold givR; rw [if_neg h2]; exact putR_ne h3 h1
  refine ⟨zpi (zpl (zpl M q 5 (nJ (gM b ||| 2 ^ c))) q 6 (nJ (pM b ^^^ (pM b &&& 2 ^ c)))) (q + 1) c (nI (2 ^ x)), e_B_giveDigit hq ?_, hB.cell hW.n36 hW.1.2.2.2 hc ene (fun a k z1 z2 z3 => by rw [m_pi, if_neg z3]; rfl) (fun a k z1 z2 z3 => by rw [m_pi2, m_pl, if_neg (by omega), m_pl, if_neg (by omega)]) (by rw [m_pi, if_pos ⟨rfl, rfl⟩, e112]) ?_ ?_, ((fr.refl.pl ⟨by omega, by omega⟩).pl ⟨by omega, by omega⟩).pi ⟨by omega, by omega⟩⟩
  · rw [q_isOpen (d := d) hq hB.sc hW, zC1_some, oI_c hW hO, if_neg (by decide), q_isDigit (d := d + 1) hq hB.sc hW, zC1_some, iD_c h1 h2 (by omega), if_neg (by decide), zLr, if_pos ((n_zin (by omega)).mpr hc), n_clamp (by omega), hB.2.1.1.2, l_one hc, l_or, m_pl, if_neg (by omega), hB.2.1.2.1, l_clr, n_one (by omega)]
  · rw [m_pi2, m_pl, if_neg (by omega), m_pl, if_pos ⟨rfl, rfl⟩]
    congr 1
    unfold gM
    refine (msk_set hc (fun y hy hyc => ?_) ?_).symm
    · rw [ene (76 + y) (by omega) (by omega) (by omega)]
    · exact decide_eq_true e76c
  · rw [m_pi2, m_pl, if_pos ⟨rfl, rfl⟩]
    congr 1
    unfold pM
    refine (msk_clr (fun y hy hyc => ?_) ?_).symm
    · rw [ene (76 + y) (by omega) (by omega) (by omega), ene (40 + y) (by omega) (by omega) (by omega)]
    · rw [e76c, decide_eq_false (show ¬ (1 : Nat) ≠ 1 by omega), Bool.and_false]
theorem q_free (hq : zkd q = (10, 0)) (hB : BRep b q M) (hW : Wk b) {c : Nat} (hO : isO b c = true) : ∃ M', zEv (d + 3) zmB_free [.ref q, .int (nI c)] M = some (none, M') ∧ BRep (lftR b c) q M' ∧ fr (pBd q) (pBd q) M M' := by
  have hc := isO_lt2 hW hO
  have h27 := hW.1.2.2.1
  have e112 : lftR b c (112 + c) = allM b := if_pos rfl
  have e40 : lftR b c (40 + c) = 0 := by unfold lftR; rw [if_neg (by omega), if_pos rfl]
  have ene : ∀ k, k ≠ 40 + c → k ≠ 112 + c → lftR b c k = b k := fun k h1 h3 => by unfold lftR; rw [if_neg h3, if_neg h1]
  refine ⟨zpi (zpl M q 6 (nJ (pM b ^^^ (pM b &&& 2 ^ c)))) (q + 1) c (nI (allM b)), e_B_free hq ?_, hB.cell hW.n36 hW.1.2.2.2 hc (fun k h1 h2 h3 => ene k h1 h3) (fun a k z1 z2 z3 => by rw [m_pi, if_neg z3]; rfl) (fun a k z1 z2 z3 => by rw [m_pi2, m_pl, if_neg (by omega)]) (by rw [m_pi, if_pos ⟨rfl, rfl⟩, e112]) ?_ ?_, (fr.refl.pl ⟨by omega, by omega⟩).pi ⟨by omega, by omega⟩⟩
  · rw [q_isOpen (d := d) hq hB.sc hW, zC1_some, oI_c hW hO, if_neg (by decide), hB.2.1.2.1, l_one hc, l_clr, q_allDigits (d := d + 1) (b := b) hq (by rw [m_pl1]; exact hB.1.2.1) hW, zC1_some, if_pos ((n_zin (by omega)).mpr hc), n_clamp (by omega)]
  · rw [m_pi2, m_pl, if_neg (by omega), hB.2.1.1.2]
    congr 1
    unfold gM
    exact msk_congr fun y hy => by rw [ene (76 + y) (by omega) (by omega)]
  · rw [m_pi2, m_pl, if_pos ⟨rfl, rfl⟩]
    congr 1
    unfold pM
    refine (msk_clr (fun y hy hyc => ?_) ?_).symm
    · rw [ene (76 + y) (by omega) (by omega), ene (40 + y) (by omega) (by omega)]
    · rw [e40]; rfl
end QC
