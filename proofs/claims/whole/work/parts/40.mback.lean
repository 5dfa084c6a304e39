/-! THE MODEL, 29: keep, back -/
def pK : Nat → Nat → Prop := fun a _ => a = 869 ∨ a = 870
/-- the two kept boards -/
def KR (K : Nat → Option (Nat → Nat)) (M : ZM) : Prop := ∀ i, i < 2 → M.1 870 i = nB (K i).isSome ∧ ∀ r, K i = some r → ∀ k, k < 268 → M.1 869 (268 * i + k) = nI (r k)
def putK (K : Nat → Option (Nat → Nat)) (i : Nat) (r : Nat → Nat) : Nat → Option (Nat → Nat) := fun j => if j = i then some r else K j
theorem KR.fr {K : Nat → Option (Nat → Nat)} {p q : Nat → Nat → Prop} {M M' : ZM} (h : KR K M) (hf : fr p q M M') (hp : ∀ a k, p a k → a ≠ 869 ∧ a ≠ 870) : KR K M' := fun i hi => ⟨(hf.1 870 i (fun z => (hp _ _ z).2 rfl)).trans (h i hi).1, fun r hr k hk => (hf.1 869 _ (fun z => (hp _ _ z).1 rfl)).trans ((h i hi).2 r hr k hk)⟩
section MB5
variable {d : Nat} {M : ZM} {b : Nat → Nat}
theorem s_keep_l (hW : Wf b) {i : Nat} (hi : i < 2) : ∀ j k (M : ZM), k + j = 268 → MR b M → ∃ M', h_M_keep_14 (d + 1) (nI i) (nI k) M = some (some (.int (nI (b 3))), M') ∧ frI pK M M' ∧ (∀ x, k ≤ x → x < 268 → M'.1 869 (268 * i + x) = M.1 867 x) ∧ (∀ y, (y < 268 * i + k ∨ 268 * i + 268 ≤ y) → M'.1 869 y = M.1 869 y) ∧ M'.1 870 i = nI 1 ∧ ∀ y, y ≠ i → M'.1 870 y = M.1 870 y := by
  intro j
  induction j with
  | zero =>
    intro k M h hR
    have r1 : MR b (zpi M 870 i (nI 1)) := fun x hx => by rw [m_pi, if_neg (by omega)]; exact hR x hx
    refine ⟨zpi M 870 i (nI 1), e_M_keep_14 ?_, fr.refl.pi (Or.inr rfl), fun x h1 h3 => by omega, fun y _ => ?_, ?_, fun y hy => ?_⟩
    · have e1 : vp_nar .boolean (nI 1) = nI 1 := by decide
      rw [if_neg (by rw [n_lt (by omega) (by omega)]; omega), if_pos ((n_zin (by omega)).mpr hi), n_clamp (by omega), e1, s_cages r1, zC1_some]
    · rw [m_pi, if_neg (by omega)]
    · rw [m_pi, if_pos ⟨rfl, rfl⟩]
    · rw [m_pi, if_neg (fun z => hy z.2)]
  | succ j ih =>
    intro k M h hR
    have r1 : MR b (zpi M 869 (268 * i + k) (M.1 867 k)) := fun x hx => by rw [m_pi, if_neg (by omega)]; exact hR x hx
    obtain ⟨M', a1, a2, a3, a4, a5, a6⟩ := ih (k + 1) _ (by omega) r1
    refine ⟨M', e_M_keep_14 ?_, (fr.refl.pi (show pK 869 (268 * i + k) from Or.inl rfl)).trans a2, fun x h1 h3 => ?_, fun y hy => ?_, a5, fun y hy => ?_⟩
    · simp only [n_lt (show k < 2147483648 by omega) (show 268 < 2147483648 by omega), n_zin (show k < 2147483648 by omega), n_clamp (show k < 2147483648 by omega), n_mul, n_add, n_zin (show 268 * i + k < 2147483648 by omega), n_clamp (show 268 * i + k < 2147483648 by omega), a1]
      rw [if_pos (by omega), if_pos (by omega), if_pos (by omega)]
    · by_cases e : x = k
      · rw [e, a4 _ (by omega), m_pi, if_pos ⟨rfl, rfl⟩]
      · rw [a3 x (by omega) h3, m_pi, if_neg (by omega)]
    · rw [a4 y (by omega), m_pi, if_neg (by omega)]
    · rw [a6 y hy, m_pi, if_neg (by omega)]
theorem s_keep_no {x : Int32} (hx : iI x 2 = false) : zEv (d + 2) zmM_keep [.ref 866, .int x] M = some (some (.int (-1)), M) := by
  refine e_M_keep ?_
  rw [s_inI x (show 1 < 2147483648 by omega), zC1_some, hx, if_pos (show nB false = nI 0 from rfl)]
theorem s_keep (hR : MR b M) (hW : Wf b) {K : Nat → Option (Nat → Nat)} (hK : KR K M) {i : Nat} (hi : i < 2) : ∃ M', zEv (d + 2) zmM_keep [.ref 866, .int (nI i)] M = some (some (.int (nI (b 3))), M') ∧ KR (putK K i b) M' ∧ frI pK M M' := by
  obtain ⟨M', a1, a2, a3, a4, a5, a6⟩ := s_keep_l (d := d) hW hi 268 0 M (by omega) hR
  refine ⟨M', e_M_keep ?_, fun y hy => ?_, a2⟩
  · rw [s_inI (nI i) (show 1 < 2147483648 by omega), zC1_some, iI_n (by omega), decide_eq_true hi, if_neg (by decide)]
    exact a1
  · unfold putK
    by_cases e : y = i
    · rw [if_pos e, e]
      refine ⟨a5, fun r hr k hk => ?_⟩
      cases hr
      rw [a3 k (by omega) hk]
      exact hR k hk
    · rw [if_neg e]
      refine ⟨(a6 y e).trans (hK y hy).1, fun r hr k hk => ?_⟩
      rw [a4 _ (by omega)]
      exact (hK y hy).2 r hr k hk
end MB5
section MB6
variable {d : Nat} {M : ZM} {b : Nat → Nat}
theorem s_back_l {i : Nat} (hi : i < 2) {r : Nat → Nat} (hr3 : r 3 < 2147483648) : ∀ j k (M : ZM), k + j = 268 → (∀ x, x < 268 → M.1 869 (268 * i + x) = nI (r x)) → (∀ x, x < k → M.1 867 x = nI (r x)) → ∃ M', h_M_back_26 (d + 1) (nI i) (nI k) M = some (some (.int (nI (r 3))), M') ∧ frI pUR M M' ∧ MR r M' ∧ M'.1 866 2 = nI 0 := by
  intro j
  induction j with
  | zero =>
    intro k M h hK hP
    have hM : MR r (zpi M 866 2 (nI 0)) := fun x hx => by rw [m_pi, if_neg (by omega)]; exact hP x (by omega)
    refine ⟨zpi M 866 2 (nI 0), e_M_back_26 ?_, fr.refl.pi (Or.inl (Or.inr ⟨rfl, rfl⟩)), hM, by rw [m_pi, if_pos ⟨rfl, rfl⟩]⟩
    rw [if_neg (by rw [n_lt (by omega) (by omega)]; omega), s_cages hM, zC1_some]
  | succ j ih =>
    intro k M h hK hP
    obtain ⟨M', a1, a2, a3⟩ := ih (k + 1) (zpi M 867 k (M.1 869 (268 * i + k))) (by omega) (fun x hx => by rw [m_pi, if_neg (by omega)]; exact hK x hx) (fun x hx => by
      rw [m_pi]
      by_cases e : x = k
      · rw [if_pos ⟨rfl, e⟩, e]; exact hK k (by omega)
      · rw [if_neg (fun z => e z.2)]; exact hP x (by omega))
    refine ⟨M', e_M_back_26 ?_, (fr.refl.pi (show pUR 867 k from Or.inr ⟨rfl, by omega⟩)).trans a2, a3⟩
    simp only [n_lt (show k < 2147483648 by omega) (show 268 < 2147483648 by omega), n_zin (show k < 2147483648 by omega), n_clamp (show k < 2147483648 by omega), n_mul, n_add, n_zin (show 268 * i + k < 2147483648 by omega), n_clamp (show 268 * i + k < 2147483648 by omega), a1]
    rw [if_pos (by omega), if_pos (by omega), if_pos (by omega)]
theorem s_back_no {x : Int32} (hx : iI x 2 = false) : zEv (d + 2) zmM_back [.ref 866, .int x] M = some (some (.int (-1)), M) := by
  refine e_M_back ?_
  rw [s_inI x (show 1 < 2147483648 by omega), zC1_some, hx, if_pos (show nB false = nI 0 from rfl)]
theorem s_back_un {K : Nat → Option (Nat → Nat)} (hK : KR K M) {i : Nat} (hi : i < 2) (hn : K i = none) : zEv (d + 2) zmM_back [.ref 866, .int (nI i)] M = some (some (.int (-2)), M) := by
  refine e_M_back ?_
  have h1 := (hK i hi).1
  rw [hn] at h1
  rw [s_inI (nI i) (show 1 < 2147483648 by omega), zC1_some, iI_n (by omega), decide_eq_true hi, if_neg (by decide), if_pos ((n_zin (by omega)).mpr hi), n_clamp (by omega), h1, if_pos (show nB (none : Option (Nat → Nat)).isSome = nI 0 from rfl)]
theorem s_back {K : Nat → Option (Nat → Nat)} (hK : KR K M) {i : Nat} (hi : i < 2) {r : Nat → Nat} (hn : K i = some r) (hr3 : r 3 < 2147483648) : ∃ M', zEv (d + 2) zmM_back [.ref 866, .int (nI i)] M = some (some (.int (nI (r 3))), M') ∧ MR r M' ∧ UR [] M' ∧ frI pUR M M' := by
  obtain ⟨M', a1, a2, a3, a4⟩ := s_back_l (d := d) hi hr3 268 0 M (by omega) ((hK i hi).2 r hn) (fun x hx => absurd hx (Nat.not_lt_zero x))
  refine ⟨M', e_M_back ?_, a3, ⟨⟨a4, by show 0 ≤ 10; omega⟩, fun j hj => absurd hj (Nat.not_lt_zero j)⟩, a2⟩
  have h1 := (hK i hi).1
  rw [hn] at h1
  rw [s_inI (nI i) (show 1 < 2147483648 by omega), zC1_some, iI_n (by omega), decide_eq_true hi, if_neg (by decide), if_pos ((n_zin (by omega)).mpr hi), n_clamp (by omega), h1, if_neg (show ¬ nB (some r).isSome = nI 0 from (by decide : ¬ nB true = nI 0))]
  exact a1
end MB6
