/-! THE MODEL, 24: what is kept for undo -/
def pU : Nat → Nat → Prop := fun a k => a = 868 ∨ (a = 866 ∧ k = 2)
/-- the kept rows, the oldest first -/
def UR (U : List (Nat → Nat)) (M : ZM) : Prop := (M.1 866 2 = nI U.length ∧ U.length ≤ 10) ∧ ∀ i, i < U.length → ∀ k, k < 268 → M.1 868 (268 * i + k) = nI (U.getD i (fun _ => 0) k)
def pushU (U : List (Nat → Nat)) (r : Nat → Nat) : List (Nat → Nat) := (if U.length = 10 then U.tail else U) ++ [r]
theorem UR.fr {U : List (Nat → Nat)} {p q : Nat → Nat → Prop} {M M' : ZM} (h : UR U M) (hf : fr p q M M') (hp : ∀ a k, p a k → a ≠ 868 ∧ ¬ (a = 866 ∧ k = 2)) : UR U M' := by
  refine ⟨⟨(hf.1 866 2 (fun z => (hp _ _ z).2 ⟨rfl, rfl⟩)).trans h.1.1, h.1.2⟩, fun i hi k hk => ?_⟩
  rw [hf.1 868 _ (fun z => (hp _ _ z).1 rfl)]
  exact h.2 i hi k hk
section MK
variable {d : Nat} {M : ZM} {b : Nat → Nat}
theorem s_keepsRow_c {a u : Nat} (hk1 : zkd a = (1, 268)) (ha : a ≠ 868) (hu : u < 10) : ∀ j k (M : ZM), k + j = 268 → M.1 866 2 = nI u → ∃ M', h_M_keepsRow_54 d a (nI k) M = some (none, M') ∧ frI pU M M' ∧ M'.1 866 2 = nI (u + 1) ∧ (∀ x, k ≤ x → x < 268 → M'.1 868 (268 * u + x) = M.1 a x) ∧ ∀ y, y < 268 * u + k → M'.1 868 y = M.1 868 y := by
  intro j
  induction j with
  | zero =>
    intro k M h h2
    refine ⟨zpi M 866 2 (M.1 866 2 + nI 1), ?_, fr.refl.pi (Or.inr ⟨rfl, rfl⟩), ?_, fun x h1 h3 => by omega, fun y _ => ?_⟩
    · refine e_M_keepsRow_54 hk1 ?_
      rw [if_neg (by rw [n_lt (by omega) (by omega)]; omega)]
    · rw [m_pi, if_pos ⟨rfl, rfl⟩, h2, n_add]
    · rw [m_pi, if_neg (by omega)]
  | succ j ih =>
    intro k M h h2
    obtain ⟨M', a1, a2, a3, a4, a5⟩ := ih (k + 1) (zpi M 868 (268 * u + k) (M.1 a k)) (by omega) (by rw [m_pi, if_neg (by omega)]; exact h2)
    refine ⟨M', ?_, (fr.refl.pi (show pU 868 (268 * u + k) from Or.inl rfl)).trans a2, a3, fun x h1 h3 => ?_, fun y hy => ?_⟩
    · refine e_M_keepsRow_54 hk1 ?_
      simp only [n_lt (show k < 2147483648 by omega) (show 268 < 2147483648 by omega), n_zin (show k < 2147483648 by omega), n_clamp (show k < 2147483648 by omega), h2, n_mul, n_add, n_zin (show 268 * u + k < 2147483648 by omega), n_clamp (show 268 * u + k < 2147483648 by omega), a1]
      rw [if_pos (by omega), if_pos (by omega), if_pos (by omega)]
    · by_cases e : x = k
      · rw [e, a5 _ (by omega), m_pi, if_pos ⟨rfl, rfl⟩]
      · rw [a4 x (by omega) h3, m_pi, if_neg (fun z => ha z.1)]
    · rw [a5 y (by omega), m_pi, if_neg (by omega)]
theorem s_keepsRow_s {a : Nat} (hk1 : zkd a = (1, 268)) : ∀ j k (M : ZM), k + j = 2680 → 268 ≤ k → M.1 866 2 = nI 10 → ∃ M', (∀ r, h_M_keepsRow_54 d a (nI 0) M' = some r → h_M_keepsRow_13 d a (nI k) M = some r) ∧ frI pU M M' ∧ M'.1 866 2 = nI 9 ∧ (∀ x, k ≤ x → x < 2680 → M'.1 868 (x - 268) = M.1 868 x) ∧ ∀ y, y < k - 268 → M'.1 868 y = M.1 868 y := by
  intro j
  induction j with
  | zero =>
    intro k M h hk h2
    refine ⟨zpi M 866 2 (M.1 866 2 - nI 1), fun r hr => ?_, fr.refl.pi (Or.inr ⟨rfl, rfl⟩), ?_, fun x h1 h3 => by omega, fun y _ => ?_⟩
    · refine e_M_keepsRow_13 hk1 ?_
      rw [if_neg (by rw [n_lt (by omega) (by omega)]; omega)]
      exact hr
    · rw [m_pi, if_pos ⟨rfl, rfl⟩, h2, n_sub (by omega)]
    · rw [m_pi, if_neg (by omega)]
  | succ j ih =>
    intro k M h hk h2
    obtain ⟨M', a1, a2, a3, a4, a5⟩ := ih (k + 1) (zpi M 868 (k - 268) (M.1 868 k)) (by omega) (by omega) (by rw [m_pi, if_neg (by omega)]; exact h2)
    refine ⟨M', fun r hr => ?_, (fr.refl.pi (show pU 868 (k - 268) from Or.inl rfl)).trans a2, a3, fun x h1 h3 => ?_, fun y hy => ?_⟩
    · have g := a1 r hr
      refine e_M_keepsRow_13 hk1 ?_
      simp only [n_lt (show k < 2147483648 by omega) (show 2680 < 2147483648 by omega), n_zin (show k < 2147483648 by omega), n_clamp (show k < 2147483648 by omega), n_sub hk, n_zin (show k - 268 < 2147483648 by omega), n_clamp (show k - 268 < 2147483648 by omega), n_add1, g]
      rw [if_pos (by omega), if_pos (by omega), if_pos (by omega)]
    · by_cases e : x = k
      · rw [e, a5 _ (by omega), m_pi, if_pos ⟨rfl, rfl⟩]
      · rw [a4 x (by omega) h3, m_pi, if_neg (by omega)]
    · rw [a5 y (Nat.lt_of_lt_of_le hy (Nat.sub_le_sub_right (Nat.le_succ k) 268)), m_pi, if_neg (fun z => Nat.ne_of_lt hy z.2)]
theorem s_keepsRow {a : Nat} (hk1 : zkd a = (1, 268)) (ha : a ≠ 868 ∧ a ≠ 866) {r : Nat → Nat} (hr : ∀ k, k < 268 → M.1 a k = nI (r k)) {U : List (Nat → Nat)} (hU : UR U M) : ∃ M', zEv (d + 1) zmM_keepsRow [.ref 866, .ref a] M = some (none, M') ∧ frI pU M M' ∧ UR (pushU U r) M' := by
  unfold pushU
  by_cases e : U.length = 10
  · have h2 : M.1 866 2 = nI 10 := by rw [hU.1.1, e]
    obtain ⟨M1, a1, a2, a3, a4, a5⟩ := s_keepsRow_s (d := d) (a := a) hk1 2412 268 M (by omega) (by omega) h2
    obtain ⟨M2, b1, b2, b3, b4, b5⟩ := s_keepsRow_c (d := d) hk1 ha.1 (show 9 < 10 by omega) 268 0 M1 (by omega) a3
    have ht : U.tail.length = 9 := by rw [List.length_tail, e]
    rw [if_pos e]
    refine ⟨M2, ?_, a2.trans b2, ⟨⟨?_, ?_⟩, fun i hi k hk => ?_⟩⟩
    · refine e_M_keepsRow hk1 ?_
      rw [h2, if_pos rfl]
      exact a1 _ b1
    · rw [b3, List.length_append, ht]; rfl
    · rw [List.length_append, ht]; show 9 + 1 ≤ 10; omega
    · rw [List.length_append, ht] at hi
      have hi' : i < 10 := hi
      by_cases e9 : i = 9
      · subst e9
        rw [b4 k (by omega) hk, a2.1 a k (fun z => by unfold pU at z; omega), hr k hk, List.getD_eq_getElem?_getD, List.getElem?_append_right (by omega), ht]
        rfl
      · rw [b5 _ (by omega)]
        have g := a4 (268 * (i + 1) + k) (by omega) (by omega)
        rw [show 268 * (i + 1) + k - 268 = 268 * i + k by omega] at g
        rw [g, hU.2 (i + 1) (by omega) k hk, List.getD_eq_getElem?_getD, List.getD_eq_getElem?_getD, List.getElem?_append_left (by omega)]
        cases U with
        | nil => cases e
        | cons x U => rfl
  · have hl : U.length < 10 := by have := hU.1.2; omega
    obtain ⟨M2, b1, b2, b3, b4, b5⟩ := s_keepsRow_c (d := d) hk1 ha.1 hl 268 0 M (by omega) hU.1.1
    rw [if_neg e]
    refine ⟨M2, ?_, b2, ⟨⟨?_, ?_⟩, fun i hi k hk => ?_⟩⟩
    · refine e_M_keepsRow hk1 ?_
      rw [hU.1.1, if_neg (by rw [n_eq (by omega) (by omega)]; exact e)]
      exact b1
    · rw [b3, List.length_append]; rfl
    · rw [List.length_append]; show U.length + 1 ≤ 10; omega
    · rw [List.length_append] at hi
      have hi' : i < U.length + 1 := hi
      by_cases e9 : i = U.length
      · subst e9
        rw [b4 k (by omega) hk, hr k hk, List.getD_eq_getElem?_getD, List.getElem?_append_right (by omega), Nat.sub_self]
        rfl
      · rw [b5 _ (by omega), hU.2 i (by omega) k hk, List.getD_eq_getElem?_getD, List.getD_eq_getElem?_getD, List.getElem?_append_left (by omega)]
theorem s_keepsAct (hR : MR b M) {U : List (Nat → Nat)} (hU : UR U M) : ∃ M', zEv (d + 2) zmM_keepsAct [.ref 866] M = some (none, M') ∧ frI pU M M' ∧ UR (pushU U b) M' ∧ MR b M' := by
  obtain ⟨M', a1, a2, a3⟩ := s_keepsRow (d := d) (a := 867) rfl (by omega) hR hU
  refine ⟨M', e_M_keepsAct ?_, a2, a3, hR.fr a2 fun k _ z => by unfold pU at z; omega⟩
  rw [a1]
  rfl
end MK
