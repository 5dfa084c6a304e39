/-! THE CLASS, 51: digits drawn: what stands where -/
def ulB (b : Nat → Nat) (p a : Nat) : Bool := decide (((cagesM b (opA b p) &&& cagesM b (opA b a)) ^^^ ((cagesM b (opA b p) &&& cagesM b (opA b a)) &&& aM b)) ≠ 0)
theorem ulB_iff {b : Nat → Nat} {p a : Nat} : ulB b p a = true ↔ ∃ k, k < b 3 ∧ cgU b k = true ∧ inC b k (opA b p) = true ∧ inC b k (opA b a) = true := by
  unfold ulB
  rw [decide_eq_true_iff]
  constructor
  · intro h
    obtain ⟨k, hk⟩ := Nat.exists_testBit_of_ne_zero h
    unfold cagesM aM at hk
    rw [Nat.testBit_xor, Nat.testBit_and, Nat.testBit_and, Nat.testBit_and, msk_bit, msk_bit, msk_bit] at hk
    by_cases hk3 : k < b 3
    · rw [decide_eq_true hk3] at hk
      refine ⟨k, hk3, ?_⟩
      revert hk
      cases cgU b k <;> cases inC b k (opA b p) <;> cases inC b k (opA b a) <;> decide
    · exfalso
      rw [decide_eq_false hk3] at hk
      revert hk
      cases cgU b k <;> cases inC b k (opA b p) <;> cases inC b k (opA b a) <;> decide
  · rintro ⟨k, hk, h1, h2, h3⟩ e
    have : ((cagesM b (opA b p) &&& cagesM b (opA b a)) ^^^ ((cagesM b (opA b p) &&& cagesM b (opA b a)) &&& aM b)).testBit k = true := by
      unfold cagesM aM
      rw [Nat.testBit_xor, Nat.testBit_and, Nat.testBit_and, Nat.testBit_and, msk_bit, msk_bit, msk_bit, decide_eq_true hk, h1, h2, h3]
      rfl
    rw [e, Nat.zero_testBit] at this
    cases this
def ulM (b : Nat → Nat) (p : Nat) : Nat := msk p (ulB b p)
def pKp : Nat → Nat → Prop := fun a k => (a = 632 ∧ k = 2) ∨ a = 633 ∨ a = 634
def KPl (b : Nat → Nat) (M : ZM) : Prop := M.1 632 2 = nI (openN b) ∧ ∀ p, p < openN b → M.1 633 p = nI (opA b p) ∧ M.1 634 p = nI (ulM b p)
section QK3
variable {d : Nat} {b : Nat → Nat} {q : Nat}
theorem q_unlike_5 (hq : zkd q = (10, 0)) (hW : Wf b) {M : ZM} (hB : BRep b q M) {p : Nat} (hp : p < openN b) (h2 : M.1 632 2 = nI p) (hC : ∀ a, a < p → M.1 633 a = nI (opA b a)) : ∀ n a, a + n = p → h_K_unlikeAhead_5 (d + 2) q (nI (opA b p)) (nI (msk a (ulB b p))) (nI a) M = some (some (.int (nI (ulM b p))), M) := by
  have h16 := hW.2.2.2.2.1
  obtain ⟨o1, o2⟩ := opA_mem hp
  have hN := isO_cell o2
  intro n
  induction n with
  | zero =>
    intro a h
    refine e_K_unlikeAhead_5 hq ?_
    rw [h2, if_neg (by rw [n_lt (by omega) (by omega)]; omega), show a = p by omega]
    rfl
  | succ n ih =>
    intro a h
    have ha : a < p := by omega
    obtain ⟨a1, a2⟩ := opA_mem (b := b) (p := a) (by omega)
    have hl1 : cagesM b (opA b p) &&& cagesM b (opA b a) < 2 ^ 12 := Nat.lt_of_le_of_lt Nat.and_le_left (Nat.lt_of_lt_of_le (msk_lt (b 3) _) (Nat.pow_le_pow_right (by omega) hW.1.2.2.2))
    have hl2 : (cagesM b (opA b p) &&& cagesM b (opA b a)) ^^^ ((cagesM b (opA b p) &&& cagesM b (opA b a)) &&& aM b) < 2 ^ 12 := Nat.xor_lt_two_pow hl1 (Nat.lt_of_le_of_lt Nat.and_le_left hl1)
    have ih1 := ih (a + 1) (by omega)
    rw [msk_succ] at ih1
    refine e_K_unlikeAhead_5 hq ?_
    rw [h2, if_pos ((n_lt (by omega) (by omega)).mpr ha), q_cagesOf hq hB hW.wk hN, zC1_some, if_pos ((n_zin (by omega)).mpr (by omega)), n_clamp (by omega), hC a ha, q_cagesOf hq hB hW.wk (isO_cell a2), zC1_some, n_and, hB.2.1.2.2, n_clr, n_add1]
    cases hu : ulB b p a with
    | false =>
      rw [hu, cond_false, Nat.or_zero] at ih1
      have : ¬ ((cagesM b (opA b p) &&& cagesM b (opA b a)) ^^^ ((cagesM b (opA b p) &&& cagesM b (opA b a)) &&& aM b)) ≠ 0 := of_decide_eq_false hu
      rw [if_pos ((n_eq (by omega) (by omega)).mpr (by omega))]
      exact ih1
    | true =>
      rw [hu, cond_true] at ih1
      have : ((cagesM b (opA b p) &&& cagesM b (opA b a)) ^^^ ((cagesM b (opA b p) &&& cagesM b (opA b a)) &&& aM b)) ≠ 0 := of_decide_eq_true hu
      rw [if_neg (by rw [n_eq (by omega) (by omega)]; exact this), n_one (by omega), n_or]
      exact ih1
theorem opR_get {b : Nat → Nat} {i p : Nat} (h : i ≤ 36) (hp : p < ((List.range i).filter (isO b)).length) : ((List.range i).filter (isO b)).getD p 0 = opA b p := by
  obtain ⟨n, hn⟩ : ∃ n, 36 = i + n := ⟨36 - i, by omega⟩
  have e : opL b = (List.range i).filter (isO b) ++ ((List.range n).map (i + ·)).filter (isO b) := by
    unfold opL
    rw [hn, List.range_add, List.filter_append]
  unfold opA
  rw [e, List.getD_eq_getElem?_getD, List.getD_eq_getElem?_getD, List.getElem?_append_left hp]
theorem opR_at {b : Nat → Nat} {i : Nat} (h : i < 36) (hO : isO b i = true) : opA b ((List.range i).filter (isO b)).length = i := by
  have e := opR_succ (b := b) (i := i)
  rw [hO, if_pos rfl] at e
  have h1 := opR_get (b := b) (i := i + 1) (p := ((List.range i).filter (isO b)).length) (by omega) (by rw [e, List.length_append, List.length_singleton]; omega)
  rw [← h1, e, List.getD_eq_getElem?_getD, List.getElem?_append_right (Nat.le_refl _), Nat.sub_self]
  rfl
theorem q_KlayOut_7 (hq : zkd q = (10, 0)) (hq2 : q + 18 < 126) (hW : Wf b) : ∀ n i (M : ZM), i + n = 36 → BRep b q M → M.1 632 2 = nI ((List.range i).filter (isO b)).length → (∀ p, p < ((List.range i).filter (isO b)).length → M.1 633 p = nI (opA b p) ∧ M.1 634 p = nI (ulM b p)) → ∃ M', h_K_layOut_7 (d + 3) q (nI i) M = some (none, M') ∧ KPl b M' ∧ frI pKp M M' := by
  have h12 := hW.1.2.2.2
  have h16 := hW.2.2.2.2.1
  intro n
  induction n with
  | zero =>
    intro i M h hB h2 hC
    obtain rfl : i = 36 := by omega
    refine ⟨M, e_K_layOut_7 hq ?_, ⟨h2, hC⟩, fr.refl⟩
    rw [if_neg (by decide)]
  | succ n ih =>
    intro i M h hB h2 hC
    have hi : i < 36 := by omega
    have hle2 := opR_le (b := b) (i := i + 1) (by omega)
    have eR := opR_succ (b := b) (i := i)
    cases hO : isO b i with
    | false =>
      rw [hO, if_neg (by decide), List.append_nil] at eR
      obtain ⟨M', a1, a2⟩ := ih (i + 1) M (by omega) hB (by rw [eR]; exact h2) (by rw [eR]; exact hC)
      refine ⟨M', e_K_layOut_7 hq ?_, a2⟩
      rw [if_pos ((n_lt (by omega) (by omega)).mpr hi), q_isOpen hq hB.sc hW.wk, zC1_some, oI_n (by omega), hO, if_pos (show nB false = nI 0 from rfl), n_add1]
      exact a1
    | true =>
      rw [hO, if_pos rfl] at eR
      have hat := opR_at hi hO
      rw [eR, List.length_append, List.length_singleton] at hle2
      generalize hL : ((List.range i).filter (isO b)).length = L at *
      have f1 : frI pKp M (zpi M 633 L (nI i)) := fr.refl.pi (Or.inr (Or.inl rfl))
      have hB1 := hB.fr f1 h12 (fun a x z => by unfold pKp at z; omega) fun a x z => z.elim
      have e2 : (zpi M 633 L (nI i)).1 632 2 = nI L := by rw [m_pi, if_neg (by omega)]; exact h2
      have hul : zEv (d + 3) zmK_unlikeAhead [.ref 632, .ref q, .int (nI i)] (zpi M 633 L (nI i)) = some (some (.int (nI (ulM b L))), zpi M 633 L (nI i)) := by
        refine e_K_unlikeAhead hq ?_
        have := q_unlike_5 (d := d) hq hW hB1 (p := L) (by omega) e2 (fun a ha => by rw [m_pi, if_neg (by omega)]; exact (hC a ha).1) L 0 (by omega)
        rw [hat] at this
        exact this
      have f2 : frI pKp M (zpi (zpi (zpi M 633 L (nI i)) 634 L (nI (ulM b L))) 632 2 (nI (L + 1))) := (f1.pi (Or.inr (Or.inr rfl))).pi (Or.inl ⟨rfl, rfl⟩)
      obtain ⟨M', a1, a2, a3⟩ := ih (i + 1) (zpi (zpi (zpi M 633 L (nI i)) 634 L (nI (ulM b L))) 632 2 (nI (L + 1))) (by omega) (hB.fr f2 h12 (fun a x z => by unfold pKp at z; omega) fun a x z => z.elim) (by rw [eR, m_pi, if_pos ⟨rfl, rfl⟩, List.length_append, List.length_singleton, hL]) (by
        rw [eR, List.length_append, List.length_singleton, hL]
        intro p hp
        by_cases e : p = L
        · rw [e, hat]
          exact ⟨by rw [m_pi, if_neg (by omega), m_pi, if_neg (by omega), m_pi, if_pos ⟨rfl, rfl⟩], by rw [m_pi, if_neg (by omega), m_pi, if_pos ⟨rfl, rfl⟩]⟩
        · have hc := hC p (by omega)
          exact ⟨by rw [m_pi, if_neg (by omega), m_pi, if_neg (by omega), m_pi, if_neg (by omega)]; exact hc.1, by rw [m_pi, if_neg (by omega), m_pi, if_neg (by omega), m_pi, if_neg (by omega)]; exact hc.2⟩)
      refine ⟨M', e_K_layOut_7 hq ?_, a2, f2.trans a3⟩
      rw [if_pos ((n_lt (by omega) (by omega)).mpr hi), q_isOpen hq hB.sc hW.wk, zC1_some, oI_n (by omega), hO, if_neg (show ¬ nB true = nI 0 by decide), h2, if_pos ((n_lt (by omega) (by omega)).mpr (by omega)), if_pos ((n_zin (by omega)).mpr (by omega)), n_clamp (by omega), hul, zC1_some, e2, if_pos ((n_zin (by omega)).mpr (by omega)), n_clamp (by omega), zLr, m_pi, if_neg (by omega), e2, n_add1, n_add1]
      exact a1
theorem q_KlayOut {M : ZM} (hq : zkd q = (10, 0)) (hq2 : q + 18 < 126) (hW : Wf b) (hB : BRep b q M) : ∃ M', zEv (d + 4) zmK_layOut [.ref 632, .ref q] M = some (none, M') ∧ KPl b M' ∧ frI pKp M M' := by
  have f0 : frI pKp M (zpi M 632 2 (nI 0)) := fr.refl.pi (Or.inl ⟨rfl, rfl⟩)
  obtain ⟨M', a1, a2, a3⟩ := q_KlayOut_7 (d := d) hq hq2 hW 36 0 (zpi M 632 2 (nI 0)) (by omega) (hB.fr f0 hW.1.2.2.2 (fun a x z => by unfold pKp at z; omega) fun a x z => z.elim) (by rw [m_pi, if_pos ⟨rfl, rfl⟩]; rfl) (fun p hp => absurd hp (Nat.not_lt_zero p))
  exact ⟨M', e_K_layOut hq a1, a2, f0.trans a3⟩
theorem q_mayStand_2 {M : ZM} {p x : Nat} {u : Nat → Bool} {g : Nat → Nat} (hp : p < 16) (hx : x < 8) (h6 : M.1 634 p = nI (msk p u)) (h7 : ∀ a, a < p → M.1 637 a = nI (g a) ∧ g a < 8) : ∀ n a, a + n = p → h_K_mayStand_2 d (nI p) (nI x) (nI a) M = some (some (.int (nB (!(List.range' a n).any fun a => u a && decide (g a = x)))), M) := by
  have hm : msk p u < 65536 := Nat.lt_of_lt_of_le (msk_lt p u) (Nat.pow_le_pow_right (n := 2) (by omega) (show p ≤ 16 by omega))
  intro n
  induction n with
  | zero =>
    intro a h
    refine e_K_mayStand_2 ?_
    rw [if_neg (by rw [n_lt (by omega) (by omega)]; omega)]
    rfl
  | succ n ih =>
    intro a h
    obtain ⟨g1, g2⟩ := h7 a (by omega)
    have hb := n_bit (m := msk p u) (d := a) (by omega) (by omega)
    rw [msk_bit, decide_eq_true (show a < p by omega), Bool.true_and] at hb
    refine e_K_mayStand_2 ?_
    rw [if_pos ((n_lt (by omega) (by omega)).mpr (by omega)), if_pos ((n_zin (by omega)).mpr hp), n_clamp (by omega), h6, n_clamp (by omega), g1, n_add1, ih (a + 1) (by omega), List.range'_succ, List.any_cons]
    cases hu : u a with
    | false =>
      rw [hu] at hb
      rw [if_neg (fun z => by cases hb.mp z), Bool.false_and, Bool.false_or]
    | true =>
      rw [hu] at hb
      rw [if_pos (hb.mpr rfl), if_pos ((n_zin (by omega)).mpr (by omega)), Bool.true_and]
      by_cases e : g a = x
      · rw [if_pos (by rw [e]), decide_eq_true e, Bool.true_or]
        rfl
      · rw [if_neg (by rw [n_eq (by omega) (by omega)]; exact e), decide_eq_false e, Bool.false_or]
/-- what stands ahead, by place and by cell -/
theorem may_tw (hW : Wf b) {mk : Nat → Nat} {p x : Nat} (hp : p < openN b) (hx : 1 ≤ x) (hz : ∀ c, c < 36 → (∀ q, q < p → c ≠ opA b q) → mk c = 0) : ((List.range' 0 p).any fun a => ulB b p a && decide (mk (opA b a) = x)) = tw b mk (opA b p) x := by
  rw [Bool.eq_iff_iff, List.any_eq_true]
  unfold tw
  rw [List.any_eq_true]
  constructor
  · rintro ⟨a, ha, h⟩
    rw [Bool.and_eq_true, decide_eq_true_iff] at h
    have ha2 := List.mem_range'_1.mp ha
    obtain ⟨k, k1, k2, k3, k4⟩ := ulB_iff.mp h.1
    obtain ⟨i, i1, i2⟩ := (inC_iff hW).mp k4
    refine ⟨k, List.mem_range.mpr k1, ?_⟩
    rw [Bool.and_eq_true, Bool.and_eq_true, List.any_eq_true]
    refine ⟨⟨k2, k3⟩, i, List.mem_range.mpr i1, ?_⟩
    rw [Bool.and_eq_true, decide_eq_true_iff, decide_eq_true_iff, i2]
    exact ⟨fun e => by have := opA_inj (by omega) hp e; omega, h.2⟩
  · rintro ⟨k, hk, h⟩
    rw [Bool.and_eq_true, Bool.and_eq_true, List.any_eq_true] at h
    obtain ⟨⟨k2, k3⟩, i, hi, h⟩ := h
    have hk2 := List.mem_range.mp hk
    have hi2 := List.mem_range.mp hi
    rw [Bool.and_eq_true, decide_eq_true_iff, decide_eq_true_iff] at h
    by_cases hex : ∃ a, a < p ∧ cgC b k i = opA b a
    · obtain ⟨a, a1, a2⟩ := hex
      refine ⟨a, List.mem_range'_1.mpr (by omega), ?_⟩
      rw [Bool.and_eq_true, decide_eq_true_iff, ← a2]
      exact ⟨ulB_iff.mpr ⟨k, hk2, k2, k3, by rw [← a2]; exact (inC_iff hW).mpr ⟨i, hi2, rfl⟩⟩, h.2⟩
    · have := hz (cgC b k i) (cgC_lt hW hk2 hi2) fun a ha e => hex ⟨a, ha, e⟩
      omega
end QK3
