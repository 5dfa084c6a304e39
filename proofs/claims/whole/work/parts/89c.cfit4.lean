/-! THE CLASS, 27: products fitted; fit -/
theorem okP_eq {t : Nat} (h : okP t = true) : (1 ≤ t ∧ t ≤ 117649) ∧ prP (tm t 2) (tm t 3) (tm t 5) (tm t 7) = t ∧ sP t ≤ 128 := by
  unfold okP at h
  rw [Bool.and_eq_true, Bool.and_eq_true, Bool.and_eq_true] at h
  exact ⟨⟨of_decide_eq_true h.1.1, of_decide_eq_true h.1.2⟩, of_decide_eq_true h.2.1, of_decide_eq_true h.2.2⟩
theorem wP_le {t σ : Nat} (h : okP t = true) (hs : σ < sP t) : wP t σ ≤ t := by
  have e := (okP_eq h).2.1
  have a1 : σ % (tm t 2 + 1) ≤ tm t 2 := Nat.le_of_lt_succ (Nat.mod_lt _ (Nat.succ_pos _))
  have a2 : σ / (tm t 2 + 1) % (tm t 3 + 1) ≤ tm t 3 := Nat.le_of_lt_succ (Nat.mod_lt _ (Nat.succ_pos _))
  have a3 : σ / ((tm t 2 + 1) * (tm t 3 + 1)) % (tm t 5 + 1) ≤ tm t 5 := Nat.le_of_lt_succ (Nat.mod_lt _ (Nat.succ_pos _))
  have a4 : σ / ((tm t 2 + 1) * (tm t 3 + 1) * (tm t 5 + 1)) ≤ tm t 7 := Nat.le_of_lt_succ (Nat.div_lt_of_lt_mul hs)
  have := Nat.mul_le_mul (Nat.mul_le_mul (Nat.mul_le_mul (Nat.pow_le_pow_right (show 0 < 2 by omega) a1) (Nat.pow_le_pow_right (show 0 < 3 by omega) a2)) (Nat.pow_le_pow_right (show 0 < 5 by omega) a3)) (Nat.pow_le_pow_right (show 0 < 7 by omega) a4)
  exact Nat.le_trans this (Nat.le_of_eq e)
def dP (t i σ : Nat) : DF := (fun _ _ => false, fun g s => (decide (s < σ) || (decide (s = σ) && decide (g < i))) && decide (t / wP t s % g = 0), fun g => hP t g, fun _ => false)
section QF4
variable {d : Nat} {q : Nat}
theorem q_fitProduct_261 (hq : zkd q = (13, 0)) {s t z σ : Nat} {al : Bool} {x2 x3 x5 x6 x7 x8 : Int32} (ho : okP t = true) (hs : σ < sP t) : ∀ j i (M : ZM), i + j = 8 → 1 ≤ i → HF s al t z q M → RP (dP t i σ) q M → ∃ M', (∀ r, h_R_fitProduct_201 (d + 1) q x2 x3 x5 x6 x7 x8 (nI (σ + 1)) M' = some r → h_R_fitProduct_261 (d + 1) q x2 x3 x5 x6 x7 x8 (nI σ) (nI (wP t σ)) (nI i) M = some r) ∧ RP (dP t 1 (σ + 1)) q M' ∧ fr (pF1 q) (pF2 q) M M' := by
  obtain ⟨⟨t1, t2⟩, -, t3⟩ := okP_eq ho
  have hw1 := ((okP_use ho).2.2 σ hs).1.1
  have hw2 := wP_le ho hs
  intro j
  induction j with
  | zero =>
    intro i M h h1 hF hR
    refine ⟨M, fun r hr => e_R_fitProduct_261 hq ?_, hR.ext (fun g h1 h7 => ⟨fun s' _ => ⟨rfl, ?_⟩, rfl⟩) fun _ _ => rfl, fr.refl⟩
    · rw [if_pos ((n_lt (by omega) (by omega)).mpr (by omega)), n_add1]
      exact hr
    · show ((decide (s' < σ + 1) || (decide (s' = σ + 1) && decide (g < 1))) && decide (t / wP t s' % g = 0)) = ((decide (s' < σ) || (decide (s' = σ) && decide (g < i))) && decide (t / wP t s' % g = 0))
      congr 1
      rw [Bool.eq_iff_iff]
      simp only [Bool.and_eq_true, Bool.or_eq_true, decide_eq_true_eq]
      omega
  | succ j ih =>
    intro i M h h1 hF hR
    have hdl : t / wP t σ ≤ t := Nat.div_le_self _ _
    have hml : t / wP t σ % i ≤ t / wP t σ := Nat.mod_le _ _
    have w0 : ¬ nI (wP t σ) = nI 0 := by rw [n_eq (by omega) (by omega)]; omega
    have i0 : ¬ nI i = nI 0 := by rw [n_eq (by omega) (by omega)]; omega
    by_cases hc : t / wP t σ % i = 0
    · obtain ⟨M1, b1, b2, b3⟩ := q_allow (d := d) hq hR (show σ < 128 by omega) h1 (by omega)
      obtain ⟨M', a1, a2, a3⟩ := ih (i + 1) M1 (by omega) (by omega) (hF.fr b3) (b2.ext (fun g _ _ => ⟨fun s' _ => ⟨rfl, by
        show ((decide (s' < σ) || (decide (s' = σ) && decide (g < i + 1))) && decide (t / wP t s' % g = 0)) = (((decide (s' < σ) || (decide (s' = σ) && decide (g < i))) && decide (t / wP t s' % g = 0)) || (decide (g = i) && decide (s' = σ)))
        by_cases e : g = i ∧ s' = σ
        · obtain ⟨e1, e2⟩ := e
          rw [e1, e2, hc, decide_eq_true (show σ = σ from rfl), decide_eq_true (show i < i + 1 by omega), decide_eq_true (show i = i from rfl)]
          simp
        · have e1 : (decide (g = i) && decide (s' = σ)) = false := by
            rw [Bool.and_eq_false_iff]
            by_cases c : g = i
            · exact Or.inr (decide_eq_false fun z => e ⟨c, z⟩)
            · exact Or.inl (decide_eq_false c)
          rw [e1, Bool.or_false]
          congr 1
          rw [Bool.eq_iff_iff]
          simp only [Bool.and_eq_true, Bool.or_eq_true, decide_eq_true_eq]
          omega⟩, rfl⟩) fun _ _ => rfl)
      refine ⟨M', fun r hr => e_R_fitProduct_261 hq ?_, a2, b3.trans a3⟩
      rw [if_neg (by rw [n_lt (by omega) (by omega)]; omega), if_pos ((n_lt (by omega) (by omega)).mpr (by omega)), if_neg w0, if_neg i0, hF.2.1, n_div (by omega) (by omega), n_rem (by omega) (by omega), if_pos ((n_eq (by omega) (by omega)).mpr hc), b1, zC0_some, n_add1]
      exact a1 r hr
    · obtain ⟨M', a1, a2, a3⟩ := ih (i + 1) M (by omega) (by omega) hF (hR.ext (fun g _ _ => ⟨fun s' _ => ⟨rfl, by
        show ((decide (s' < σ) || (decide (s' = σ) && decide (g < i + 1))) && decide (t / wP t s' % g = 0)) = ((decide (s' < σ) || (decide (s' = σ) && decide (g < i))) && decide (t / wP t s' % g = 0))
        by_cases e : g = i ∧ s' = σ
        · obtain ⟨e1, e2⟩ := e
          rw [e1, e2, decide_eq_false hc, Bool.and_false, Bool.and_false]
        · congr 1
          rw [Bool.eq_iff_iff]
          simp only [Bool.and_eq_true, Bool.or_eq_true, decide_eq_true_eq]
          omega⟩, rfl⟩) fun _ _ => rfl)
      refine ⟨M', fun r hr => e_R_fitProduct_261 hq ?_, a2, a3⟩
      rw [if_neg (by rw [n_lt (by omega) (by omega)]; omega), if_pos ((n_lt (by omega) (by omega)).mpr (by omega)), if_neg w0, if_neg i0, hF.2.1, n_div (by omega) (by omega), n_rem (by omega) (by omega), if_neg (by rw [n_eq (by omega) (by omega)]; exact hc), n_add1]
      exact a1 r hr
theorem q_fitProduct_201 (hq : zkd q = (13, 0)) {s t z : Nat} {al : Bool} (ho : okP t = true) : ∀ j σ (M : ZM), σ + j = sP t → HF s al t z q M → RP (dP t 1 σ) q M → ∃ M', h_R_fitProduct_201 (d + 1) q (nI (tm t 3)) (nI (tm t 5)) (nI (tm t 2 + 1)) (nI ((tm t 2 + 1) * (tm t 3 + 1))) (nI ((tm t 2 + 1) * (tm t 3 + 1) * (tm t 5 + 1))) (nI (sP t)) (nI σ) M = some (none, M') ∧ RP (rPrd t) q M' ∧ fr (pF1 q) (pF2 q) M M' := by
  obtain ⟨⟨t1, t2⟩, te, t3⟩ := okP_eq ho
  have l2 := tm_le t 2
  have l3 := tm_le t 3
  have l5 := tm_le t 5
  have l7 := tm_le t 7
  have hst : sP t = (tm t 2 + 1) * (tm t 3 + 1) * (tm t 5 + 1) * (tm t 7 + 1) := rfl
  have q1 : (tm t 2 + 1) * (tm t 3 + 1) * (tm t 5 + 1) ≤ sP t := by rw [hst]; exact Nat.le_mul_of_pos_right _ (Nat.succ_pos _)
  have q2 : (tm t 2 + 1) * (tm t 3 + 1) ≤ (tm t 2 + 1) * (tm t 3 + 1) * (tm t 5 + 1) := Nat.le_mul_of_pos_right _ (Nat.succ_pos _)
  have p2 : 0 < (tm t 2 + 1) * (tm t 3 + 1) := Nat.mul_pos (Nat.succ_pos _) (Nat.succ_pos _)
  have p3 : 0 < (tm t 2 + 1) * (tm t 3 + 1) * (tm t 5 + 1) := Nat.mul_pos p2 (Nat.succ_pos _)
  have u := okP_use ho
  intro j
  induction j with
  | zero =>
    intro σ M h hF hR
    obtain ⟨M1, b1, b2, b3⟩ := q_aim (d := d) hq hR (show sP t - 1 < 128 by omega)
    refine ⟨M1, e_R_fitProduct_201 hq ?_, b2.ext (fun g h1 h7 => ⟨fun s' _ => ⟨rfl, ?_⟩, ?_⟩) fun s' _ => ?_, b3⟩
    · rw [if_neg (by rw [n_lt (by omega) (by omega)]; omega), n_sub (by omega), b1, zC0_some]
    · show (okP t && (decide (s' < sP t) && decide (t / wP t s' % g = 0))) = ((decide (s' < σ) || (decide (s' = σ) && decide (g < 1))) && decide (t / wP t s' % g = 0))
      rw [ho, Bool.true_and, show sP t = σ by omega, decide_eq_false (show ¬ g < 1 by omega), Bool.and_false, Bool.or_false]
    · show (bif okP t then hP t g else 0) = hP t g
      rw [ho, cond_true]
    · show (okP t && decide (s' + 1 = sP t)) = (false || decide (s' = sP t - 1))
      rw [ho, Bool.true_and, Bool.false_or, decide_eq_decide]
      omega
  | succ j ih =>
    intro σ M h hF hR
    obtain ⟨M1, b1, b2, b3⟩ := q_fitProduct_261 (d := d) (x2 := nI (tm t 3)) (x3 := nI (tm t 5)) (x5 := nI (tm t 2 + 1)) (x6 := nI ((tm t 2 + 1) * (tm t 3 + 1))) (x7 := nI ((tm t 2 + 1) * (tm t 3 + 1) * (tm t 5 + 1))) (x8 := nI (sP t)) (s := s) (z := z) (al := al) hq ho (show σ < sP t by omega) 7 1 M (by omega) (by omega) hF hR
    obtain ⟨M2, c1, c2, c3⟩ := ih (σ + 1) M1 (by omega) (hF.fr b3) b2
    refine ⟨M2, e_R_fitProduct_201 hq ?_, c2, b3.trans c3⟩
    have hσ := Nat.div_le_self σ (tm t 2 + 1)
    have hσ5 := Nat.div_le_self σ ((tm t 2 + 1) * (tm t 3 + 1))
    have hσ7 := Nat.div_le_self σ ((tm t 2 + 1) * (tm t 3 + 1) * (tm t 5 + 1))
    have m1 := Nat.mod_le σ (tm t 2 + 1)
    have m2 := Nat.mod_le (σ / (tm t 2 + 1)) (tm t 3 + 1)
    have m3 := Nat.mod_le (σ / ((tm t 2 + 1) * (tm t 3 + 1))) (tm t 5 + 1)
    have z5 : ¬ nI (tm t 2 + 1) = nI 0 := by rw [n_eq (by omega) (by omega)]; omega
    have z6 : ¬ nI ((tm t 2 + 1) * (tm t 3 + 1)) = nI 0 := by rw [n_eq (by omega) (by omega)]; omega
    have z7 : ¬ nI ((tm t 2 + 1) * (tm t 3 + 1) * (tm t 5 + 1)) = nI 0 := by rw [n_eq (by omega) (by omega)]; omega
    have y3 : ¬ nI (tm t 3 + 1) = nI 0 := by rw [n_eq (by omega) (by omega)]; omega
    have y5 : ¬ nI (tm t 5 + 1) = nI 0 := by rw [n_eq (by omega) (by omega)]; omega
    rw [if_pos ((n_lt (by omega) (by omega)).mpr (by omega)), if_neg z5, n_rem (by omega) (by omega), q_power (d := d) (by omega), zC1_some, if_neg z5, n_add1, if_neg y3, n_div (by omega) (by omega), n_rem (by omega) (by omega), q_power (d := d) (by omega), zC1_some, if_neg z6, n_add1, if_neg y5, n_div (by omega) (by omega), n_rem (by omega) (by omega), q_power (d := d) (by omega), zC1_some, if_neg z7, n_div (by omega) (by omega), q_power (d := d) (by omega), zC1_some, n_mul, n_mul, n_mul]
    exact b1 _ c1
theorem prd_no {t : Nat} (ho : okP t = false) {M : ZM} (hR : RP noD q M) : RP (rPrd t) q M := hR.ext (fun g _ _ => ⟨fun s' _ => ⟨rfl, by show (okP t && _) = false; rw [ho, Bool.false_and]⟩, by show (bif okP t then _ else 0) = 0; rw [ho, cond_false]⟩) fun _ _ => by show (okP t && _) = false; rw [ho, Bool.false_and]
theorem q_fitProduct {M : ZM} (hq : zkd q = (13, 0)) {s t z : Nat} {al : Bool} (ht : t < 2147483648) (hF : HF s al t z q M) (hR : RP noD q M) : ∃ M', zEv (d + 2) zmR_fitProduct [.ref q] M = some (none, M') ∧ RP (rPrd t) q M' ∧ fr (pF1 q) (pF2 q) M M' := by
  by_cases h1 : t < 1
  · refine ⟨M, e_R_fitProduct hq ?_, prd_no (by unfold okP; rw [decide_eq_false (show ¬ 1 ≤ t by omega)]; rfl) hR, fr.refl⟩
    rw [hF.2.1, if_pos ((n_lt (by omega) (by omega)).mpr h1)]
  · by_cases h2 : 117649 < t
    · refine ⟨M, e_R_fitProduct hq ?_, prd_no (by unfold okP; rw [decide_eq_false (show ¬ t ≤ 117649 by omega), Bool.and_false]; rfl) hR, fr.refl⟩
      rw [hF.2.1, if_neg (by rw [n_lt (by omega) (by omega)]; exact h1), if_pos ((n_lt (by omega) (by omega)).mpr h2)]
    · have l2 := tm_le t 2
      have l3 := tm_le t 3
      have l5 := tm_le t 5
      have l7 := tm_le t 7
      have hle := Nat.le_of_dvd (by omega) (prP_dvd t)
      have hst : (tm t 2 + 1) * (tm t 3 + 1) * (tm t 5 + 1) * (tm t 7 + 1) ≤ 18 * 18 * 18 * 18 := Nat.mul_le_mul (Nat.mul_le_mul (Nat.mul_le_mul (by omega) (by omega)) (by omega)) (by omega)
      have v2 : (tm t 2 + 1) * (tm t 3 + 1) ≤ 18 * 18 := Nat.mul_le_mul (by omega) (by omega)
      have v3 : (tm t 2 + 1) * (tm t 3 + 1) * (tm t 5 + 1) ≤ 18 * 18 * 18 := Nat.mul_le_mul v2 (by omega)
      have v4 : tm t 2 + 1 ≤ (tm t 2 + 1) * (tm t 3 + 1) := Nat.le_mul_of_pos_right _ (Nat.succ_pos _)
      have v5 : (tm t 2 + 1) * (tm t 3 + 1) ≤ (tm t 2 + 1) * (tm t 3 + 1) * (tm t 5 + 1) := Nat.le_mul_of_pos_right _ (Nat.succ_pos _)
      have u1 : ¬ nI (tm t 2 + 1) < nI 1 := by rw [n_lt (by omega) (by omega)]; omega
      have u2 : ¬ nI ((tm t 2 + 1) * (tm t 3 + 1)) < nI (tm t 2 + 1) := by rw [n_lt (by omega) (by omega)]; omega
      have u3 : ¬ nI ((tm t 2 + 1) * (tm t 3 + 1) * (tm t 5 + 1)) < nI ((tm t 2 + 1) * (tm t 3 + 1)) := by rw [n_lt (by omega) (by omega)]; omega
      have head : ∀ r, (if nI (prP (tm t 2) (tm t 3) (tm t 5) (tm t 7)) = nI t then (if nI 128 < nI (sP t) then some (none, M) else h_R_fitProduct_201 (d + 1) q (nI (tm t 3)) (nI (tm t 5)) (nI (tm t 2 + 1)) (nI ((tm t 2 + 1) * (tm t 3 + 1))) (nI ((tm t 2 + 1) * (tm t 3 + 1) * (tm t 5 + 1))) (nI (sP t)) (nI 0) (zpi (zpi (zpi (zpi (zpi (zpi M (q + 5) 2 (nI 1)) (q + 5) 3 (nI (tm t 2 + 1))) (q + 5) 4 (nI 2)) (q + 5) 5 (nI ((tm t 2 + 1) * (tm t 3 + 1)))) (q + 5) 6 (nI (1 + (tm t 2 + 1)))) (q + 5) 7 (nI ((tm t 2 + 1) * (tm t 3 + 1) * (tm t 5 + 1))))) else some (none, M)) = some r → zEv (d + 2) zmR_fitProduct [.ref q] M = some r := fun r hr => by
        refine e_R_fitProduct hq ?_
        rw [hF.2.1, if_neg (by rw [n_lt (by omega) (by omega)]; exact h1), if_neg (by rw [n_lt (by omega) (by omega)]; exact h2), q_timesIn (d := d) (by omega) (by omega) ht, zC1_some, hF.2.1, q_timesIn (d := d) (by omega) (by omega) ht, zC1_some, hF.2.1, q_timesIn (d := d) (by omega) (by omega) ht, zC1_some, hF.2.1, q_timesIn (d := d) (by omega) (by omega) ht, zC1_some, zLr, q_power (d := d) (by omega), zC1_some, q_power (d := d) (by omega), zC1_some, q_power (d := d) (by omega), zC1_some, q_power (d := d) (by omega), zC1_some, hF.2.1, zLr]
        simp only [n_mul, n_add1, n_add, if_neg u1, if_neg u2, if_neg u3]
        exact hr
      by_cases h3 : prP (tm t 2) (tm t 3) (tm t 5) (tm t 7) = t
      · by_cases h4 : sP t ≤ 128
        · have ho : okP t = true := by
            unfold okP
            rw [decide_eq_true (show 1 ≤ t by omega), decide_eq_true (show t ≤ 117649 by omega), decide_eq_true h3, decide_eq_true (show stP (tm t 2) (tm t 3) (tm t 5) (tm t 7) ≤ 128 from h4)]
            rfl
          have hfr : fr (pF1 q) (pF2 q) M (zpi (zpi (zpi (zpi (zpi (zpi M (q + 5) 2 (nI 1)) (q + 5) 3 (nI (tm t 2 + 1))) (q + 5) 4 (nI 2)) (q + 5) 5 (nI ((tm t 2 + 1) * (tm t 3 + 1)))) (q + 5) 6 (nI (1 + (tm t 2 + 1)))) (q + 5) 7 (nI ((tm t 2 + 1) * (tm t 3 + 1) * (tm t 5 + 1)))) := ((((((fr.refl (p := pF1 q) (q := pF2 q) (M := M)).pi rfl).pi rfl).pi rfl).pi rfl).pi rfl).pi rfl
          obtain ⟨M', a1, a2, a3⟩ := q_fitProduct_201 (d := d) hq ho (sP t) 0 _ (by omega) (hF.fr hfr) ⟨hR.1, fun g g1 g7 => ⟨⟨(hR.2 g g1 g7).1.1, (hR.2 g g1 g7).1.2.ext fun s' _ => by
            show ((decide (s' < 0) || (decide (s' = 0) && decide (g < 1))) && _) = false
            rw [decide_eq_false (Nat.not_lt_zero s'), decide_eq_false (show ¬ g < 1 by omega), Bool.and_false, Bool.or_false, Bool.false_and]⟩, by
            show _ = nI (hP t g)
            have hz := (hR.2 g g1 g7).2
            have hg : g = 1 ∨ g = 2 ∨ g = 3 ∨ g = 4 ∨ g = 5 ∨ g = 6 ∨ g = 7 := by omega
            rcases hg with e | e | e | e | e | e | e <;> subst e
            · simp (disch := omega) only [m_pi, if_neg]; exact hz
            · simp (disch := omega) only [m_pi, if_neg, if_true, and_self]; rfl
            · simp (disch := omega) only [m_pi, if_neg, if_true, and_self]; rfl
            · simp (disch := omega) only [m_pi, if_neg, if_true, and_self]; rfl
            · simp (disch := omega) only [m_pi, if_neg, if_true, and_self]; rfl
            · simp (disch := omega) only [m_pi, if_neg, if_true, and_self]; rfl
            · simp (disch := omega) only [m_pi, if_neg, if_true, and_self]; rfl⟩⟩
          refine ⟨M', head _ ?_, a2, hfr.trans a3⟩
          rw [if_pos ((n_eq (by omega) (by omega)).mpr h3), if_neg (by rw [n_lt (by omega) (by omega)]; omega)]
          exact a1
        · refine ⟨M, head _ ?_, prd_no (by unfold okP; rw [decide_eq_false (show ¬ stP (tm t 2) (tm t 3) (tm t 5) (tm t 7) ≤ 128 from h4), Bool.and_false, Bool.and_false]) hR, fr.refl⟩
          rw [if_pos ((n_eq (by omega) (by omega)).mpr h3), if_pos ((n_lt (by omega) (by unfold sP stP; omega)).mpr (by omega))]
      · refine ⟨M, head _ ?_, prd_no (by unfold okP; rw [decide_eq_false h3, Bool.false_and, Bool.and_false]) hR, fr.refl⟩
        rw [if_neg (by rw [n_eq (by omega) (by omega)]; exact h3)]
/-! fit -/
def RC (s : Nat) (al : Bool) (t z q : Nat) (M : ZM) : Prop := HF s al t z q M ∧ RRep (rl s al t z) z q M
/-- a rule that was never fitted, or is fitted -/
def RCI (q : Nat) (M : ZM) : Prop := M.1 q 0 = -1 ∨ ∃ s al t z, (s ≤ 3 ∧ t ≤ 999999) ∧ z ≤ 6 ∧ RC s al t z q M
theorem RCI.fr {q : Nat} {p p2 : Nat → Nat → Prop} {M M' : ZM} (h : RCI q M) (hf : fr p p2 M M') (h1 : ∀ a k, q ≤ a → a ≤ q + 5 → (a = q → k ≤ 10) → ¬ p a k) (h2 : ∀ a k, q ≤ a → a ≤ q + 5 → (a = q → k ≤ 10) → ¬ p2 a k) : RCI q M' := by
  have e1 : ∀ a k, q ≤ a → a ≤ q + 5 → (a = q → k ≤ 10) → M'.1 a k = M.1 a k := fun a k x y z => hf.1 a k (h1 a k x y z)
  have e2 : ∀ a k, q ≤ a → a ≤ q + 5 → (a = q → k ≤ 10) → M'.2 a k = M.2 a k := fun a k x y z => hf.2 a k (h2 a k x y z)
  rcases h with h | ⟨s, al, t, z, hst, hz, hF, hR⟩
  · left
    rw [e1 q 0 (by omega) (by omega) (by omega)]
    exact h
  · right
    refine ⟨s, al, t, z, hst, hz, ?_, ?_⟩
    · unfold HF
      rw [e1 q 0 (by omega) (by omega) (by omega), e1 q 1 (by omega) (by omega) (by omega), e1 q 2 (by omega) (by omega) (by omega), e1 q 3 (by omega) (by omega) (by omega)]
      exact hF
    · unfold RRep
      rw [e1 q 3 (by omega) (by omega) (by omega), e2 q 9 (by omega) (by omega) (by omega), e2 q 10 (by omega) (by omega) (by omega)]
      refine ⟨hR.1, hR.2.1, fun g g1 g7 => ?_⟩
      rw [e1 (q + 5) g (by omega) (by omega) (by omega), e2 (q + 1) g (by omega) (by omega) (by omega), e2 (q + 2) g (by omega) (by omega) (by omega), e2 (q + 3) g (by omega) (by omega) (by omega), e2 (q + 4) g (by omega) (by omega) (by omega)]
      exact hR.2.2 g g1 g7
theorem nB_eq {x y : Bool} : (nB x = nB y) ↔ x = y := by
  cases x <;> cases y <;> decide
theorem nB_01 (x : Bool) : nB x = nI 0 ∨ nB x = nI 1 := by cases x <;> decide
theorem q_isOfSets {M : ZM} (hq : zkd q = (13, 0)) {s t z : Nat} {al : Bool} (hs : s ≤ 3) (hF : HF s al t z q M) : zEv (d + 1) zmR_isOfSets [.ref q] M = some (some (.int (nB (ofS s al))), M) := by
  refine e_R_isOfSets hq ?_
  unfold ofS
  rw [hF.1.1, hF.1.2]
  cases al with
  | false => rw [if_pos (show nB false = nI 0 from rfl)]; rfl
  | true =>
    rw [if_neg (show ¬ nB true = nI 0 by decide), Bool.not_true, Bool.false_or]
    by_cases c2 : s = 2
    · rw [if_pos ((n_eq (by omega) (by omega)).mpr c2), decide_eq_true c2]; rfl
    · rw [if_neg (by rw [n_eq (by omega) (by omega)]; exact c2), decide_eq_false c2, Bool.false_or]
      by_cases c3 : s = 3
      · rw [if_pos ((n_eq (by omega) (by omega)).mpr c3), decide_eq_true c3]; rfl
      · rw [if_neg (by rw [n_eq (by omega) (by omega)]; exact c3), decide_eq_false c3]; rfl
theorem q_fit_34 {M : ZM} (hq : zkd q = (13, 0)) {s t z : Nat} {al : Bool} (hs : s ≤ 3) (ht : t ≤ 999999) (hz : z ≤ 6) : ∃ M', h_R_fit_34 (d + 2) q (nI s) (nB al) (nI t) (nI z) M = some (none, M') ∧ RC s al t z q M' ∧ fr (pRu q) (pRu q) M M' := by
  have hF0 : HF s al t z q (zpi (zpi (zpi (zpi M q 0 (nI s)) q 1 (nB al)) q 2 (nI t)) q 3 (nI z)) := by
    unfold HF
    simp (disch := omega) only [m_pi, if_neg, if_true, and_self]
  have hfr0 : fr (pRu q) (pRu q) M (zpi (zpi (zpi (zpi M q 0 (nI s)) q 1 (nB al)) q 2 (nI t)) q 3 (nI z)) := (((fr.refl.pi ⟨by omega, by omega⟩).pi ⟨by omega, by omega⟩).pi ⟨by omega, by omega⟩).pi ⟨by omega, by omega⟩
  have fsub : ∀ {M1 M2 : ZM}, fr (pF1 q) (pF2 q) M1 M2 → fr (pRu q) (pRu q) M1 M2 := fun h => h.mono (fun a k z => by unfold pF1 at z; unfold pRu; omega) fun a k z => by unfold pF2 at z; unfold pRu; omega
  obtain ⟨M1, b1, b2, b3⟩ := q_forget (d := d + 1) (M := zpi (zpi (zpi (zpi M q 0 (nI s)) q 1 (nB al)) q 2 (nI t)) q 3 (nI z)) hq
  have hF1 := hF0.fr b3
  have hmin : zEv (d + 2) zmJM_min [.int (nI 6), .int (nI z)] (zpi (zpi (zpi M q 0 (nI s)) q 1 (nB al)) q 2 (nI t)) = some (some (.int (nI z)), zpi (zpi (zpi M q 0 (nI s)) q 1 (nB al)) q 2 (nI t)) := by
    refine e_JM_min ?_
    by_cases c : z < 6
    · rw [if_pos ((n_lt (by omega) (by omega)).mpr c)]
    · rw [if_neg (by rw [n_lt (by omega) (by omega)]; exact c), show z = 6 by omega]
  have hmax : zEv (d + 2) zmJM_max [.int (nI 0), .int (nI z)] (zpi (zpi (zpi M q 0 (nI s)) q 1 (nB al)) q 2 (nI t)) = some (some (.int (nI z)), zpi (zpi (zpi M q 0 (nI s)) q 1 (nB al)) q 2 (nI t)) := by
    refine e_JM_max ?_
    by_cases c : 0 < z
    · rw [if_pos ((n_lt (by omega) (by omega)).mpr c)]
    · rw [if_neg (by rw [n_lt (by omega) (by omega)]; exact c), show z = 0 by omega]
  have fin : ∀ M', (if nB (ofS s al) = nI 0 then (if M1.1 q 0 = nI 0 then zC0 (zEv (d + 2) zmR_fitSum [.ref q] M1) (fun M16 => some (none, M16)) else zC0 (zEv (d + 2) zmR_fitProduct [.ref q] M1) (fun M18 => some (none, M18))) else zC0 (zEv (d + 2) zmR_fitSets [.ref q] M1) (fun M20 => some (none, M20))) = some (none, M') → RP (rl s al t z) q M' → fr (pF1 q) (pF2 q) M1 M' → ∃ M', h_R_fit_34 (d + 2) q (nI s) (nB al) (nI t) (nI z) M = some (none, M') ∧ RC s al t z q M' ∧ fr (pRu q) (pRu q) M M' := by
    intro M' h1 h2 h3
    have hF2 := hF1.fr h3
    refine ⟨M', e_R_fit_34 hq ?_, ⟨hF2, ⟨hF2.2.2, hz⟩, h2.1, h2.2⟩, (hfr0.trans (fsub b3)).trans (fsub h3)⟩
    rw [if_pos (nB_01 al), hmin, zC1_some, hmax, zC1_some, b1, zC0_some, q_isOfSets (d := d + 1) hq hs hF1, zC1_some]
    exact h1
  cases ho : ofS s al with
  | true =>
    obtain ⟨M', a1, a2, a3⟩ := q_fitSets (d := d) hq hs (show t < 2147483648 by omega) hz hF1 b2
    refine fin M' ?_ (by unfold rl; rw [ho, cond_true]; exact a2) a3
    rw [ho, if_neg (show ¬ nB true = nI 0 by decide), a1, zC0_some]
  | false =>
    by_cases c0 : s = 0
    · obtain ⟨M', a1, a2, a3⟩ := q_fitSum (d := d) hq (show t < 2147483648 by omega) hF1 b2
      refine fin M' ?_ (by unfold rl; rw [ho, cond_false, decide_eq_true c0, cond_true]; exact a2) a3
      rw [ho, if_pos (show nB false = nI 0 from rfl), hF1.1.1, if_pos ((n_eq (by omega) (by omega)).mpr c0), a1, zC0_some]
    · obtain ⟨M', a1, a2, a3⟩ := q_fitProduct (d := d) hq (show t < 2147483648 by omega) hF1 b2
      refine fin M' ?_ (by unfold rl; rw [ho, cond_false, decide_eq_false c0, cond_false]; exact a2) a3
      rw [ho, if_pos (show nB false = nI 0 from rfl), hF1.1.1, if_neg (by rw [n_eq (by omega) (by omega)]; exact c0), a1, zC0_some]
theorem q_fit {M : ZM} (hq : zkd q = (13, 0)) {s t z : Nat} {al : Bool} (hs : s ≤ 3) (ht : t ≤ 999999) (hz : z ≤ 6) (hI : RCI q M) : ∃ M', zEv (d + 3) zmR_fit [.ref q, .int (nI s), .int (nB al), .int (nI t), .int (nI z)] M = some (none, M') ∧ RC s al t z q M' ∧ fr (pRu q) (pRu q) M M' := by
  obtain ⟨M', a1, a2⟩ := q_fit_34 (d := d) (M := M) (al := al) hq hs ht hz
  by_cases c : M.1 q 0 = nI s ∧ M.1 q 1 = nB al ∧ M.1 q 2 = nI t ∧ M.1 q 3 = nI z
  · obtain ⟨c1, c2, c3, c4⟩ := c
    refine ⟨M, e_R_fit hq ?_, ?_, fr.refl⟩
    · rw [if_pos c1, if_pos c2, if_pos c3, if_pos c4]
    · rcases hI with h | ⟨s', al', t', z', ⟨h1, h2⟩, h3, h4⟩
      · rw [h] at c1
        exact absurd c1.symm (n_nem1 (by omega))
      · rw [h4.1.1.1, n_eq (by omega) (by omega)] at c1
        rw [h4.1.1.2, nB_eq] at c2
        rw [h4.1.2.1, n_eq (by omega) (by omega)] at c3
        rw [h4.1.2.2, n_eq (by omega) (by omega)] at c4
        rw [c1, c2, c3, c4] at h4
        exact h4
  · refine ⟨M', e_R_fit hq ?_, a2⟩
    by_cases c1 : M.1 q 0 = nI s
    · rw [if_pos c1]
      by_cases c2 : M.1 q 1 = nB al
      · rw [if_pos c2]
        by_cases c3 : M.1 q 2 = nI t
        · rw [if_pos c3, if_neg fun c4 => c ⟨c1, c2, c3, c4⟩]
          exact a1
        · rw [if_neg c3]; exact a1
      · rw [if_neg c2]; exact a1
    · rw [if_neg c1]; exact a1
end QF4
