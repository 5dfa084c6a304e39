/-! THE CLASS, 25: sets and sums fitted -/
def HF (s : Nat) (al : Bool) (t z q : Nat) (M : ZM) : Prop := (M.1 q 0 = nI s ∧ M.1 q 1 = nB al) ∧ M.1 q 2 = nI t ∧ M.1 q 3 = nI z
theorem HF.fr {s t z q : Nat} {al : Bool} {p2 : Nat → Nat → Prop} {M M' : ZM} (h : HF s al t z q M) (hf : fr (pF1 q) p2 M M') : HF s al t z q M' := by
  have e : ∀ k, M'.1 q k = M.1 q k := fun k => hf.1 q k (by unfold pF1; omega)
  unfold HF
  rw [e, e, e, e]
  exact h
def dS (al : Bool) (i : Nat) : DF := (fun g σ => decide (g < i) && (al && σ.testBit (g - 1)), fun g σ => decide (g < i) && !σ.testBit (g - 1), fun g => if g < i then 2 ^ (g - 1) else 0, fun _ => false)
def gS (s : Nat) (al : Bool) (t z i : Nat) : DF := ((rSet s al t z).1, (rSet s al t z).2.1, (rSet s al t z).2.2.1, fun σ => decide (σ < i) && (rSet s al t z).2.2.2 σ)
def pRu (q : Nat) : Nat → Nat → Prop := fun a _ => q ≤ a ∧ a ≤ q + 9
section QF2
variable {d : Nat} {q : Nat}
theorem q_fitSets_2 (hq : zkd q = (13, 0)) {al : Bool} : ∀ j i (M : ZM), i + j = 8 → 1 ≤ i → M.1 q 1 = nB al → RP (dS al i) q M → ∃ M', (∀ r, h_R_fitSets_101 d q (nI 1) M' = some r → h_R_fitSets_2 d q (nI i) M = some r) ∧ RP (dS al 8) q M' ∧ fr (pF1 q) (pF2 q) M M' := by
  intro j
  induction j with
  | zero =>
    intro i M h h1 ha hR
    obtain rfl : i = 8 := by omega
    refine ⟨M, fun r hr => e_R_fitSets_2 hq ?_, hR, fr.refl⟩
    rw [if_pos ((n_lt (by omega) (by omega)).mpr (by omega))]
    exact hr
  | succ j ih =>
    intro i M h h1 ha hR
    have key : ∀ w1 w2 : Int64, L2 (fun σ => al && σ.testBit (i - 1)) w1 w2 → ∃ M', (∀ r, h_R_fitSets_101 d q (nI 1) M' = some r → h_R_fitSets_2 d q (nI (i + 1)) (zpi (zpl (zpl (zpl (zpl M (q + 3) i ((zsl 0).getD i 0)) (q + 4) i ((zsl 1).getD i 0)) (q + 1) i w1) (q + 2) i w2) (q + 5) i (nI (2 ^ (i - 1)))) = some r) ∧ RP (dS al 8) q M' ∧ fr (pF1 q) (pF2 q) M M' := by
      intro w1 w2 hw
      obtain ⟨M', a1, a2, a3⟩ := ih (i + 1) (zpi (zpl (zpl (zpl (zpl M (q + 3) i ((zsl 0).getD i 0)) (q + 4) i ((zsl 1).getD i 0)) (q + 1) i w1) (q + 2) i w2) (q + 5) i (nI (2 ^ (i - 1)))) (by omega) (by omega) (by rw [m_pi, if_neg (by omega)]; exact ha) (by
        refine hR.upd (g := i) (fun a k z => ?_) (fun a k z => ?_) (fun _ h7 => ?_) (fun x hx _ _ => ?_) (fun _ _ => rfl)
        · rw [m_pi, if_neg (by omega)]; rfl
        · simp (disch := omega) only [m_pi2, m_pl, if_neg]
        · simp (disch := omega) only [m_pi, m_pi2, m_pl, m_pl1, if_neg, if_pos, if_true, and_self]
          obtain ⟨c1, c2⟩ := rset_c i h1 h7
          refine ⟨⟨hw.ext fun s _ => ?_, c1.ext fun s _ => ?_⟩, ?_⟩
          · show (decide (i < i + 1) && (al && s.testBit (i - 1))) = (al && s.testBit (i - 1))
            rw [decide_eq_true (by omega), Bool.true_and]
          · show (decide (i < i + 1) && !s.testBit (i - 1)) = !s.testBit (i - 1)
            rw [decide_eq_true (by omega), Bool.true_and]
          · show _ = nI (if i < i + 1 then 2 ^ (i - 1) else 0)
            rw [if_pos (by omega)]
        · have e : (x < i + 1) ↔ x < i := by omega
          refine ⟨fun s _ => ⟨?_, ?_⟩, ?_⟩
          · show (decide (x < i + 1) && (al && s.testBit (x - 1))) = (decide (x < i) && (al && s.testBit (x - 1)))
            rw [decide_eq_decide.mpr e]
          · show (decide (x < i + 1) && !s.testBit (x - 1)) = (decide (x < i) && !s.testBit (x - 1))
            rw [decide_eq_decide.mpr e]
          · show (if x < i + 1 then 2 ^ (x - 1) else 0) = if x < i then 2 ^ (x - 1) else 0
            by_cases c : x < i
            · rw [if_pos c, if_pos (by omega)]
            · rw [if_neg c, if_neg (by omega)])
      refine ⟨M', a1, a2, fr.trans (((((fr.refl.pl ?_).pl ?_).pl ?_).pl ?_).pi ?_) a3⟩
      · exact Or.inr ⟨by omega, by omega⟩
      · exact Or.inr ⟨by omega, by omega⟩
      · exact Or.inr ⟨by omega, by omega⟩
      · exact Or.inr ⟨by omega, by omega⟩
      · exact rfl
    have hsh : nI 1 <<< ((nI i - nI 1) &&& 31) = nI (2 ^ (i - 1)) := by
      rw [n_sub (by omega), n_one (by omega)]
    cases al with
    | true =>
      obtain ⟨M', a1, a2, a3⟩ := key _ _ ((rset_c i h1 (by omega)).2.ext fun s _ => by rw [Bool.true_and])
      refine ⟨M', fun r hr => e_R_fitSets_2 hq ?_, a2, a3⟩
      have e1 : ¬ nB true = nI 0 := by decide
      rw [if_neg (by rw [n_lt (by omega) (by omega)]; omega), if_pos ((n_zin (by omega)).mpr (by omega)), n_clamp (by omega), zLr, m_pl1, m_pl1, ha, if_neg e1, m_pl1, m_pl1, m_pl1, ha, if_neg e1, zLr, hsh, n_add1]
      exact a1 r hr
    | false =>
      obtain ⟨M', a1, a2, a3⟩ := key (nJ 0) (nJ 0) (L2.no.ext fun s _ => by rw [Bool.false_and])
      refine ⟨M', fun r hr => e_R_fitSets_2 hq ?_, a2, a3⟩
      have e1 : nB false = nI 0 := rfl
      rw [if_neg (by rw [n_lt (by omega) (by omega)]; omega), if_pos ((n_zin (by omega)).mpr (by omega)), n_clamp (by omega), zLr, m_pl1, m_pl1, ha, if_pos e1, m_pl1, m_pl1, m_pl1, ha, if_pos e1, zLr, hsh, n_add1]
      exact a1 r hr
theorem q_fitSets_101 (hq : zkd q = (13, 0)) {s t z : Nat} {al : Bool} (hs : s ≤ 3) (ht : t < 2147483648) (hz : z ≤ 6) : ∀ j σ (M : ZM), σ + j = 128 → 1 ≤ σ → HF s al t z q M → RP (gS s al t z σ) q M → ∃ M', h_R_fitSets_101 (d + 1) q (nI σ) M = some (none, M') ∧ RP (rSet s al t z) q M' ∧ fr (pF1 q) (pF2 q) M M' := by
  intro j
  induction j with
  | zero =>
    intro σ M h h1 hF hR
    refine ⟨M, e_R_fitSets_101 hq ?_, hR.ext (fun _ _ _ => ⟨fun _ _ => ⟨rfl, rfl⟩, rfl⟩) fun s' hs' => ?_, fr.refl⟩
    · rw [if_neg (by rw [n_lt (by omega) (by omega)]; omega)]
    · show _ = (decide (s' < σ) && (rSet s al t z).2.2.2 s')
      rw [decide_eq_true (by omega), Bool.true_and]
  | succ j ih =>
    intro σ M h h1 hF hR
    have nyes : ∀ M1, (rSet s al t z).2.2.2 σ = true → RP ((gS s al t z σ).1, (gS s al t z σ).2.1, (gS s al t z σ).2.2.1, fun x => (gS s al t z σ).2.2.2 x || decide (x = σ)) q M1 → RP (gS s al t z (σ + 1)) q M1 := fun M1 hg h => h.ext (fun _ _ _ => ⟨fun _ _ => ⟨rfl, rfl⟩, rfl⟩) fun x _ => by
      show (decide (x < σ + 1) && (rSet s al t z).2.2.2 x) = ((decide (x < σ) && (rSet s al t z).2.2.2 x) || decide (x = σ))
      by_cases e : x = σ
      · rw [e, hg, decide_eq_true (show σ < σ + 1 by omega), decide_eq_true rfl, Bool.or_true, Bool.true_and]
      · rw [decide_eq_false e, Bool.or_false, decide_eq_decide.mpr (show x < σ + 1 ↔ x < σ by omega)]
    have nno : (rSet s al t z).2.2.2 σ = false → ∃ M', h_R_fitSets_101 (d + 1) q (nI (σ + 1)) M = some (none, M') ∧ RP (rSet s al t z) q M' ∧ fr (pF1 q) (pF2 q) M M' := fun hg => ih (σ + 1) M (by omega) (by omega) hF (hR.ext (fun _ _ _ => ⟨fun _ _ => ⟨rfl, rfl⟩, rfl⟩) fun x _ => by
      show (decide (x < σ + 1) && (rSet s al t z).2.2.2 x) = (decide (x < σ) && (rSet s al t z).2.2.2 x)
      by_cases e : x = σ
      · rw [e, hg, Bool.and_false, Bool.and_false]
      · rw [decide_eq_decide.mpr (show x < σ + 1 ↔ x < σ by omega)])
    obtain ⟨M1, b1, b2, b3⟩ := q_aim (d := d) hq hR (show σ < 128 by omega)
    have hF1 := hF.fr b3
    have hgo : (rSet s al t z).2.2.2 σ = ((al || decide (popc σ = z)) && (decide (s = 3) || decide (kTot s σ = t))) := by
      show (decide (1 ≤ σ) && _) = _
      rw [decide_eq_true h1, Bool.true_and]
    have nxt : (rSet s al t z).2.2.2 σ = true → ∃ M', h_R_fitSets_101 (d + 1) q (nI (σ + 1)) M1 = some (none, M') ∧ RP (rSet s al t z) q M' ∧ fr (pF1 q) (pF2 q) M M' := fun hg => by
      obtain ⟨M', a1, a2, a3⟩ := ih (σ + 1) M1 (by omega) (by omega) hF1 (nyes M1 hg b2)
      exact ⟨M', a1, a2, b3.trans a3⟩
    have hk := kTot_le σ (by omega) s (by omega)
    have tail : (al || decide (popc σ = z)) = true → ∃ M', (if M.1 q 0 = nI 3 then zC0 (zEv (d + 1) zmR_aim [.ref q, .int (nI σ)] M) (fun M10 => h_R_fitSets_101 (d + 1) q (nI σ + nI 1) M10) else zC1 (zEv (d + 1) zmC_totalOfSet [.int (M.1 q 0), .int (nI σ <<< (nI 1 &&& 31))] M) (fun v13 M12 => if v13 = M12.1 q 2 then zC0 (zEv (d + 1) zmR_aim [.ref q, .int (nI σ)] M12) (fun M16 => h_R_fitSets_101 (d + 1) q (nI σ + nI 1) M16) else h_R_fitSets_101 (d + 1) q (nI σ + nI 1) M12)) = some (none, M') ∧ RP (rSet s al t z) q M' ∧ fr (pF1 q) (pF2 q) M M' := by
      intro hc
      rw [hc, Bool.true_and] at hgo
      rw [hF.1.1]
      by_cases c3 : s = 3
      · obtain ⟨M', a1, a2⟩ := nxt (by rw [hgo, decide_eq_true c3]; rfl)
        refine ⟨M', ?_, a2⟩
        rw [if_pos ((n_eq (by omega) (by omega)).mpr c3), b1, zC0_some, n_add1]
        exact a1
      · rw [decide_eq_false c3, Bool.false_or] at hgo
        rw [if_neg (by rw [n_eq (by omega) (by omega)]; exact c3), n_shl (by omega), Nat.shiftLeft_eq, show σ * 2 ^ 1 = 2 * σ by omega, q_totalOfSet (d := d) hs h1 (by omega), zC1_some, hF.2.1]
        by_cases c : kTot s σ = t
        · obtain ⟨M', a1, a2⟩ := nxt (by rw [hgo, decide_eq_true c])
          refine ⟨M', ?_, a2⟩
          rw [if_pos ((n_eq (by omega) (by omega)).mpr c), b1, zC0_some, n_add1]
          exact a1
        · obtain ⟨M', a1, a2⟩ := nno (by rw [hgo, decide_eq_false c])
          refine ⟨M', ?_, a2⟩
          rw [if_neg (by rw [n_eq (by omega) (by omega)]; exact c), n_add1]
          exact a1
    have hpl := popc_le σ
    cases al with
    | true =>
      obtain ⟨M', a1, a2⟩ := tail rfl
      refine ⟨M', e_R_fitSets_101 hq ?_, a2⟩
      rw [if_pos ((n_lt (by omega) (by omega)).mpr (by omega)), hF.1.2, if_neg (show ¬ nB true = nI 0 by decide)]
      exact a1
    | false =>
      by_cases c : popc σ = z
      · obtain ⟨M', a1, a2⟩ := tail (by rw [decide_eq_true c]; rfl)
        refine ⟨M', e_R_fitSets_101 hq ?_, a2⟩
        rw [if_pos ((n_lt (by omega) (by omega)).mpr (by omega)), hF.1.2, if_pos (show nB false = nI 0 from rfl), q_bitI (d := d) (by omega), zC1_some, hF.2.2, if_pos ((n_eq (by omega) (by omega)).mpr c)]
        exact a1
      · obtain ⟨M', a1, a2⟩ := nno (by rw [hgo, decide_eq_false c]; rfl)
        refine ⟨M', e_R_fitSets_101 hq ?_, a2⟩
        rw [if_pos ((n_lt (by omega) (by omega)).mpr (by omega)), hF.1.2, if_pos (show nB false = nI 0 from rfl), q_bitI (d := d) (by omega), zC1_some, hF.2.2, if_neg (by rw [n_eq (by omega) (by omega)]; exact c), n_add1]
        exact a1
theorem q_fitSets {M : ZM} (hq : zkd q = (13, 0)) {s t z : Nat} {al : Bool} (hs : s ≤ 3) (ht : t < 2147483648) (hz : z ≤ 6) (hF : HF s al t z q M) (hR : RP noD q M) : ∃ M', zEv (d + 2) zmR_fitSets [.ref q] M = some (none, M') ∧ RP (rSet s al t z) q M' ∧ fr (pF1 q) (pF2 q) M M' := by
  obtain ⟨M1, a1, a2, a3⟩ := q_fitSets_2 (d := d + 1) hq (al := al) 7 1 M (by omega) (by omega) hF.1.2 (hR.ext (fun g h1 _ => ⟨fun s _ => ⟨by show (decide (g < 1) && _) = false; rw [decide_eq_false (by omega), Bool.false_and], by show (decide (g < 1) && _) = false; rw [decide_eq_false (by omega), Bool.false_and]⟩, by show (if g < 1 then _ else 0) = 0; rw [if_neg (by omega)]⟩) fun _ _ => rfl)
  obtain ⟨M2, b1, b2, b3⟩ := q_fitSets_101 (d := d) hq hs ht hz 127 1 M1 (by omega) (by omega) (hF.fr a3) (a2.ext (fun g h1 h7 => ⟨fun s _ => ⟨by show _ = (decide (g < 8) && _); rw [decide_eq_true (by omega), Bool.true_and]; rfl, by show _ = (decide (g < 8) && _); rw [decide_eq_true (by omega), Bool.true_and]; rfl⟩, by show _ = if g < 8 then _ else 0; rw [if_pos (by omega)]; rfl⟩) fun x _ => by
    show (decide (x < 1) && (decide (1 ≤ x) && _)) = false
    by_cases e : x < 1
    · rw [decide_eq_false (show ¬ 1 ≤ x by omega), Bool.false_and, Bool.and_false]
    · rw [decide_eq_false e, Bool.false_and])
  exact ⟨M2, e_R_fitSets hq (a1 _ b1), b2, a3.trans b3⟩
/-! the sum -/
def dU (t u i σ : Nat) : DF := (fun _ _ => false, fun g s => (decide (g < i) && decide (s + g ≤ t)) || (decide (g = i) && (decide (s < σ) && decide (s + g ≤ t))), fun g => if g < u then g else 0, fun _ => false)
theorem q_fitSum_34 (hq : zkd q = (13, 0)) {s t z i : Nat} {al : Bool} (ht : t ≤ 42) (h1 : 1 ≤ i) (h7 : i ≤ 7) : ∀ j σ (M : ZM), t + 1 - (σ + i) = j → σ ≤ t + 1 → HF s al t z q M → RP (dU t (i + 1) i σ) q M → ∃ M', (∀ r, h_R_fitSum_19 (d + 1) q (nI (i + 1)) M' = some r → h_R_fitSum_34 (d + 1) q (nI i) (nI σ) M = some r) ∧ RP (dU t (i + 1) (i + 1) 0) q M' ∧ fr (pF1 q) (pF2 q) M M' := by
  intro j
  induction j with
  | zero =>
    intro σ M h hs1 hF hR
    refine ⟨M, fun r hr => e_R_fitSum_34 hq ?_, hR.ext (fun g _ _ => ⟨fun s' _ => ⟨rfl, ?_⟩, rfl⟩) fun _ _ => rfl, fr.refl⟩
    · rw [hF.2.1, n_add, if_pos ((n_lt (by omega) (by omega)).mpr (by omega)), n_add1]
      exact hr
    · show ((decide (g < i + 1) && decide (s' + g ≤ t)) || (decide (g = i + 1) && (decide (s' < 0) && decide (s' + g ≤ t)))) = ((decide (g < i) && decide (s' + g ≤ t)) || (decide (g = i) && (decide (s' < σ) && decide (s' + g ≤ t))))
      rw [decide_eq_false (Nat.not_lt_zero s'), Bool.false_and, Bool.and_false, Bool.or_false, Bool.eq_iff_iff]
      simp only [Bool.and_eq_true, Bool.or_eq_true, decide_eq_true_eq]
      omega
  | succ j ih =>
    intro σ M h hs1 hF hR
    obtain ⟨M1, b1, b2, b3⟩ := q_allow (d := d) hq hR (show σ < 128 by omega) h1 h7
    obtain ⟨M', a1, a2, a3⟩ := ih (σ + 1) M1 (by omega) (by omega) (hF.fr b3) (b2.ext (fun g _ _ => ⟨fun s' _ => ⟨rfl, by
      show ((decide (g < i) && decide (s' + g ≤ t)) || (decide (g = i) && (decide (s' < σ + 1) && decide (s' + g ≤ t)))) = (((decide (g < i) && decide (s' + g ≤ t)) || (decide (g = i) && (decide (s' < σ) && decide (s' + g ≤ t)))) || (decide (g = i) && decide (s' = σ)))
      rw [Bool.eq_iff_iff]
      simp only [Bool.and_eq_true, Bool.or_eq_true, decide_eq_true_eq]
      omega⟩, rfl⟩) fun _ _ => rfl)
    refine ⟨M', fun r hr => e_R_fitSum_34 hq ?_, a2, b3.trans a3⟩
    rw [hF.2.1, n_add, if_neg (by rw [n_lt (by omega) (by omega)]; omega), b1, zC0_some, n_add1]
    exact a1 r hr
end QF2
