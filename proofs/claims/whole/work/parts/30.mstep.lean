/-! THE MODEL, 19: the next step -/
section MO
variable {d : Nat} {M : ZM} {b : Nat → Nat}
theorem s_onlyOne_a (hR : MR b M) (hW : Wf b) {k x i0 : Nat} (hk : k < b 3) (hx : x < 32) (hi0 : i0 < cgN b k) (hP0 : (b (112 + cgC b k i0)).testBit x = true) (hu : (∀ j, j < cgN b k → j ≠ i0 → (b (112 + cgC b k j)).testBit x = false) → popc (b (112 + cgC b k i0)) ≤ 1) : ∀ j i, i + j = cgN b k → i0 < i → (∀ y, y < i → y ≠ i0 → (b (112 + cgC b k y)).testBit x = false) → h_M_onlyOne_5 (d + 2) (nI k) (nI x) (nI (cgC b k i0)) (nI i) M = some (some (.int (-1)), M) := by
  have h12 := cg_12 hW hk
  have h6 := cgN_le hW hk
  have hc0 := cgC_lt hW hk hi0
  have hm0 := mk_lt hW hc0
  have hpl := popc_le (b (112 + cgC b k i0))
  intro j
  induction j with
  | zero =>
    intro i h h1 h2
    have hp := hu fun y hy => h2 y (by omega)
    refine e_M_onlyOne_5 ?_
    simp only [s_ofN hR h12, zC1_some, n_lt (show i < 2147483648 by omega) (show cgN b k < 2147483648 by omega), s_marks hR hc0, s_bits (show b (112 + cgC b k i0) < 2147483648 by omega), n_lt (show 1 < 2147483648 by omega) (show popc (b (112 + cgC b k i0)) < 2147483648 by omega)]
    rw [if_neg (by omega), if_neg (n_nem1 (by omega)), if_neg (by omega)]
  | succ j ih =>
    intro i h h1 h2
    have hi : i < cgN b k := by omega
    have hc := cgC_lt hW hk hi
    have hm := mk_lt hW hc
    cases hP : (b (112 + cgC b k i)).testBit x with
    | false =>
      have ih' := ih (i + 1) (by omega) (by omega) fun y hy hy2 => by
        by_cases e : y = i
        · rw [e]; exact hP
        · exact h2 y (by omega) hy2
      refine e_M_onlyOne_5 ?_
      simp only [s_ofN hR h12, zC1_some, n_lt (show i < 2147483648 by omega) (show cgN b k < 2147483648 by omega), s_cellOf hR h12 (show i < 6 by omega), s_marks hR hc, s_holds (show b (112 + cgC b k i) < 2147483648 by omega) hx, hP, nB0, if_true, n_add1, ih']
      rw [if_pos hi]
    | true =>
      refine e_M_onlyOne_5 ?_
      simp only [s_ofN hR h12, zC1_some, n_lt (show i < 2147483648 by omega) (show cgN b k < 2147483648 by omega), s_cellOf hR h12 (show i < 6 by omega), s_marks hR hc, s_holds (show b (112 + cgC b k i) < 2147483648 by omega) hx, hP, nB0, s_isDone hR hW hc]
      simp only [if_pos hi]
      rw [if_neg (show ¬ (true = false) by simp), if_neg (n_nem1 (show cgC b k i0 < 2147483648 by omega)), ite_self]
theorem s_onlyOne_b (hR : MR b M) (hW : Wf b) {k x : Nat} (hk : k < b 3) (hx : x < 32) (hu : ∀ i, i < cgN b k → (b (112 + cgC b k i)).testBit x = true → (∀ j, j < cgN b k → j ≠ i → (b (112 + cgC b k j)).testBit x = false) → popc (b (112 + cgC b k i)) ≤ 1) : ∀ j i, i + j = cgN b k → (∀ y, y < i → (b (112 + cgC b k y)).testBit x = false) → h_M_onlyOne_5 (d + 2) (nI k) (nI x) (-1) (nI i) M = some (some (.int (-1)), M) := by
  have h12 := cg_12 hW hk
  have h6 := cgN_le hW hk
  intro j
  induction j with
  | zero =>
    intro i h h2
    refine e_M_onlyOne_5 ?_
    simp only [s_ofN hR h12, zC1_some, n_lt (show i < 2147483648 by omega) (show cgN b k < 2147483648 by omega)]
    rw [if_neg (by omega), if_pos trivial]
  | succ j ih =>
    intro i h h2
    have hi : i < cgN b k := by omega
    have hc := cgC_lt hW hk hi
    have hm := mk_lt hW hc
    cases hP : (b (112 + cgC b k i)).testBit x with
    | false =>
      have ih' := ih (i + 1) (by omega) fun y hy => by
        by_cases e : y = i
        · rw [e]; exact hP
        · exact h2 y (by omega)
      refine e_M_onlyOne_5 ?_
      simp only [s_ofN hR h12, zC1_some, n_lt (show i < 2147483648 by omega) (show cgN b k < 2147483648 by omega), s_cellOf hR h12 (show i < 6 by omega), s_marks hR hc, s_holds (show b (112 + cgC b k i) < 2147483648 by omega) hx, hP, nB0, if_true, n_add1, ih']
      rw [if_pos hi]
    | true =>
      have g := s_onlyOne_a (d := d) hR hW hk hx hi hP (hu i hi hP) j (i + 1) (by omega) (by omega) fun y hy hy2 => h2 y (by omega)
      refine e_M_onlyOne_5 ?_
      simp only [s_ofN hR h12, zC1_some, n_lt (show i < 2147483648 by omega) (show cgN b k < 2147483648 by omega), s_cellOf hR h12 (show i < 6 by omega), s_marks hR hc, s_holds (show b (112 + cgC b k i) < 2147483648 by omega) hx, hP, nB0, s_isDone hR hW hc, n_add1, if_true, g]
      simp only [if_pos hi]
      rw [if_neg (show ¬ (true = false) by simp), ite_self]
theorem s_onlyOne_no (hR : MR b M) (hW : Wf b) (h : fdW b = none) {k x : Nat} (hk : k < b 3) (hx : x < 32) (hm : (mustD b (ways b k)).testBit x = true) : zEv (d + 3) zmM_onlyOne [.ref 866, .int (nI k), .int (nI x)] M = some (some (.int (-1)), M) :=
  e_M_onlyOne (s_onlyOne_b (d := d) hR hW hk hx (fun i hi _ hj => must_one h hk hi hm hj) (cgN b k) 0 (by omega) (fun y hy => absurd hy (Nat.not_lt_zero y)))
theorem mustD_lt (b : Nat → Nat) (L : List (List Nat)) : mustD b L < 256 := by
  unfold mustD
  cases L.isEmpty with
  | true => rw [cond_true]; omega
  | false => exact msk_lt 8 _
theorem s_findsMust_i (hR : MR b M) (hW : Wf b) (h : fdW b = none) {k : Nat} (hk : k < b 3) (h0 : M.1 866 12 = nI 0) (h10 : M.1 866 10 = nI (mustD b (ways b k))) : ∀ j x, x + j = b 2 + 1 → ∀ r, h_M_findsMust_2 (d + 11) (nI (k + 1)) M = some r → h_M_findsMust_36 (d + 11) (nI k) (nI x) M = some r := by
  have h12 := cg_12 hW hk
  have h27 := hW.1.2.2.1
  have hmu := mustD_lt b (ways b k)
  intro j
  induction j with
  | zero =>
    intro x hx r hr
    refine e_M_findsMust_36 ?_
    simp only [s_top hR, zC1_some, n_lt (show b 2 < 2147483648 by omega) (show x < 2147483648 by omega), n_add1]
    rw [if_pos (by omega)]
    exact hr
  | succ j ih =>
    intro x hx r hr
    have ih' := ih (x + 1) (by omega) r hr
    refine e_M_findsMust_36 ?_
    cases hb : (mustD b (ways b k)).testBit x with
    | false =>
      simp only [s_top hR, zC1_some, n_lt (show b 2 < 2147483648 by omega) (show x < 2147483648 by omega), n_add1, h0, if_true, h10, s_holds (show mustD b (ways b k) < 2147483648 by omega) (show x < 32 by omega), hb, nB0, ih']
      rw [if_neg (by omega)]
    | true =>
      simp only [s_top hR, zC1_some, n_lt (show b 2 < 2147483648 by omega) (show x < 2147483648 by omega), n_add1, h0, if_true, h10, s_holds (show mustD b (ways b k) < 2147483648 by omega) (show x < 32 by omega), hb, nB0, s_onlyOne_no hR hW h hk (show x < 32 by omega) hb, ih']
      rw [if_neg (by omega), if_neg (show ¬ (true = false) by simp)]
theorem s_findsMust_l (hW : Wf b) (h : fdW b = none) : ∀ j k (M : ZM), k + j = b 3 → MR b M → M.1 866 12 = nI 0 → ∃ M', h_M_findsMust_2 (d + 11) (nI k) M = some (none, M') ∧ frI (pW 0) M M' := by
  have h12 := hW.1.2.2.2
  intro j
  induction j with
  | zero =>
    intro k M hk hR h0
    refine ⟨M, ?_, fr.refl⟩
    refine e_M_findsMust_2 ?_
    simp only [s_cages hR, zC1_some, n_lt (show k < 2147483648 by omega) (show b 3 < 2147483648 by omega)]
    rw [if_neg (by omega)]
  | succ j ih =>
    intro k M hkj hR h0
    have hk : k < b 3 := by omega
    have hof := s_of (d := d + 10) hR (cg_12 hW hk) (show 2 < 10 by omega)
    rw [show 148 + 10 * k + 2 = 150 + 10 * k by omega] at hof
    have hu2 := (hW.2.2.2.2.2 k hk).1.2.2
    by_cases hu : b (150 + 10 * k) = 0
    · obtain ⟨M', a1, a2⟩ := ih (k + 1) M (by omega) hR h0
      refine ⟨M', ?_, a2⟩
      refine e_M_findsMust_2 ?_
      simp only [s_cages hR, zC1_some, n_lt (show k < 2147483648 by omega) (show b 3 < 2147483648 by omega), h0, if_true, hof, hu, n_add1, a1]
      rw [if_pos hk]
    · obtain ⟨M1, w1, w2, w3⟩ := s_laysWays (d := d) hR hW hk
      have r1 := hR.frW w3
      have h01 : M1.1 866 12 = nI 0 := (w3.1 866 12 (fun z => by unfold pW at z; omega)).trans h0
      obtain ⟨M', a1, a2⟩ := ih (k + 1) M1 (by omega) r1 h01
      refine ⟨M', ?_, w3.trans a2⟩
      have g := s_findsMust_i (d := d) r1 hW h hk h01 w2.2.2.2.1 (b 2) 1 (by omega) _ a1
      refine e_M_findsMust_2 ?_
      simp only [s_cages hR, zC1_some, n_lt (show k < 2147483648 by omega) (show b 3 < 2147483648 by omega), h0, if_true, hof, n_eq (show b (150 + 10 * k) < 2147483648 by omega) (show 0 < 2147483648 by omega), w1, zC0_some, g]
      rw [if_pos hk, if_neg hu]
theorem s_findsMust (hR : MR b M) (hW : Wf b) (h : fdW b = none) (h0 : M.1 866 12 = nI 0) : ∃ M', zEv (d + 12) zmM_findsMust [.ref 866] M = some (none, M') ∧ frI (pW 0) M M' := by
  obtain ⟨M', a1, a2⟩ := s_findsMust_l (d := d) hW h (b 3) 0 M (by omega) hR h0
  exact ⟨M', e_M_findsMust a1, a2⟩
theorem s_findsMust_n (hR : MR b M) (hW : Wf b) (h0 : ¬ M.1 866 12 = nI 0) : zEv (d + 12) zmM_findsMust [.ref 866] M = some (none, M) := by
  have h12 := hW.1.2.2.2
  refine e_M_findsMust (e_M_findsMust_2 ?_)
  simp only [s_cages hR, zC1_some, n_lt (show 0 < 2147483648 by omega) (show b 3 < 2147483648 by omega)]
  rw [if_neg h0, ite_self]
def twB (b : Nat → Nat) (p q : Nat) : Bool := (!decide (0 < b (40 + p)) && !decide (0 < b (40 + q))) && (decide (popc (b (112 + p)) = 2) && decide (b (112 + p) = b (112 + q)))
theorem s_areTwins (hR : MR b M) (hW : Wf b) {p q : Nat} (hp : p < 36) (hq : q < 36) : zEv (d + 2) zmM_areTwins [.ref 866, .int (nI p), .int (nI q)] M = some (some (.int (nB (twB b p q))), M) := by
  have hmp := mk_lt hW hp
  have hmq := mk_lt hW hq
  have hpl := popc_le (b (112 + p))
  refine e_M_areTwins ?_
  unfold twB
  simp only [s_isDone hR hW hp, s_isDone hR hW hq, zC1_some, nB0, s_marks hR hp, s_marks hR hq, s_bits (show b (112 + p) < 2147483648 by omega), n_eq (show popc (b (112 + p)) < 2147483648 by omega) (show 2 < 2147483648 by omega), n_eq (show b (112 + p) < 2147483648 by omega) (show b (112 + q) < 2147483648 by omega)]
  cases h1 : decide (0 < b (40 + p)) with
  | true => rfl
  | false =>
    cases h2 : decide (0 < b (40 + q)) with
    | true => rfl
    | false =>
      rw [if_pos rfl, if_pos rfl]
      by_cases h3 : popc (b (112 + p)) = 2
      · rw [if_pos h3, decide_eq_true h3]
        by_cases h4 : b (112 + p) = b (112 + q)
        · rw [if_pos h4, decide_eq_true h4]; rfl
        · rw [if_neg h4, decide_eq_false h4]; rfl
      · rw [if_neg h3, decide_eq_false h3]; rfl
theorem s_isElsewhere_no (hR : MR b M) (hW : Wf b) {k p q : Nat} (hk : k < b 3) (hp : p < 36) (hq : q < 36) (hn : ∀ l, l < cgN b k → cgC b k l ≠ p → cgC b k l ≠ q → b (112 + cgC b k l) &&& b (112 + p) = 0) : ∀ j i, i + j = cgN b k → h_M_isElsewhere_3 (d + 2) (nI k) (nI p) (nI q) (nI i) M = some (some (.int (nI 0)), M) := by
  have h12 := cg_12 hW hk
  have h6 := cgN_le hW hk
  intro j
  induction j with
  | zero =>
    intro i h
    refine e_M_isElsewhere_3 ?_
    simp only [s_ofN hR h12, zC1_some, n_lt (show i < 2147483648 by omega) (show cgN b k < 2147483648 by omega)]
    rw [if_neg (by omega)]
  | succ j ih =>
    intro i h
    have hi : i < cgN b k := by omega
    have hc := cgC_lt hW hk hi
    refine e_M_isElsewhere_3 ?_
    simp only [s_ofN hR h12, zC1_some, n_lt (show i < 2147483648 by omega) (show cgN b k < 2147483648 by omega), s_cellOf hR h12 (show i < 6 by omega), n_eq (show cgC b k i < 2147483648 by omega) (show p < 2147483648 by omega), n_eq (show cgC b k i < 2147483648 by omega) (show q < 2147483648 by omega), s_marks hR hc, s_marks hR hp, n_and, n_add1, ih (i + 1) (by omega)]
    rw [if_pos hi]
    by_cases e1 : cgC b k i = p
    · rw [if_pos e1]
    · rw [if_neg e1]
      by_cases e2 : cgC b k i = q
      · rw [if_pos e2]
      · rw [if_neg e2, hn i hi e1 e2, if_pos rfl]
theorem s_findsTwins_j (hR : MR b M) (hW : Wf b) (h : fdW b = none) {k i : Nat} (hk : k < b 3) (hi : i < cgN b k) (hu : cgU b k = true) (h0 : M.1 866 12 = nI 0) : ∀ t j, j + t = cgN b k → i < j → ∀ r, h_M_findsTwins_19 (d + 3) (nI k) (nI (i + 1)) M = some r → h_M_findsTwins_50 (d + 3) (nI k) (nI i) (nI j) M = some r := by
  have h12 := cg_12 hW hk
  have h6 := cgN_le hW hk
  have hc := cgC_lt hW hk hi
  have hinj : ∀ i j, i < j → j < cgN b k → cgC b k i < cgC b k j := (hW.2.2.2.2.2 k hk).2.2.2
  intro t
  induction t with
  | zero =>
    intro j hj hij r hr
    refine e_M_findsTwins_50 ?_
    simp only [s_ofN hR h12, zC1_some, n_lt (show j < 2147483648 by omega) (show cgN b k < 2147483648 by omega), n_add1]
    rw [if_neg (by omega)]
    exact hr
  | succ t ih =>
    intro j hj hij r hr
    have ih' := ih (j + 1) (by omega) (by omega) r hr
    have hj2 : j < cgN b k := by omega
    have hcj := cgC_lt hW hk hj2
    refine e_M_findsTwins_50 ?_
    cases htw : twB b (cgC b k i) (cgC b k j) with
    | false =>
      simp only [s_ofN hR h12, zC1_some, n_lt (show j < 2147483648 by omega) (show cgN b k < 2147483648 by omega), h0, if_true, s_cellOf hR h12 (show i < 6 by omega), s_cellOf hR h12 (show j < 6 by omega), s_areTwins hR hW hc hcj, htw, nB0, n_add1, ih']
      rw [if_pos hj2]
    | true =>
      unfold twB at htw
      rw [Bool.and_eq_true, Bool.and_eq_true, Bool.and_eq_true] at htw
      have hp := of_decide_eq_true htw.2.1
      have he := of_decide_eq_true htw.2.2
      have hE : zEv (d + 3) zmM_isElsewhere [.ref 866, .int (nI k), .int (nI (cgC b k i)), .int (nI (cgC b k j))] M = some (some (.int (nI 0)), M) :=
        e_M_isElsewhere (s_isElsewhere_no (d := d) hR hW hk hc hcj (fun l hl e1 e2 => twin_none hW h hk hi hj2 hl hu (by omega) (fun e => e1 (by rw [e])) (fun e => e2 (by rw [e])) hp he) (cgN b k) 0 (by omega))
      have htw' : twB b (cgC b k i) (cgC b k j) = true := by
        unfold twB
        rw [Bool.and_eq_true, Bool.and_eq_true, Bool.and_eq_true]
        exact htw
      simp only [s_ofN hR h12, zC1_some, n_lt (show j < 2147483648 by omega) (show cgN b k < 2147483648 by omega), h0, if_true, s_cellOf hR h12 (show i < 6 by omega), s_cellOf hR h12 (show j < 6 by omega), s_areTwins hR hW hc hcj, htw', nB0, hE, n_add1, ih']
      rw [if_pos hj2, if_neg (show ¬ (true = false) by simp)]
theorem s_findsTwins_i (hR : MR b M) (hW : Wf b) (h : fdW b = none) {k : Nat} (hk : k < b 3) (h0 : M.1 866 12 = nI 0) : ∀ t i, i + t = cgN b k → ∀ r, h_M_findsTwins_2 (d + 3) (nI (k + 1)) M = some r → h_M_findsTwins_19 (d + 3) (nI k) (nI i) M = some r := by
  have h12 := cg_12 hW hk
  have h6 := cgN_le hW hk
  have hof := s_of (d := d + 2) hR h12 (show 2 < 10 by omega)
  rw [show 148 + 10 * k + 2 = 150 + 10 * k by omega] at hof
  have hu2 := (hW.2.2.2.2.2 k hk).1.2.2
  intro t
  induction t with
  | zero =>
    intro i hi r hr
    refine e_M_findsTwins_19 ?_
    simp only [s_ofN hR h12, zC1_some, n_lt (show i < 2147483648 by omega) (show cgN b k < 2147483648 by omega), n_add1]
    rw [if_neg (by omega)]
    exact hr
  | succ t ih =>
    intro i hi r hr
    have hi2 : i < cgN b k := by omega
    refine e_M_findsTwins_19 ?_
    simp only [s_ofN hR h12, zC1_some, n_lt (show i < 2147483648 by omega) (show cgN b k < 2147483648 by omega), hof, n_eq (show b (150 + 10 * k) < 2147483648 by omega) (show 1 < 2147483648 by omega), h0, if_true, n_add1]
    rw [if_pos hi2]
    by_cases hu : b (150 + 10 * k) = 1
    · rw [if_pos hu]
      exact s_findsTwins_j hR hW h hk hi2 (decide_eq_true hu) h0 t (i + 1) (by omega) (by omega) r (ih (i + 1) (by omega) r hr)
    · rw [if_neg hu]
      exact hr
theorem s_findsTwins_l (hR : MR b M) (hW : Wf b) (h : fdW b = none) (h0 : M.1 866 12 = nI 0) : ∀ j k, k + j = b 3 → h_M_findsTwins_2 (d + 3) (nI k) M = some (none, M) := by
  have h12 := hW.1.2.2.2
  intro j
  induction j with
  | zero =>
    intro k hk
    refine e_M_findsTwins_2 ?_
    simp only [s_cages hR, zC1_some, n_lt (show k < 2147483648 by omega) (show b 3 < 2147483648 by omega)]
    rw [if_neg (by omega)]
  | succ j ih =>
    intro k hk
    refine e_M_findsTwins_2 ?_
    simp only [s_cages hR, zC1_some, n_lt (show k < 2147483648 by omega) (show b 3 < 2147483648 by omega), h0, if_true]
    rw [if_pos (by omega)]
    exact s_findsTwins_i hR hW h (by omega) h0 (cgN b k) 0 (by omega) _ (ih (k + 1) (by omega))
theorem s_findsTwins (hR : MR b M) (hW : Wf b) (h : fdW b = none) (h0 : M.1 866 12 = nI 0) : zEv (d + 4) zmM_findsTwins [.ref 866] M = some (none, M) := e_M_findsTwins (s_findsTwins_l hR hW h h0 (b 3) 0 (by omega))
theorem s_findsTwins_n (hR : MR b M) (hW : Wf b) (h0 : ¬ M.1 866 12 = nI 0) : zEv (d + 4) zmM_findsTwins [.ref 866] M = some (none, M) := by
  have h12 := hW.1.2.2.2
  refine e_M_findsTwins (e_M_findsTwins_2 ?_)
  simp only [s_cages hR, zC1_some, n_lt (show 0 < 2147483648 by omega) (show b 3 < 2147483648 by omega)]
  rw [if_neg h0, ite_self]
/-- the next step -/
def stp (b : Nat → Nat) : MSt := bif brk b then stp0 else match fdA b with
  | some c => stpA b c
  | none => match fdW b with
    | some k => stpW b k ((fdI b k).getD 0)
    | none => stp0
theorem s_findsStep (hR : MR b M) (hW : Wf b) : ∃ M', zEv (d + 13) zmM_findsStep [.ref 866] M = some (none, M') ∧ frI pN M M' ∧ MFd M' (stp b) := by
  obtain ⟨M1, q1, q2, q3⟩ := s_found (d := d + 11) (M := M) (q := nI 0) (c := -2) (e := -2) (g := -2)
  have r1 := hR.frS (frN_S q2)
  obtain ⟨M2, w1, w2⟩ := s_isBroken (d := d) r1 hW
  have r2 := r1.frS (frL_S w2)
  have keep : ∀ x, M2.1 866 x = M1.1 866 x := fun x => w2.1 866 x (fun z => by unfold pL at z; omega)
  have g2 : MFd M2 stp0 := ⟨(keep 12).trans q3.1, (keep 13).trans q3.2.1, (keep 14).trans q3.2.2.1, (keep 16).trans q3.2.2.2⟩
  have f2 := q2.trans (frL_N w2)
  have h0 : M2.1 866 12 = nI 0 := g2.1
  cases hb : brk b with
  | true =>
    refine ⟨M2, ?_, f2, by unfold stp; rw [hb]; exact g2⟩
    refine e_M_findsStep ?_
    simp only [q1, zC0_some, w1, zC1_some, hb, nB0]
    rw [if_neg (show ¬ (true = false) by simp)]
  | false =>
    obtain ⟨M3, a1, a2, a3⟩ := s_findsAlone (d := d + 8) r2 hW h0
    have run : ∀ r, zC0 (zEv (d + 12) zmM_findsWays [.ref 866] M3) (fun M10 => zC0 (zEv (d + 12) zmM_findsMust [.ref 866] M10) (fun M12 => zC0 (zEv (d + 12) zmM_findsTwins [.ref 866] M12) (fun M14 => some (none, M14)))) = some r → zEv (d + 13) zmM_findsStep [.ref 866] M = some r := by
      intro r hr
      refine e_M_findsStep ?_
      simp only [q1, zC0_some, w1, zC1_some, hb, nB0, if_true, a1]
      exact hr
    have r3 := r2.frS (frN_S a2)
    cases hA : fdA b with
    | some c =>
      rw [hA] at a3
      have hn : ¬ M3.1 866 12 = nI 0 := by rw [a3.1]; show ¬ nI 1 = nI 0; decide
      refine ⟨M3, run _ ?_, f2.trans a2, by unfold stp; rw [hb, hA]; exact a3⟩
      rw [s_findsWays_n (d := d) r3 hW hn]
      simp only [zC0_some, s_findsMust_n (d := d) r3 hW hn, s_findsTwins_n (d := d + 8) r3 hW hn]
    | none =>
      rw [hA] at a3
      have a3' : M3 = M2 := a3
      subst a3'
      obtain ⟨M4, c1, c2, c3⟩ := s_findsWays (d := d) r3 hW h0
      have r4 := r3.frS (frN_S c2)
      cases hF : fdW b with
      | some k =>
        rw [hF] at c3
        have hn : ¬ M4.1 866 12 = nI 0 := by rw [c3.1]; show ¬ nI 2 = nI 0; decide
        refine ⟨M4, run _ ?_, f2.trans c2, by unfold stp; rw [hb, hA, hF]; exact c3⟩
        rw [c1]
        simp only [zC0_some, s_findsMust_n (d := d) r4 hW hn, s_findsTwins_n (d := d + 8) r4 hW hn]
      | none =>
        rw [hF] at c3
        have c3' : frI (pW 0) M3 M4 := c3
        have k4 : ∀ x, x ≠ 7 → x ≠ 10 → M4.1 866 x = M3.1 866 x := fun x h7 h10 => c3'.1 866 x (fun z => by unfold pW at z; omega)
        obtain ⟨M5, e1, e2⟩ := s_findsMust (d := d) r4 hW hF ((k4 12 (by omega) (by omega)).trans h0)
        have r5 := r4.frW e2
        have k5 : ∀ x, x ≠ 7 → x ≠ 10 → M5.1 866 x = M3.1 866 x := fun x h7 h10 => (e2.1 866 x (fun z => by unfold pW at z; omega)).trans (k4 x h7 h10)
        have h05 : M5.1 866 12 = nI 0 := (k5 12 (by omega) (by omega)).trans h0
        refine ⟨M5, run _ ?_, (f2.trans c2).trans (frW_N e2), ?_⟩
        · rw [c1]
          simp only [zC0_some, e1, s_findsTwins (d := d + 8) r5 hW hF h05]
        · unfold stp
          rw [hb, hA, hF]
          exact ⟨h05, (k5 13 (by omega) (by omega)).trans g2.2.1, (k5 14 (by omega) (by omega)).trans g2.2.2.1, (k5 16 (by omega) (by omega)).trans g2.2.2.2⟩
end MO
