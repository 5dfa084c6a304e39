/-! THE MODEL, 17: the next step by what is alone, by ways -/
/-- marks of a cage's cell that no way has -/
def outM (b : Nat → Nat) (k i : Nat) : Nat := b (112 + cgC b k i) ^^^ (b (112 + cgC b k i) &&& couldD (ways b k) i)
def fdA (b : Nat → Nat) : Option Nat := (List.range (b 0 * b 1)).find? fun c => isO b c && (!decide (0 < b (40 + c)) && decide (popc (b (112 + c)) = 1))
def fdI (b : Nat → Nat) (k : Nat) : Option Nat := (List.range (cgN b k)).find? fun i => !decide (outM b k i = 0)
def fdW (b : Nat → Nat) : Option Nat := (List.range (b 3)).find? fun k => (fdI b k).isSome
/-- a found step: kind, cage, cell, digit -/
abbrev MSt := Nat × Int32 × Int32 × Int32
def stp0 : MSt := (0, -2, -2, -2)
def stpA (b : Nat → Nat) (c : Nat) : MSt := (1, -2, nI c, nI (lst (b (112 + c))))
def stpW (b : Nat → Nat) (k i : Nat) : MSt := (2, nI k, nI (cgC b k i), nI (lst (outM b k i)))
def MFd (M : ZM) (s : MSt) : Prop := M.1 866 12 = nI s.1 ∧ M.1 866 13 = s.2.1 ∧ M.1 866 14 = s.2.2.1 ∧ M.1 866 16 = s.2.2.2
def pN : Nat → Nat → Prop := fun a k => (a = 866 ∧ (k = 7 ∨ k = 10 ∨ k = 12 ∨ k = 13 ∨ k = 14 ∨ k = 15 ∨ k = 16)) ∨ (872 ≤ a ∧ a ≤ 875)
theorem frL_N {i : Nat} {M M' : ZM} (h : frI (pL i) M M') : frI pN M M' := h.mono (fun a k z => by unfold pL at z; unfold pN; omega) (fun _ _ z => z)
theorem frW_N {i : Nat} {M M' : ZM} (h : frI (pW i) M M') : frI pN M M' := h.mono (fun a k z => by unfold pW at z; unfold pN; omega) (fun _ _ z => z)
theorem frN_S {M M' : ZM} (h : frI pN M M') : frI pS M M' := h.mono (fun a k z => by unfold pN at z; unfold pS; omega) (fun _ _ z => z)
theorem outM_lt {b : Nat → Nat} (hW : Wf b) {k i : Nat} (hk : k < b 3) (hi : i < cgN b k) : outM b k i < 256 := by
  have h := mk_lt hW (cgC_lt hW hk hi)
  have h2 : b (112 + cgC b k i) &&& couldD (ways b k) i < 2 ^ 8 := Nat.lt_of_le_of_lt Nat.and_le_left (by omega)
  unfold outM
  exact Nat.xor_lt_two_pow (n := 8) (by omega) h2
theorem outM_bit {b : Nat → Nat} {k i z : Nat} : (outM b k i).testBit z = ((b (112 + cgC b k i)).testBit z && !(couldD (ways b k) i).testBit z) := by
  unfold outM
  rw [Nat.testBit_xor, Nat.testBit_and]
  cases (b (112 + cgC b k i)).testBit z <;> cases (couldD (ways b k) i).testBit z <;> rfl
theorem outM_ex {b : Nat → Nat} (hW : Wf b) {k i : Nat} (hk : k < b 3) (hi : i < cgN b k) (h : outM b k i ≠ 0) : ∃ z, 1 ≤ z ∧ z < 8 ∧ (outM b k i).testBit z = true := by
  have hc := cgC_lt hW hk hi
  obtain ⟨z, hz⟩ := Nat.exists_testBit_of_ne_zero h
  have hlt := outM_lt hW hk hi
  refine ⟨z, ?_, ?_, hz⟩
  · by_cases e : z = 0
    · rw [outM_bit, e, (hW.2.2.2.1 _ hc).2.1.2.2, Bool.false_and] at hz
      cases hz
    · omega
  · have h1 : 2 ^ z ≤ outM b k i := Nat.ge_two_pow_of_testBit hz
    exact (Nat.pow_lt_pow_iff_right (a := 2) (by omega)).mp (show 2 ^ z < 2 ^ 8 by omega)
section MF
variable {d : Nat} {M : ZM} {b : Nat → Nat}
theorem s_found {q c e g : Int32} : ∃ M', zEv (d + 1) zmM_found [.ref 866, .int q, .int c, .int e, .int g] M = some (none, M') ∧ frI pN M M' ∧ M'.1 866 12 = q ∧ M'.1 866 13 = c ∧ M'.1 866 14 = e ∧ M'.1 866 16 = g := by
  refine ⟨_, e_M_found rfl, ?_, ?_, ?_, ?_, ?_⟩
  · exact (((fr.refl.pi (show pN 866 12 by unfold pN; omega)).pi (show pN 866 13 by unfold pN; omega)).pi (show pN 866 14 by unfold pN; omega)).pi (show pN 866 16 by unfold pN; omega)
  · rw [m_pi, if_neg (by omega), m_pi, if_neg (by omega), m_pi, if_neg (by omega), m_pi, if_pos ⟨rfl, rfl⟩]
  · rw [m_pi, if_neg (by omega), m_pi, if_neg (by omega), m_pi, if_pos ⟨rfl, rfl⟩]
  · rw [m_pi, if_neg (by omega), m_pi, if_pos ⟨rfl, rfl⟩]
  · rw [m_pi, if_pos ⟨rfl, rfl⟩]
theorem x_fa (hR : MR b M) (hW : Wf b) {c : Nat} (hc : c < 2147483648) (h : ¬ M.1 866 12 = nI 0) : h_M_findsAlone_2 (d + 3) (nI c) M = some (none, M) := by
  have h36 := hW.n36
  refine e_M_findsAlone_2 ?_
  simp only [s_cells hR, zC1_some, n_lt hc (show b 0 * b 1 < 2147483648 by omega)]
  rw [if_neg h, ite_self]
theorem s_findsAlone_l (hW : Wf b) : ∀ j c (M : ZM), c + j = b 0 * b 1 → MR b M → M.1 866 12 = nI 0 → ∃ M', h_M_findsAlone_2 (d + 3) (nI c) M = some (none, M') ∧ frI pN M M' ∧ (match (List.range' c j).find? (fun c => isO b c && (!decide (0 < b (40 + c)) && decide (popc (b (112 + c)) = 1))) with
      | none => M' = M
      | some c => MFd M' (stpA b c)) := by
  have h36 := hW.n36
  intro j
  induction j with
  | zero =>
    intro c M h hR h0
    refine ⟨M, ?_, fr.refl, rfl⟩
    refine e_M_findsAlone_2 ?_
    simp only [s_cells hR, zC1_some, n_lt (show c < 2147483648 by omega) (show b 0 * b 1 < 2147483648 by omega)]
    rw [if_neg (by omega)]
  | succ j ih =>
    intro c M h hR h0
    have hc : c < 36 := by omega
    have hmk := mk_lt hW hc
    have hpl := popc_le (b (112 + c))
    obtain ⟨M', a1, a2, a3⟩ := ih (c + 1) M (by omega) hR h0
    rw [List.range'_succ, List.find?_cons]
    cases hO : isO b c with
    | false =>
      refine ⟨M', ?_, a2, a3⟩
      refine e_M_findsAlone_2 ?_
      simp only [s_cells hR, zC1_some, n_lt (show c < 2147483648 by omega) (show b 0 * b 1 < 2147483648 by omega), h0, if_true, s_isOpen hR hW (show c < 2147483648 by omega), hO, nB0, n_add1, a1]
      rw [if_pos (by omega)]
    | true =>
      cases hD : decide (0 < b (40 + c)) with
      | true =>
        refine ⟨M', ?_, a2, a3⟩
        refine e_M_findsAlone_2 ?_
        simp only [s_cells hR, zC1_some, n_lt (show c < 2147483648 by omega) (show b 0 * b 1 < 2147483648 by omega), h0, if_true, s_isOpen hR hW (show c < 2147483648 by omega), hO, nB0, s_isDone hR hW hc, hD, n_add1, a1]
        simp only [if_pos (show c < b 0 * b 1 by omega)]
        rfl
      | false =>
        by_cases hp : popc (b (112 + c)) = 1
        · rw [decide_eq_true hp]
          have hz : b (112 + c) ≠ 0 := fun e => by rw [e] at hp; revert hp; decide
          obtain ⟨M1, q1, q2, q3⟩ := s_found (d := d + 2) (M := M) (q := nI 1) (c := -2) (e := nI c) (g := nI (lst (b (112 + c))))
          have r1 := hR.frS (frN_S q2)
          refine ⟨M1, ?_, q2, q3⟩
          refine e_M_findsAlone_2 ?_
          simp only [s_cells hR, zC1_some, n_lt (show c < 2147483648 by omega) (show b 0 * b 1 < 2147483648 by omega), h0, if_true, s_isOpen hR hW (show c < 2147483648 by omega), hO, nB0, s_isDone hR hW hc, hD, s_marks hR hc, s_bits (show b (112 + c) < 2147483648 by omega), n_eq (show popc (b (112 + c)) < 2147483648 by omega) (show 1 < 2147483648 by omega), s_least (show b (112 + c) < 2147483648 by omega) (mk_bit hW hc hz), q1, zC0_some, n_add1, x_fa r1 hW (show c + 1 < 2147483648 by omega) (show ¬ M1.1 866 12 = nI 0 by rw [q3.1]; decide)]
          simp only [if_pos (show c < b 0 * b 1 by omega), if_pos hp]
          rfl
        · rw [decide_eq_false hp]
          refine ⟨M', ?_, a2, a3⟩
          refine e_M_findsAlone_2 ?_
          simp only [s_cells hR, zC1_some, n_lt (show c < 2147483648 by omega) (show b 0 * b 1 < 2147483648 by omega), h0, if_true, s_isOpen hR hW (show c < 2147483648 by omega), hO, nB0, s_isDone hR hW hc, hD, s_marks hR hc, s_bits (show b (112 + c) < 2147483648 by omega), n_eq (show popc (b (112 + c)) < 2147483648 by omega) (show 1 < 2147483648 by omega), n_add1, a1]
          simp only [if_pos (show c < b 0 * b 1 by omega), if_neg hp]
          rfl
theorem s_findsAlone (hR : MR b M) (hW : Wf b) (h0 : M.1 866 12 = nI 0) : ∃ M', zEv (d + 4) zmM_findsAlone [.ref 866] M = some (none, M') ∧ frI pN M M' ∧ (match fdA b with
      | none => M' = M
      | some c => MFd M' (stpA b c)) := by
  obtain ⟨M', a1, a2, a3⟩ := s_findsAlone_l (d := d) hW (b 0 * b 1) 0 M (by omega) hR h0
  refine ⟨M', e_M_findsAlone a1, a2, ?_⟩
  unfold fdA
  rw [List.range_eq_range']
  exact a3
theorem s_findsAlone_n (hR : MR b M) (hW : Wf b) (h0 : ¬ M.1 866 12 = nI 0) : zEv (d + 4) zmM_findsAlone [.ref 866] M = some (none, M) := e_M_findsAlone (x_fa hR hW (by omega) h0)
theorem x_fw (hR : MR b M) (hW : Wf b) {k : Nat} (hk : k < 2147483648) (h : ¬ M.1 866 12 = nI 0) : h_M_findsWays_2 (d + 11) (nI k) M = some (none, M) := by
  have h12 := hW.1.2.2.2
  refine e_M_findsWays_2 ?_
  simp only [s_cages hR, zC1_some, n_lt hk (show b 3 < 2147483648 by omega)]
  rw [if_neg h, ite_self]
theorem x_fw2 (hR : MR b M) (hW : Wf b) {k i : Nat} (hk : k < b 3) (hi : i < 2147483648) (h : ¬ M.1 866 12 = nI 0) : h_M_findsWays_24 (d + 11) (nI k) (nI i) M = some (none, M) := by
  have h12 := cg_12 hW hk
  have h6 := cgN_le hW hk
  refine e_M_findsWays_24 ?_
  simp only [s_ofN hR h12, zC1_some, n_lt hi (show cgN b k < 2147483648 by omega), n_add1, x_fw hR hW (show k + 1 < 2147483648 by omega) h]
  rw [if_neg h, ite_self]
/-- one cage's cells -/
theorem s_findsWays_i (hW : Wf b) {k : Nat} (hk : k < b 3) (hR : MR b M) (h0 : M.1 866 12 = nI 0) (h4 : ∀ i, i < 6 → M.1 874 i = nI (couldD (ways b k) i)) : ∀ j i, i + j = cgN b k →
    (match (List.range' i j).find? (fun i => !decide (outM b k i = 0)) with
      | none => ∀ r, h_M_findsWays_2 (d + 11) (nI (k + 1)) M = some r → h_M_findsWays_24 (d + 11) (nI k) (nI i) M = some r
      | some z => ∃ M', h_M_findsWays_24 (d + 11) (nI k) (nI i) M = some (none, M') ∧ frI pN M M' ∧ MFd M' (stpW b k z)) := by
  have h12 := cg_12 hW hk
  have h6 := cgN_le hW hk
  intro j
  induction j with
  | zero =>
    intro i h
    show ∀ r, _
    intro r hr
    refine e_M_findsWays_24 ?_
    simp only [s_ofN hR h12, zC1_some, n_lt (show i < 2147483648 by omega) (show cgN b k < 2147483648 by omega), n_add1]
    rw [if_neg (by omega)]
    exact hr
  | succ j ih =>
    intro i h
    have ih' := ih (i + 1) (by omega)
    have hi : i < cgN b k := by omega
    have hc := cgC_lt hW hk hi
    have hlt := outM_lt hW hk hi
    have step : ∀ r, (if outM b k i = 0 then h_M_findsWays_24 (d + 11) (nI k) (nI (i + 1)) M else zC1 (zEv (d + 11) zmM_least [.ref 866, .int (nI (outM b k i))] M) (fun v21 M20 => zC0 (zEv (d + 11) zmM_found [.ref 866, .int (nI 2), .int (nI k), .int (nI (cgC b k i)), .int v21] M20) (fun M23 => h_M_findsWays_24 (d + 11) (nI k) (nI (i + 1)) M23))) = some r → h_M_findsWays_24 (d + 11) (nI k) (nI i) M = some r := by
      intro r hr
      refine e_M_findsWays_24 ?_
      simp only [s_ofN hR h12, zC1_some, n_lt (show i < 2147483648 by omega) (show cgN b k < 2147483648 by omega), h0, if_true, s_cellOf hR h12 (show i < 6 by omega), s_marks hR hc, n_zin (show i < 2147483648 by omega), n_clamp (show i < 2147483648 by omega), h4 i (by omega), n_clr, zL, n_add1]
      simp only [if_pos hi, if_pos (show i < 6 by omega)]
      have e : b (112 + cgC b k i) ^^^ (b (112 + cgC b k i) &&& couldD (ways b k) i) = outM b k i := rfl
      rw [e]
      simp only [n_eq (show outM b k i < 2147483648 by omega) (show 0 < 2147483648 by omega)]
      exact hr
    by_cases ho : outM b k i = 0
    · have eF : (List.range' i (j + 1)).find? (fun i => !decide (outM b k i = 0)) = (List.range' (i + 1) j).find? (fun i => !decide (outM b k i = 0)) := by
        rw [List.range'_succ, List.find?_cons_of_neg (by rw [decide_eq_true ho]; simp)]
      rw [eF]
      rw [if_pos ho] at step
      split at ih' <;> rename_i hF
      · exact fun r hr => step r (ih' r hr)
      · obtain ⟨M', a1, a2⟩ := ih'
        exact ⟨M', step _ a1, a2⟩
    · have eF : (List.range' i (j + 1)).find? (fun i => !decide (outM b k i = 0)) = some i := by
        rw [List.range'_succ, List.find?_cons_of_pos (by rw [decide_eq_false ho]; rfl)]
      rw [eF]
      rw [if_neg ho] at step
      obtain ⟨M1, q1, q2, q3⟩ := s_found (d := d + 10) (M := M) (q := nI 2) (c := nI k) (e := nI (cgC b k i)) (g := nI (lst (outM b k i)))
      refine ⟨M1, step _ ?_, q2, q3⟩
      rw [s_least (d := d + 9) (show outM b k i < 2147483648 by omega) (outM_ex hW hk hi ho)]
      simp only [zC1_some, q1, zC0_some]
      exact x_fw2 (hR.frS (frN_S q2)) hW hk (by omega) (by rw [q3.1]; decide)
theorem s_findsWays_l (hW : Wf b) : ∀ j k (M : ZM), k + j = b 3 → MR b M → M.1 866 12 = nI 0 → ∃ M', h_M_findsWays_2 (d + 11) (nI k) M = some (none, M') ∧ frI pN M M' ∧ (match (List.range' k j).find? (fun k => (fdI b k).isSome) with
      | none => frI (pW 0) M M'
      | some k => MFd M' (stpW b k ((fdI b k).getD 0))) := by
  have h12 := hW.1.2.2.2
  intro j
  induction j with
  | zero =>
    intro k M h hR h0
    refine ⟨M, ?_, fr.refl, fr.refl⟩
    refine e_M_findsWays_2 ?_
    simp only [s_cages hR, zC1_some, n_lt (show k < 2147483648 by omega) (show b 3 < 2147483648 by omega)]
    rw [if_neg (by omega)]
  | succ j ih =>
    intro k M h hR h0
    have hk : k < b 3 := by omega
    obtain ⟨M1, w1, w2, w3⟩ := s_laysWays (d := d) hR hW hk
    have r1 := hR.frW w3
    have h01 : M1.1 866 12 = nI 0 := (w3.1 866 12 (fun z => by unfold pW at z; omega)).trans h0
    have hI := s_findsWays_i (d := d) hW hk r1 h01 w2.2.2.1 (cgN b k) 0 (by omega)
    have step : ∀ r, h_M_findsWays_24 (d + 11) (nI k) (nI 0) M1 = some r → h_M_findsWays_2 (d + 11) (nI k) M = some r := by
      intro r hr
      refine e_M_findsWays_2 ?_
      simp only [s_cages hR, zC1_some, n_lt (show k < 2147483648 by omega) (show b 3 < 2147483648 by omega), h0, if_true, w1, zC0_some]
      rw [if_pos hk]
      exact hr
    rw [List.range'_succ, List.find?_cons]
    have eI : (List.range' 0 (cgN b k)).find? (fun i => !decide (outM b k i = 0)) = fdI b k := by unfold fdI; rw [List.range_eq_range']
    rw [eI] at hI
    cases hF : fdI b k with
    | none =>
      rw [hF] at hI
      obtain ⟨M', a1, a2, a3⟩ := ih (k + 1) M1 (by omega) r1 h01
      refine ⟨M', step _ (hI _ a1), (frW_N w3).trans a2, ?_⟩
      show match (List.range' (k + 1) j).find? (fun k => (fdI b k).isSome) with
        | none => frI (pW 0) M M'
        | some k => MFd M' (stpW b k ((fdI b k).getD 0))
      split at a3 <;> rename_i hG
      · exact w3.trans a3
      · exact a3
    | some z =>
      rw [hF] at hI
      obtain ⟨M', a1, a2, a3⟩ := hI
      refine ⟨M', step _ a1, (frW_N w3).trans a2, ?_⟩
      show MFd M' (stpW b k ((fdI b k).getD 0))
      rw [hF]
      exact a3
theorem s_findsWays (hR : MR b M) (hW : Wf b) (h0 : M.1 866 12 = nI 0) : ∃ M', zEv (d + 12) zmM_findsWays [.ref 866] M = some (none, M') ∧ frI pN M M' ∧ (match fdW b with
      | none => frI (pW 0) M M'
      | some k => MFd M' (stpW b k ((fdI b k).getD 0))) := by
  obtain ⟨M', a1, a2, a3⟩ := s_findsWays_l (d := d) hW (b 3) 0 M (by omega) hR h0
  refine ⟨M', e_M_findsWays a1, a2, ?_⟩
  unfold fdW
  rw [List.range_eq_range']
  exact a3
theorem s_findsWays_n (hR : MR b M) (hW : Wf b) (h0 : ¬ M.1 866 12 = nI 0) : zEv (d + 12) zmM_findsWays [.ref 866] M = some (none, M) := e_M_findsWays (x_fw hR hW (by omega) h0)
end MF
