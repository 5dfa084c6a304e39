/-! THE MODEL, 38: letter -/
/-- a digit given -/
def sGiv (b : Nat → Nat) (c : Nat) : List Nat := if b (76 + c) = 0 then [] else wd 4 ++ (sCell b c ++ sNum (b (40 + c)))
def sHead (b : Nat → Nat) : List Nat := if 0 < b 2 then wd 9 ++ (sNum (b 0) ++ (sNum (b 1) ++ (wd 1 ++ (sNum (b 2) ++ sBlk b (b 0 * b 1))))) else []
/-- a board's text -/
def txt (b : Nat → Nat) : List Nat := sHead b ++ ((List.range (b 3)).flatMap (sCage b) ++ (List.range (b 0 * b 1)).flatMap (sGiv b))
def spLetter (b : Nat → Nat) (x : Int32) : Int32 := if x < -1 then -1 else if x = -1 then nI (txt b).length else fb x (txt b)
theorem sCage_len {b : Nat → Nat} (hW : Wf b) {k : Nat} (hk : k < b 3) : (sCage b k).length ≤ 90 := by
  have h6 := cgN_le hW hk
  have h7 : ∀ s, (wd (sortW s)).length ≤ 7 := fun s => wd_le (by unfold sortW; split <;> (try split) <;> (try split) <;> omega)
  have h8 : (sCg1 b k).length ≤ 8 := by
    unfold sCg1
    by_cases e : b (148 + 10 * k) = 3
    · rw [if_pos e]; exact Nat.zero_le _
    · rw [if_neg e]; exact sNum_len _
  have h9 : (sCg2 b k).length ≤ 7 := by
    unfold sCg2
    by_cases e : b (150 + 10 * k) = 0
    · rw [if_pos e]; exact wd_le (by omega)
    · rw [if_neg e]; exact Nat.zero_le _
  have h10 : (sCg3 b k).length ≤ 54 := by
    unfold sCg3
    have := flat_le (fun i => sCell b (cgC b k i)) 9 (fun i => sCell_len b _) (List.range (cgN b k))
    rw [List.length_range] at this
    omega
  unfold sCage
  rw [List.length_append, List.length_append, List.length_append, List.length_append]
  have := h7 (b (148 + 10 * k))
  have := wd_le (show 3 < 17 by omega)
  omega
theorem sGiv_len (b : Nat → Nat) (c : Nat) : (sGiv b c).length ≤ 24 := by
  unfold sGiv
  by_cases e : b (76 + c) = 0
  · rw [if_pos e]; exact Nat.zero_le _
  · rw [if_neg e, List.length_append, List.length_append]
    have := wd_le (show 4 < 17 by omega)
    have := sCell_len b c
    have := sNum_len (b (40 + c))
    omega
section MJ
variable {d : Nat} {M : ZM} {b : Nat → Nat} {w : Int32} {l : List Nat}
theorem s_letter_99 (hW : Wf b) (hw : w.toInt ≥ -1) : ∀ j i (M : ZM) (l : List Nat), i + j = b 0 * b 1 → MR b M → Spl w l M → l.length + 24 * j < 20000 → ∃ M', h_M_letter_99 (d + 5) w (nI i) M = some (some (.int (if w = -1 then nI (l ++ (List.range' i j).flatMap (sGiv b)).length else fb w (l ++ (List.range' i j).flatMap (sGiv b)))), M') ∧ frI pSp M M' := by
  have h36 := hW.n36
  have h27 := hW.1.2.2.1
  intro j
  induction j with
  | zero =>
    intro i M l h hR hS hl
    refine ⟨M, e_M_letter_99 ?_, fr.refl⟩
    rw [s_cells (d := d + 4) hR, zC1_some, if_neg (by rw [n_lt (by omega) (by omega)]; omega)]
    show _ = some (some (Value.int (if w = -1 then nI (l ++ []).length else fb w (l ++ []))), M)
    rw [List.append_nil, hS.1, hS.2.2]
    by_cases e : w = -1
    · rw [if_pos e, if_pos e]
    · rw [if_neg e, if_neg e]
  | succ j ih =>
    intro i M l h hR hS hl
    have hg := (hW.2.2.2.1 i (by omega))
    have hg1 := hg.1.2
    have hg2 := hg.2.1.1
    rw [List.range'_succ, List.flatMap_cons]
    by_cases e : b (76 + i) = 0
    · have eG : sGiv b i = [] := if_pos e
      rw [eG, List.nil_append]
      obtain ⟨M', a1, a2⟩ := ih (i + 1) M l (by omega) hR hS (by omega)
      refine ⟨M', e_M_letter_99 ?_, a2⟩
      rw [s_cells (d := d + 4) hR, zC1_some, if_pos ((n_lt (by omega) (by omega)).mpr (by omega)), n_add, if_pos ((n_zin (by omega)).mpr (by omega)), n_clamp (by omega), hR (76 + i) (by omega), e, if_pos rfl, n_add1]
      exact a1
    · have eG : sGiv b i = wd 4 ++ (sCell b i ++ sNum (b (40 + i))) := if_neg e
      have hl4 := wd_le (show 4 < 17 by omega)
      have hl5 := sCell_len b i
      have hl6 := sNum_len (b (40 + i))
      obtain ⟨M1, a1, a2, a3⟩ := s_spellWord (d := d) (j := 4) (by omega) hS (by omega)
      have r1 := hR.frSp a3
      obtain ⟨M2, b1, b2, b3⟩ := s_spellCell (d := d + 2) r1 hW (show i < b 0 * b 1 by omega) a2 (by rw [List.length_append]; omega)
      have r2 := r1.frSp b3
      obtain ⟨M3, c1, c2, c3⟩ := s_spellNumber (d := d + 2) (v := b (40 + i)) (by omega) b2 (by rw [List.length_append, List.length_append]; omega)
      have r3 := r2.frSp c3
      obtain ⟨M', k1, k2⟩ := ih (i + 1) M3 _ (by omega) r3 c2 (by rw [List.length_append, List.length_append, List.length_append]; omega)
      refine ⟨M', e_M_letter_99 ?_, ((a3.trans b3).trans c3).trans k2⟩
      rw [s_cells (d := d + 4) hR, zC1_some, if_pos ((n_lt (by omega) (by omega)).mpr (by omega)), n_add, if_pos ((n_zin (by omega)).mpr (by omega)), n_clamp (by omega), hR (76 + i) (by omega), if_neg (by rw [n_eq (by omega) (by omega)]; exact e), a1, zC0_some, b1, zC0_some, n_add, if_pos ((n_zin (by omega)).mpr (by omega)), n_clamp (by omega), r2 (40 + i) (by omega), c1, zC0_some, n_add1, eG, ← List.append_assoc, ← List.append_assoc, ← List.append_assoc]
      exact k1
theorem s_letter_78 (hW : Wf b) (hw : w.toInt ≥ -1) : ∀ j i (M : ZM) (l : List Nat), i + j = b 3 → MR b M → Spl w l M → l.length + 90 * j < 15000 → ∃ M', h_M_letter_78 (d + 6) w (nI i) M = some (some (.int (if w = -1 then nI (l ++ ((List.range' i j).flatMap (sCage b) ++ (List.range (b 0 * b 1)).flatMap (sGiv b))).length else fb w (l ++ ((List.range' i j).flatMap (sCage b) ++ (List.range (b 0 * b 1)).flatMap (sGiv b))))), M') ∧ frI pSp M M' := by
  have h12 := hW.1.2.2.2
  have h36 := hW.n36
  intro j
  induction j with
  | zero =>
    intro i M l h hR hS hl
    obtain ⟨M', a1, a2⟩ := s_letter_99 (d := d + 1) hW hw (b 0 * b 1) 0 M l (by omega) hR hS (by omega)
    refine ⟨M', e_M_letter_78 ?_, a2⟩
    rw [s_cages (d := d + 5) hR, zC1_some, if_neg (by rw [n_lt (by omega) (by omega)]; omega), List.range_eq_range']
    exact a1
  | succ j ih =>
    intro i M l h hR hS hl
    obtain ⟨M1, a1, a2, a3⟩ := s_spellCage (d := d) hR hW (show i < b 3 by omega) hS (by omega)
    have r1 := hR.frSp a3
    have := sCage_len hW (show i < b 3 by omega)
    obtain ⟨M', k1, k2⟩ := ih (i + 1) M1 _ (by omega) r1 a2 (by rw [List.length_append]; omega)
    refine ⟨M', e_M_letter_78 ?_, a3.trans k2⟩
    rw [s_cages (d := d + 5) hR, zC1_some, if_pos ((n_lt (by omega) (by omega)).mpr (by omega)), a1, zC0_some, n_add1, List.range'_succ, List.flatMap_cons, List.append_assoc, ← List.append_assoc l]
    exact k1
theorem s_letter_no {M : ZM} {x : Int32} (hx : x < -1) : zEv (d + 1) zmM_letter [.ref 866, .int x] M = some (some (.int (-1)), M) := by
  refine e_M_letter ?_
  rw [if_pos hx]
theorem s_letter (hR : MR b M) (hW : Wf b) (x : Int32) : ∃ M', zEv (d + 7) zmM_letter [.ref 866, .int x] M = some (some (.int (spLetter b x)), M') ∧ MR b M' ∧ frI pS M M' := by
  have h27 := hW.1.2.2.1
  have h12 := hW.1.2.2.2
  have h36 := hW.n36
  unfold spLetter
  by_cases hx : x < -1
  · rw [if_pos hx]
    exact ⟨M, s_letter_no hx, hR, fr.refl⟩
  · rw [if_neg hx]
    have hw : x.toInt ≥ -1 := by
      rw [Int32.lt_iff_toInt_lt] at hx
      have : (-1 : Int32).toInt = -1 := rfl
      omega
    have f0 : frI pS M (zpi (zpi (zpi M 866 31 (nI 0)) 866 32 x) 866 33 (-2)) := ((fr.refl.pi (by unfold pS; omega)).pi (by unfold pS; omega)).pi (by unfold pS; omega)
    have fS : ∀ {M M' : ZM}, frI pSp M M' → frI pS M M' := fun h => h.mono (fun a k z => by unfold pSp at z; unfold pS; omega) (fun _ _ z => z)
    have r0 := hR.frS f0
    have S0 : Spl x [] (zpi (zpi (zpi M 866 31 (nI 0)) 866 32 x) 866 33 (-2)) := by
      refine ⟨?_, ?_, ?_⟩
      · rw [m_pi, if_neg (by omega), m_pi, if_neg (by omega), m_pi, if_pos ⟨rfl, rfl⟩]; rfl
      · rw [m_pi, if_neg (by omega), m_pi, if_pos ⟨rfl, rfl⟩]
      · rw [m_pi, if_pos ⟨rfl, rfl⟩]
        unfold fb
        by_cases e : 0 ≤ x.toInt
        · rw [if_pos e]; rfl
        · rw [if_neg e]
    generalize hM0 : zpi (zpi (zpi M 866 31 (nI 0)) 866 32 x) 866 33 (-2) = M0 at *
    unfold txt sHead
    by_cases h2 : 0 < b 2
    · have l9 := wd_le (show 9 < 17 by omega)
      have l1 := wd_le (show 1 < 17 by omega)
      have n0 := sNum_len (b 0)
      have n1 := sNum_len (b 1)
      have n2 := sNum_len (b 2)
      have lB := sBlk_len b (b 0 * b 1)
      obtain ⟨M1, a1, a2, a3⟩ := s_spellWord (d := d + 1) (j := 9) (by omega) S0 (by show 0 < _; omega)
      have r1 := r0.frSp a3
      rw [List.nil_append] at a2
      obtain ⟨M2, b1, b2, b3⟩ := s_spellNumber (d := d + 3) (v := b 0) (by have := hW.1.1; omega) a2 (by omega)
      have r2 := r1.frSp b3
      obtain ⟨M3, c1, c2, c3⟩ := s_spellNumber (d := d + 3) (v := b 1) (by have := hW.1.2.1; omega) b2 (by rw [List.length_append]; omega)
      have r3 := r2.frSp c3
      obtain ⟨M4, d1, d2, d3⟩ := s_spellWord (d := d + 1) (j := 1) (by omega) c2 (by rw [List.length_append, List.length_append]; omega)
      have r4 := r3.frSp d3
      obtain ⟨M5, e1, e2, e3⟩ := s_spellNumber (d := d + 3) (v := b 2) (by omega) d2 (by rw [List.length_append, List.length_append, List.length_append]; omega)
      have r5 := r4.frSp e3
      obtain ⟨M6, g1, g2, g3⟩ := s_spellBlocks (d := d) r5 hW e2 (by rw [List.length_append, List.length_append, List.length_append, List.length_append]; omega)
      have r6 := r5.frSp g3
      obtain ⟨M', k1, k2⟩ := s_letter_78 (d := d) hW hw (b 3) 0 M6 _ (by omega) r6 g2 (by rw [List.length_append, List.length_append, List.length_append, List.length_append, List.length_append]; omega)
      refine ⟨M', e_M_letter ?_, r6.frSp k2, f0.trans (fS ((((((a3.trans b3).trans c3).trans d3).trans e3).trans g3).trans k2))⟩
      rw [if_neg hx, hM0, s_isBoard (d := d + 4) r0 hW, zC1_some, decide_eq_true h2, if_neg (by decide), a1, zC0_some, r1 0 (by omega), b1, zC0_some, r2 1 (by omega), c1, zC0_some, d1, zC0_some, s_top (d := d + 5) r4, zC1_some, e1, zC0_some, g1, zC0_some, k1]
      simp only [if_pos h2, List.append_assoc, List.range_eq_range']
    · obtain ⟨M', k1, k2⟩ := s_letter_78 (d := d) hW hw (b 3) 0 M0 _ (by omega) r0 S0 (by show 0 + _ < _; omega)
      refine ⟨M', e_M_letter ?_, r0.frSp k2, f0.trans (fS k2)⟩
      rw [if_neg hx, hM0, s_isBoard (d := d + 4) r0 hW, zC1_some, decide_eq_false h2, if_pos (show nB false = nI 0 from rfl), k1]
      simp only [if_neg h2, List.append_assoc, List.range_eq_range']
end MJ
