/-! THE CLASS, 6: letter -/
section QG
variable {d : Nat} {M : ZM} {b : Nat → Nat} {q : Nat} {l : List Nat}
theorem q_write_84 (hq : zkd q = (10, 0)) (hq2 : q + 18 < 630 ∨ 631 < q) (hW : Wf b) (hD : WfD b) : ∀ j i (M : ZM) (l : List Nat), i + j = 36 → BRep b q M → Wr l M → l.length + ((List.range' i (b 0 * b 1 - i)).flatMap (sGiv b)).length ≤ 1024 → ∃ M', h_W_writeBoard_84 (d + 5) q (nI i) M = some (none, M') ∧ Wr (l ++ (List.range' i (b 0 * b 1 - i)).flatMap (sGiv b)) M' ∧ frI pWr M M' := by
  have h36 := hW.n36
  have h12 := hW.1.2.2.2
  have h27 := hW.1.2.2.1
  intro j
  induction j with
  | zero =>
    intro i M l h hB hS hl
    rw [show b 0 * b 1 - i = 0 by omega]
    refine ⟨M, e_W_writeBoard_84 hq ?_, by show Wr (l ++ []) M; rw [List.append_nil]; exact hS, fr.refl⟩
    rw [if_neg (by rw [n_lt (by omega) (by omega)]; omega)]
  | succ j ih =>
    intro i M l h hB hS hl
    by_cases hi : i < b 0 * b 1
    · have eR : List.range' i (b 0 * b 1 - i) = i :: List.range' (i + 1) (b 0 * b 1 - (i + 1)) := by
        rw [show b 0 * b 1 - i = (b 0 * b 1 - (i + 1)) + 1 by omega, List.range'_succ]
      rw [eR, List.flatMap_cons] at hl ⊢
      have g := hW.2.2.2.1 i (by omega)
      have eG : gI b (nI i) = decide (b (76 + i) = 1) := by
        unfold gI
        rw [iI_n (by omega), decide_eq_true hi, n_toInt (by omega), Int.toNat_natCast, Bool.true_and]
      by_cases e : b (76 + i) = 1
      · have eS : sGiv b i = wd 4 ++ (sCell b i ++ sNum (b (40 + i))) := if_neg (by omega)
        have hd := (hD i (by omega)).1 e
        have hm := (hD i (by omega)).2 hd
        rw [eS] at hl
        rw [List.length_append, List.length_append, List.length_append, wd_lens.2.2.2.2.2, sCell_3 hW hi, sNum_1 (by have := g.2.1.1; omega)] at hl
        obtain ⟨M1, a1, a2, a3⟩ := q_addSign (d := d + 4) hS (by omega) 59
        obtain ⟨M2, b1, b2, b3⟩ := q_addWord_n (d := d) (j := 12) (by omega) a2 (by rw [wd_l4.2.2.2.2]; omega)
        have hE2 : Ends (l ++ 59 :: wd 12) := Ends.app (Ends.app (l := [59]) (wd_ends (show 12 < 17 by omega)))
        have hB2 := (hB.frWr a3 hq2 h12).frWr b3 hq2 h12
        obtain ⟨M3, c1, c2, c3, c4⟩ := q_addCell (d := d + 2) hq hB2.1.1.1 hW hi (by omega) b2 hE2 (by rw [List.length_append, List.length_cons, wd_l4.2.2.2.2]; omega)
        have hB3 := hB2.frWr c3 hq2 h12
        obtain ⟨M4, p1, p2, p3⟩ := q_addNumber (d := d + 2) (v := b (40 + i)) (by have := g.2.1.1; omega) c2 c4 (by rw [List.length_append, List.length_append, List.length_cons, wd_l4.2.2.2.2, sCell_3 hW hi, sNum_1 (by have := g.2.1.1; omega)]; omega)
        have hB4 := hB3.frWr p3 hq2 h12
        have eq : l ++ 59 :: wd 12 ++ sCell b i ++ sNum (b (40 + i)) = l ++ sGiv b i := by
          rw [eS, wd_eqs.2.2.2.2]
          simp
        rw [eq] at p2
        obtain ⟨M', k1, k2, k3⟩ := ih (i + 1) M4 _ (by omega) hB4 p2 (by rw [List.length_append, eS, List.length_append, List.length_append, wd_lens.2.2.2.2.2, sCell_3 hW hi, sNum_1 (by have := g.2.1.1; omega)]; omega)
        rw [List.append_assoc] at k2
        refine ⟨M', e_W_writeBoard_84 hq ?_, k2, (((a3.trans b3).trans c3).trans p3).trans k3⟩
        rw [if_pos ((n_lt (by omega) (by omega)).mpr (by omega)), q_isGiven (d := d + 3) hq hB.sc hW.wk, zC1_some, eG, decide_eq_true e, if_neg (by decide), a1, zC0_some, b1, zC0_some, c1, zC0_some, q_digitOf (d := d + 3) hq hB3 hW.wk hi, zC1_some, hm, lst_pow _ hd (by have := g.2.1.1; omega), p1, zC0_some, n_add1]
        exact k1
      · have eS : sGiv b i = [] := if_pos (by have := g.1.2; omega)
        rw [eS, List.nil_append] at hl ⊢
        obtain ⟨M', k1, k2⟩ := ih (i + 1) M l (by omega) hB hS hl
        refine ⟨M', e_W_writeBoard_84 hq ?_, k2⟩
        rw [if_pos ((n_lt (by omega) (by omega)).mpr (by omega)), q_isGiven (d := d + 3) hq hB.sc hW.wk, zC1_some, eG, decide_eq_false e, if_pos (show nB false = nI 0 from rfl), n_add1]
        exact k1
    · have e1 : b 0 * b 1 - i = 0 := by omega
      have e2 : b 0 * b 1 - (i + 1) = 0 := by omega
      have eG : gI b (nI i) = false := by
        unfold gI
        rw [iI_n (by omega), decide_eq_false hi, Bool.false_and]
      obtain ⟨M', k1, k2⟩ := ih (i + 1) M l (by omega) hB hS (by rw [e2]; rw [e1] at hl; exact hl)
      rw [e2] at k2
      rw [e1]
      refine ⟨M', e_W_writeBoard_84 hq ?_, k2⟩
      rw [if_pos ((n_lt (by omega) (by omega)).mpr (by omega)), q_isGiven (d := d + 3) hq hB.sc hW.wk, zC1_some, eG, if_pos (show nB false = nI 0 from rfl), n_add1]
      exact k1
theorem q_write_56 (hq : zkd q = (10, 0)) (hq2 : q + 18 < 630 ∨ 631 < q) (hW : Wf b) (hD : WfD b) : ∀ j i (M : ZM) (l : List Nat), i + j = b 3 → BRep b q M → Wr l M → l.length + (44 * j + ((List.range (b 0 * b 1)).flatMap (sGiv b)).length) ≤ 1024 → ∃ M', h_W_writeBoard_56 (d + 6) q (nI i) M = some (none, M') ∧ Wr (l ++ ((List.range' i j).flatMap (sCage b) ++ (List.range (b 0 * b 1)).flatMap (sGiv b))) M' ∧ frI pWr M M' := by
  have h12 := hW.1.2.2.2
  intro j
  induction j with
  | zero =>
    intro i M l h hB hS hl
    obtain ⟨M', a1, a2, a3⟩ := q_write_84 (d := d + 1) hq hq2 hW hD 36 0 M l (by omega) hB hS (by rw [Nat.sub_zero, ← List.range_eq_range']; omega)
    rw [Nat.sub_zero, ← List.range_eq_range'] at a2
    refine ⟨M', e_W_writeBoard_56 hq ?_, a2, a3⟩
    rw [hB.1.2.2, if_neg (by rw [n_lt (by omega) (by omega)]; omega)]
    exact a1
  | succ j ih =>
    intro i M l h hB hS hl
    have h44 := sCage_44 hW (show i < b 3 by omega)
    obtain ⟨M1, a1, a2, a3, a4⟩ := q_addCage (d := d) hq hq2 hW (show i < b 3 by omega) hB hS (by omega)
    obtain ⟨M', k1, k2, k3⟩ := ih (i + 1) M1 _ (by omega) (hB.frWr a3 hq2 h12) a2 (by rw [List.length_append]; omega)
    refine ⟨M', e_W_writeBoard_56 hq ?_, ?_, a3.trans k3⟩
    · rw [hB.1.2.2, if_pos ((n_lt (by omega) (by omega)).mpr (by omega)), if_pos ((n_lt (by omega) (by omega)).mpr (by omega)), a1, zC0_some, n_add1]
      exact k1
    · rw [List.range'_succ, List.flatMap_cons, List.append_assoc, ← List.append_assoc l]
      exact k2
theorem told_top (hW : Wf b) : decide (0 < b 0) = decide (0 < b 2) := by
  by_cases h : 0 < b 2
  · rw [decide_eq_true h, decide_eq_true (show 0 < b 0 from (hW.2.2.1 h).1)]
  · rw [decide_eq_false h, decide_eq_false (by have := (hW.2.1 (by omega)).1; omega)]
theorem q_writeBoard (hq : zkd q = (10, 0)) (hq2 : q + 18 < 630 ∨ 631 < q) (hB : BRep b q M) (hW : Wf b) (hD : WfD b) : ∃ M', zEv (d + 7) zmW_writeBoard [.ref 630, .ref q] M = some (none, M') ∧ Wr (txt b) M' ∧ frI pWr M M' := by
  have h12 := hW.1.2.2.2
  have h36 := hW.n36
  have f0 : frI pWr M (zpi M 630 1 (nI 0)) := fr.refl.pi (Or.inl ⟨rfl, rfl⟩)
  have hB0 := hB.frWr f0 hq2 h12
  have W0 : Wr [] (zpi M 630 1 (nI 0)) := ⟨⟨by rw [m_pi, if_pos ⟨rfl, rfl⟩]; rfl, Nat.zero_le _⟩, fun i hi => absurd hi (Nat.not_lt_zero i)⟩
  generalize hM0 : zpi M 630 1 (nI 0) = M0 at *
  by_cases h2 : 0 < b 2
  · have h06 := hW.1.1
    have h16 := hW.1.2.1
    have h27 := hW.1.2.2.1
    have hlen := txt_len hW
    obtain ⟨M1, a1, a2, a3⟩ := q_addWord_0 (d := d + 1) (j := 9) (by omega) W0
    have hB1 := hB0.frWr a3 hq2 h12
    obtain ⟨M2, b1, b2, b3⟩ := q_addNumber (d := d + 3) (v := b 0) (by omega) a2 (wd_ends (by omega)) (by rw [wd_lens.1, sNum_1 (by omega)]; omega)
    have hB2 := hB1.frWr b3 hq2 h12
    have l2 : (wd 9 ++ sNum (b 0)).length = 7 := by rw [List.length_append, wd_lens.1, sNum_1 (by omega)]
    obtain ⟨M3, c1, c2, c3⟩ := q_addNumber (d := d + 3) (v := b 1) (by omega) b2 (Ends.app (sNum_ends _)) (by rw [l2, sNum_1 (by omega)]; omega)
    have hB3 := hB2.frWr c3 hq2 h12
    have l3 : (wd 9 ++ sNum (b 0) ++ sNum (b 1)).length = 9 := by rw [List.length_append, l2, sNum_1 (by omega)]
    obtain ⟨M4, p1, p2, p3⟩ := q_addWord_y (d := d + 1) (j := 16) (by omega) c2 (Ends.app (sNum_ends _)) (by rw [l3, wd_l9.2]; omega)
    rw [← wd_eqs.2.2.2.1] at p2
    have hB4 := hB3.frWr p3 hq2 h12
    have l4 : (wd 9 ++ sNum (b 0) ++ sNum (b 1) ++ wd 1).length = 13 := by rw [List.length_append, l3, wd_lens.2.1]
    obtain ⟨M5, s1, s2, s3⟩ := q_addNumber (d := d + 3) (v := b 2) (by omega) p2 (Ends.app (wd_eqs.2.2.2.1 ▸ Ends.app (l := [32]) (wd_ends (show 16 < 17 by omega)))) (by rw [l4, sNum_1 (by omega)]; omega)
    have hB5 := hB4.frWr s3 hq2 h12
    have l5 : (wd 9 ++ sNum (b 0) ++ sNum (b 1) ++ wd 1 ++ sNum (b 2)).length = 15 := by rw [List.length_append, l4, sNum_1 (by omega)]
    have hE5 : Ends (wd 9 ++ sNum (b 0) ++ sNum (b 1) ++ wd 1 ++ sNum (b 2)) := Ends.app (sNum_ends _)
    have eB0 : sBlk b 0 = [] := rfl
    obtain ⟨M6, g1, g2, g3, g4⟩ := q_addBlocks_l (d := d) hq hq2 hW hE5 (b 0 * b 1) 0 M5 (by omega) hB5 (by rw [eB0, List.append_nil]; exact s2) (by rw [eB0, List.append_nil]; exact hE5) (by rw [l5]; omega)
    have hB6 := hB5.frWr g3 hq2 h12
    have hsl := sBlk_104 hW (Nat.le_refl (b 0 * b 1))
    have hg := sGivs_len hW (b 0 * b 1) (Nat.le_refl _)
    have hgo : ((List.range (b 0 * b 1)).filter (isO b)).length ≤ openN b := by
      unfold openN
      rw [show (36 : Nat) = b 0 * b 1 + (36 - b 0 * b 1) by omega, List.range_add, List.filter_append, List.length_append]
      omega
    have h16o := hW.2.2.2.2.1
    obtain ⟨M', k1, k2, k3⟩ := q_write_56 (d := d) hq hq2 hW hD (b 3) 0 M6 _ (by omega) hB6 g2 (by rw [List.length_append, l5]; omega)
    refine ⟨M', e_W_writeBoard hq ?_, ?_, f0.trans ((((((a3.trans b3).trans c3).trans p3).trans s3).trans g3).trans k3)⟩
    · rw [hM0, q_isTold (d := d + 5) hq hB0.sc hW.wk, zC1_some, told_top hW, decide_eq_true h2, if_neg (by decide), a1, zC0_some, hB1.1.1.1, b1, zC0_some, hB2.1.1.2, c1, zC0_some, p1, zC0_some, hB4.1.2.1, s1, zC0_some, e_W_addBlocks hq g1, zC0_some]
      exact k1
    · unfold txt sHead
      rw [if_pos h2]
      simpa only [List.append_assoc, List.range_eq_range'] using k2
  · have b0 := hW.2.1 (by omega)
    have eN : b 0 * b 1 = 0 := by rw [b0.1, Nat.zero_mul]
    have e : txt b = [] := by
      unfold txt sHead
      rw [if_neg h2, b0.2.2, eN]
      rfl
    rw [e]
    refine ⟨M0, e_W_writeBoard hq ?_, W0, f0⟩
    rw [hM0, q_isTold (d := d + 5) hq hB0.sc hW.wk, zC1_some, told_top hW, decide_eq_false h2, if_pos (show nB false = nI 0 from rfl)]
theorem zk86 : zkd 86 = (10, 0) := by decide +kernel
theorem c_letter (hB : BRep b 86 M) (hW : Wf b) (hD : WfD b) (x : Int32) : ∃ M', zEv (d + 8) zmC_letter [.ref 64, .int x] M = some (some (.int (spLetter b x)), M') ∧ frI pWr M M' := by
  have hlen := txt_len hW
  unfold spLetter
  by_cases hx : x < -1
  · rw [if_pos hx]
    refine ⟨M, e_C_letter ?_, fr.refl⟩
    rw [if_pos hx]
  · rw [if_neg hx]
    obtain ⟨M1, a1, a2, a3⟩ := q_writeBoard (d := d) zk86 (by omega) hB hW hD
    by_cases h1 : x = -1
    · rw [if_pos h1]
      refine ⟨M1, e_C_letter ?_, a3⟩
      rw [if_neg hx, a1, zC0_some, if_pos h1, e_W_length (d := d + 6) rfl, zC1_some, a2.1.1]
    · rw [if_neg h1]
      have h0 : 0 ≤ x.toInt := by
        rw [Int32.lt_iff_toInt_lt] at hx
        have e1 : (-1 : Int32).toInt = -1 := rfl
        rcases Int.lt_or_le x.toInt 0 with g | g
        · exfalso
          apply h1
          rw [← Int32.toInt_inj, e1]
          omega
        · exact g
      have hby : zEv (d + 7) zmW_byteAt [.ref 630, .int x] M1 = some (some (.int (fb x (txt b))), M1) := by
        refine e_W_byteAt ?_
        unfold fb
        rw [if_neg (by rw [Int32.lt_iff_toInt_lt, n_toInt (by omega)]; omega), if_pos h0, a2.1.1]
        by_cases hl : x.toInt.toNat < (txt b).length
        · obtain ⟨k, hk, rfl⟩ : ∃ k, k < (txt b).length ∧ x = nI k := ⟨x.toInt.toNat, hl, by rw [← Int32.toInt_inj, n_toInt (by omega)]; omega⟩
          have := a2.2 k hk
          rw [if_pos ((n_lt (by omega) (by omega)).mpr hk), if_pos ((n_lt (by omega) (by omega)).mpr (by omega)), if_pos ((n_zin (by omega)).mpr (by omega)), n_clamp (by omega), this, n_toInt (by omega), Int.toNat_natCast, List.getElem?_eq_getElem hk, getD_el hk]
        · rw [if_neg (by rw [Int32.lt_iff_toInt_lt, n_toInt (by omega)]; omega), List.getElem?_eq_none (by omega)]
      refine ⟨M1, e_C_letter ?_, a3⟩
      rw [if_neg hx, a1, zC0_some, if_neg h1, hby, zC1_some]
end QG
