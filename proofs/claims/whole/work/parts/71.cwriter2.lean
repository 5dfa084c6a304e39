/-! THE CLASS, 5: a board written, all of it -/
theorem wd_eqs : wd 2 = 59 :: wd 8 ∧ wd 3 = 59 :: (wd 10 ++ [32]) ∧ wd 0 = 32 :: wd 6 ∧ wd 1 = 32 :: wd 16 ∧ wd 4 = 59 :: wd 12 := by decide +kernel
theorem wd_ends_l : ∀ j, j < 17 → (wd j).getLast? ≠ none ∧ (wd j).getLast? ≠ some 59 ∧ ∀ x, x < 256 → (wd j).getLast? = some x → x < 128 := by decide +kernel
theorem wd_endsB : ∀ j, j < 17 → (wd j).dropLast ++ [(wd j).getLast?.getD 0] = wd j ∧ (wd j).getLast?.getD 0 ≠ 59 ∧ (wd j).getLast?.getD 0 < 128 := by decide +kernel
theorem wd_ends {j : Nat} (hj : j < 17) : Ends (wd j) := ⟨_, _, ((wd_endsB j hj).1).symm, (wd_endsB j hj).2.1, (wd_endsB j hj).2.2⟩
/-- a board's text has room -/
theorem sCell_3 {b : Nat → Nat} (hW : Wf b) {c : Nat} (hc : c < b 0 * b 1) : (sCell b c).length = 3 := by rw [sCell_one hW hc]; rfl
theorem flat_le2 {α : Type} (f : α → List Nat) (k : Nat) : ∀ L : List α, (∀ x ∈ L, (f x).length ≤ k) → (L.flatMap f).length ≤ k * L.length
  | [], _ => Nat.zero_le _
  | x :: L, h => by
    rw [List.flatMap_cons, List.length_append, List.length_cons, Nat.mul_succ]
    have := flat_le2 f k L fun y hy => h y (List.mem_cons_of_mem _ hy)
    have := h x List.mem_cons_self
    omega
theorem sNum_1 {v : Nat} (hv : v < 10) : (sNum v).length = 2 := by
  show (dec v).length + 1 = 2
  rw [dec_one hv]
  rfl
theorem wd_lens : (wd 9).length = 5 ∧ (wd 1).length = 4 ∧ (wd 2).length = 6 ∧ (wd 3).length = 6 ∧ (wd 0).length = 6 ∧ (wd 4).length = 6 := by decide +kernel
theorem sBlk_104 {b : Nat → Nat} (hW : Wf b) {n : Nat} (hn : n ≤ b 0 * b 1) : (sBlk b n).length ≤ 6 + 3 * n := by
  unfold sBlk
  by_cases e : blL b n = []
  · rw [if_pos e]; exact Nat.zero_le _
  · rw [if_neg e, List.length_append, wd_lens.2.2.1]
    have h1 := flat_le2 (sCell b) 3 (blL b n) fun x hx => by
      have := List.mem_range.mp (List.mem_filter.mp hx).1
      rw [sCell_3 hW (by omega)]
      exact Nat.le_refl 3
    have h3 := blL_len b n
    have h4 : 3 * (blL b n).length ≤ 3 * n := Nat.mul_le_mul_left 3 h3
    omega
theorem sCage_44 {b : Nat → Nat} (hW : Wf b) {k : Nat} (hk : k < b 3) : (sCage b k).length ≤ 44 := by
  have h6 := cgN_le hW hk
  have hg := hW.2.2.2.2.2 k hk
  have h7 : ∀ s, (wd (sortW s)).length ≤ 7 := fun s => wd_le (by unfold sortW; split <;> (try split) <;> (try split) <;> omega)
  have h8 : (sCg1 b k).length ≤ 7 := by
    unfold sCg1
    by_cases e : b (148 + 10 * k) = 3
    · rw [if_pos e]; exact Nat.zero_le _
    · rw [if_neg e]
      have := dec_len6 hg.1.2.1
      show (dec _).length + 1 ≤ 7
      omega
  have h9 : (sCg2 b k).length ≤ 6 := by
    unfold sCg2
    by_cases e : b (150 + 10 * k) = 0
    · rw [if_pos e, wd_lens.2.2.2.2.1]; exact Nat.le_refl 6
    · rw [if_neg e]; exact Nat.zero_le _
  have h10 : (sCg3 b k).length ≤ 18 := by
    unfold sCg3
    have := flat_le2 (fun i => sCell b (cgC b k i)) 3 (List.range (cgN b k)) fun i hi => by
      rw [sCell_3 hW (isO_cell (hg.2.2.1 i (List.mem_range.mp hi)))]
      exact Nat.le_refl 3
    rw [List.length_range] at this
    omega
  unfold sCage
  rw [List.length_append, List.length_append, List.length_append, List.length_append, wd_lens.2.2.2.1]
  have := h7 (b (148 + 10 * k))
  omega
theorem sGiv_11 {b : Nat → Nat} (hW : Wf b) {c : Nat} (hc : c < b 0 * b 1) : (sGiv b c).length ≤ if isO b c = true then 11 else 0 := by
  have h36 := hW.n36
  have h := hW.2.2.2.1 c (by omega)
  have h27 := hW.1.2.2.1
  unfold sGiv
  by_cases e : b (76 + c) = 0
  · rw [if_pos e]; exact Nat.zero_le _
  · have hO : isO b c = true := by
      cases ho : isO b c with
      | true => rfl
      | false => exact absurd (h.2.2 ho).2.2 e
    have hd := h.2.1.1
    rw [if_neg e, if_pos hO, List.length_append, List.length_append, wd_lens.2.2.2.2.2, sCell_3 hW hc, sNum_1 (by omega)]
    omega
theorem sGivs_len {b : Nat → Nat} (hW : Wf b) : ∀ n, n ≤ b 0 * b 1 → ((List.range n).flatMap (sGiv b)).length ≤ 11 * ((List.range n).filter (isO b)).length
  | 0, _ => Nat.zero_le _
  | n + 1, hn => by
    have ih := sGivs_len hW n (by omega)
    have h1 := sGiv_11 hW (c := n) (by omega)
    rw [List.range_succ, List.flatMap_append, List.filter_append, List.length_append, List.length_append]
    have e1 : ([n].flatMap (sGiv b)) = sGiv b n := by rw [List.flatMap_cons, List.flatMap_nil, List.append_nil]
    rw [e1]
    cases hO : isO b n with
    | true =>
      rw [hO, if_pos rfl] at h1
      rw [List.filter_cons_of_pos hO]
      show _ ≤ 11 * (_ + 1)
      omega
    | false =>
      rw [hO, if_neg (by simp)] at h1
      rw [List.filter_cons_of_neg (by rw [hO]; simp)]
      show _ ≤ 11 * (_ + 0)
      omega
theorem txt_len {b : Nat → Nat} (hW : Wf b) : (txt b).length ≤ 1000 := by
  have h36 := hW.n36
  have h16 := hW.2.2.2.2.1
  have h12 := hW.1.2.2.2
  have hh : (sHead b).length ≤ 15 + (6 + 3 * (b 0 * b 1)) := by
    unfold sHead
    by_cases e : 0 < b 2
    · have := sBlk_104 hW (Nat.le_refl (b 0 * b 1))
      rw [if_pos e, List.length_append, List.length_append, List.length_append, List.length_append, List.length_append, wd_lens.1, wd_lens.2.1, sNum_1 (by have := hW.1.1; omega), sNum_1 (by have := hW.1.2.1; omega), sNum_1 (by have := hW.1.2.2.1; omega)]
      omega
    · rw [if_neg e]; exact Nat.zero_le _
  have hc := flat_le2 (sCage b) 44 (List.range (b 3)) fun k hk => sCage_44 hW (List.mem_range.mp hk)
  rw [List.length_range] at hc
  have hg := sGivs_len hW (b 0 * b 1) (Nat.le_refl _)
  have hgo : ((List.range (b 0 * b 1)).filter (isO b)).length ≤ openN b := by
    unfold openN
    rw [show (36 : Nat) = b 0 * b 1 + (36 - b 0 * b 1) by omega, List.range_add, List.filter_append, List.length_append]
    omega
  unfold txt
  rw [List.length_append, List.length_append]
  omega
section QF
variable {d : Nat} {M : ZM} {b : Nat → Nat} {q : Nat} {l : List Nat}
theorem BRep.frWr {M M' : ZM} (h : BRep b q M) (hf : frI pWr M M') (hq : q + 18 < 630 ∨ 631 < q) (h12 : b 3 ≤ 12) : BRep b q M' := h.fr hf h12 (fun a k z => by unfold pWr at z; omega) (fun _ _ z => z.elim)
theorem q_addBlocks_l (hq : zkd q = (10, 0)) (hq2 : q + 18 < 630 ∨ 631 < q) (hW : Wf b) {l0 : List Nat} (hE0 : Ends l0) : ∀ j i (M : ZM), i + j = b 0 * b 1 → BRep b q M → Wr (l0 ++ sBlk b i) M → Ends (l0 ++ sBlk b i) → l0.length + 6 + 3 * (b 0 * b 1) ≤ 1024 → ∃ M', h_W_addBlocks_4 (d + 5) q (nB (blL b i).isEmpty) (nI i) M = some (none, M') ∧ Wr (l0 ++ sBlk b (b 0 * b 1)) M' ∧ frI pWr M M' ∧ Ends (l0 ++ sBlk b (b 0 * b 1)) := by
  have h36 := hW.n36
  have h12 := hW.1.2.2.2
  intro j
  induction j with
  | zero =>
    intro i M h hB hS hE hl
    obtain rfl : i = b 0 * b 1 := by omega
    refine ⟨M, e_W_addBlocks_4 hq ?_, hS, fr.refl, hE⟩
    by_cases e : b 0 * b 1 < 36
    · rw [if_pos ((n_lt (by omega) (by omega)).mpr e), q_isCell (d := d + 4) hq hB.sc hW.wk, zC1_some, iI_n (by omega), decide_eq_false (by omega), if_pos (show nB false = nI 0 from rfl)]
    · rw [if_neg (by rw [n_lt (by omega) (by omega)]; exact e)]
  | succ j ih =>
    intro i M h hB hS hE hl
    have hsl := sBlk_104 hW (show i ≤ b 0 * b 1 by omega)
    have hle : (l0 ++ sBlk b i).length + 3 ≤ 1024 := by rw [List.length_append]; omega
    have cc : iI (nI i) (b 0 * b 1) = true := by rw [iI_n (by omega), decide_eq_true (by omega)]
    cases hO : isO b i with
    | true =>
      have eL : blL b (i + 1) = blL b i := by rw [blL_succ, hO, if_pos rfl, List.append_nil]
      have eS : sBlk b (i + 1) = sBlk b i := by unfold sBlk; rw [eL]
      obtain ⟨M', a1, a2⟩ := ih (i + 1) M (by omega) hB (by rw [eS]; exact hS) (by rw [eS]; exact hE) hl
      rw [eL] at a1
      refine ⟨M', e_W_addBlocks_4 hq ?_, a2⟩
      rw [if_pos ((n_lt (by omega) (by omega)).mpr (by omega)), q_isCell (d := d + 4) hq hB.sc hW.wk, zC1_some, cc, if_neg (by decide), q_isOpen (d := d + 3) hq hB.sc hW.wk, zC1_some, oI_n (by omega), hO, if_neg (by decide), n_add1]
      exact a1
    | false =>
      have eL : blL b (i + 1) = blL b i ++ [i] := by rw [blL_succ, hO, if_neg (by simp)]
      have eE : (blL b i ++ [i]).isEmpty = false := by cases blL b i <;> rfl
      cases hBl : blL b i with
      | nil =>
        have eB : sBlk b i = [] := if_pos hBl
        rw [eB, List.append_nil] at hS hE hle
        obtain ⟨M1, a1, a2, a3⟩ := q_addSign (d := d + 4) hS (by omega) 59
        obtain ⟨M2, b1, b2, b3⟩ := q_addWord_n (d := d) (j := 8) (by omega) a2 (by rw [wd_l4.2.1]; omega)
        rw [← wd_eqs.1] at b2
        have hB2 := (hB.frWr a3 hq2 h12).frWr b3 hq2 h12
        obtain ⟨M3, c1, c2, c3, c4⟩ := q_addCell (d := d + 2) hq hB2.1.1.1 hW (show i < b 0 * b 1 by omega) (by omega) b2 (Ends.app (wd_eqs.1 ▸ Ends.app (l := [59]) (wd_ends (show 8 < 17 by omega)))) (by rw [List.length_append, wd_lens.2.2.1]; omega)
        have eS : sBlk b (i + 1) = wd 2 ++ sCell b i := by
          unfold sBlk
          rw [eL, hBl, if_neg (by simp)]
          simp
        obtain ⟨M', k1, k2, k3⟩ := ih (i + 1) M3 (by omega) (hB2.frWr c3 hq2 h12) (by rw [eS, ← List.append_assoc]; exact c2) (by rw [eS, ← List.append_assoc]; exact c4) hl
        rw [eL, eE] at k1
        refine ⟨M', e_W_addBlocks_4 hq ?_, k2, ((a3.trans b3).trans c3).trans k3.1, k3.2⟩
        rw [if_pos ((n_lt (by omega) (by omega)).mpr (by omega)), q_isCell (d := d + 4) hq hB.sc hW.wk, zC1_some, cc, if_neg (by decide), q_isOpen (d := d + 3) hq hB.sc hW.wk, zC1_some, oI_n (by omega), hO, if_pos (show nB false = nI 0 from rfl), if_neg (by decide), a1, zC0_some, b1, zC0_some, c1, zC0_some, n_add1]
        exact k1
      | cons y L =>
        obtain ⟨M3, c1, c2, c3, c4⟩ := q_addCell (d := d + 2) hq hB.1.1.1 hW (show i < b 0 * b 1 by omega) (by omega) hS hE hle
        have eS : sBlk b (i + 1) = sBlk b i ++ sCell b i := by
          unfold sBlk
          rw [eL, hBl, if_neg (by simp), if_neg (by simp), List.flatMap_append, List.append_assoc]
          simp
        obtain ⟨M', k1, k2, k3⟩ := ih (i + 1) M3 (by omega) (hB.frWr c3 hq2 h12) (by rw [eS, ← List.append_assoc]; exact c2) (by rw [eS, ← List.append_assoc]; exact c4) hl
        rw [eL, eE] at k1
        refine ⟨M', e_W_addBlocks_4 hq ?_, k2, c3.trans k3.1, k3.2⟩
        rw [if_pos ((n_lt (by omega) (by omega)).mpr (by omega)), q_isCell (d := d + 4) hq hB.sc hW.wk, zC1_some, cc, if_neg (by decide), q_isOpen (d := d + 3) hq hB.sc hW.wk, zC1_some, oI_n (by omega), hO, if_pos (show nB false = nI 0 from rfl), if_pos (show nB (y :: L).isEmpty = nI 0 from rfl), c1, zC0_some, n_add1]
        exact k1
theorem q_addCage_113 (hq : zkd q = (10, 0)) (hq2 : q + 18 < 630 ∨ 631 < q) (hW : Wf b) {k : Nat} (hk : k < b 3) : ∀ j i (M : ZM) (l : List Nat), i + j = cgN b k → BRep b q M → Wr l M → Ends l → l.length + 3 * j ≤ 1024 → ∃ M', h_W_addCage_113 (d + 3) q (nI k) (nI i) M = some (none, M') ∧ Wr (l ++ (List.range' i j).flatMap fun i => sCell b (cgC b k i)) M' ∧ frI pWr M M' ∧ Ends (l ++ (List.range' i j).flatMap fun i => sCell b (cgC b k i)) := by
  have h12 := hW.1.2.2.2
  have h6 := cgN_le hW hk
  have hg := hW.2.2.2.2.2 k hk
  intro j
  induction j with
  | zero =>
    intro i M l h hB hS hE hl
    refine ⟨M, e_W_addCage_113 hq ?_, by show Wr (l ++ []) M; rw [List.append_nil]; exact hS, fr.refl, by show Ends (l ++ []); rw [List.append_nil]; exact hE⟩
    rw [if_pos ((n_zin (by omega)).mpr (by omega)), n_clamp (by omega), ((hB.2.2.2 k hk).1.2).1, if_neg (by rw [n_lt (by omega) (by omega)]; omega)]
  | succ j ih =>
    intro i M l h hB hS hE hl
    have hcN := isO_cell (hg.2.2.1 i (by omega))
    have h36 := hW.n36
    obtain ⟨M1, c1, c2, c3, c4⟩ := q_addCell (d := d) hq hB.1.1.1 hW hcN (by omega) hS hE (by omega)
    obtain ⟨M', k1, k2, k3, k4⟩ := ih (i + 1) M1 _ (by omega) (hB.frWr c3 hq2 h12) c2 c4 (by rw [List.length_append, sCell_3 hW hcN]; omega)
    rw [List.append_assoc] at k2 k4
    rw [List.range'_succ, List.flatMap_cons]
    refine ⟨M', e_W_addCage_113 hq ?_, k2, c3.trans k3, k4⟩
    rw [if_pos ((n_zin (by omega)).mpr (by omega)), n_clamp (by omega), ((hB.2.2.2 k hk).1.2).1, if_pos ((n_lt (by omega) (by omega)).mpr (by omega)), if_pos ((n_lt (by omega) (by omega)).mpr (by omega)), if_pos ((n_zin (by omega)).mpr (by omega)), n_clamp (by omega), (hB.2.2.2 k hk).2 i (by omega), c1, zC0_some, n_add1]
    exact k1
theorem q_addCage_77 (hq : zkd q = (10, 0)) (hq2 : q + 18 < 630 ∨ 631 < q) (hW : Wf b) {k : Nat} (hk : k < b 3) {M : ZM} {l : List Nat} (hB : BRep b q M) (hS : Wr l M) (hE : Ends l) (hl : l.length + 31 ≤ 1024) : ∃ M', h_W_addCage_77 (d + 5) q (nI k) M = some (none, M') ∧ Wr (l ++ (sCg1 b k ++ (sCg2 b k ++ sCg3 b k))) M' ∧ frI pWr M M' ∧ Ends (l ++ (sCg1 b k ++ (sCg2 b k ++ sCg3 b k))) := by
  have h12 := hW.1.2.2.2
  have h6 := cgN_le hW hk
  have hg := hW.2.2.2.2.2 k hk
  have hu := hg.1.2.2
  have fin : ∀ {M : ZM} {l : List Nat}, BRep b q M → Wr l M → Ends l → l.length + 24 ≤ 1024 → ∃ M', (zC1 (zEv (d + 5) zmB_isAlike [.ref q, .int (nI k)] M) (fun v5 M4 => (if v5 = (nI 0) then h_W_addCage_113 (d + 5) q (nI k) (nI 0) M4 else zC0 (zEv (d + 5) zmW_addWord [.ref 630, .ref 7] M4) (fun M8 => h_W_addCage_113 (d + 5) q (nI k) (nI 0) M8)))) = some (none, M') ∧ Wr (l ++ (sCg2 b k ++ sCg3 b k)) M' ∧ frI pWr M M' ∧ Ends (l ++ (sCg2 b k ++ sCg3 b k)) := by
    intro M l hB hS hE hl
    unfold sCg2 sCg3
    rw [List.range_eq_range']
    have eU : (!cgU b k) = decide (b (150 + 10 * k) = 0) := by
      unfold cgU
      rcases (show b (150 + 10 * k) = 0 ∨ b (150 + 10 * k) = 1 by omega) with z | z <;> rw [z] <;> rfl
    by_cases e : b (150 + 10 * k) = 0
    · obtain ⟨M1, a1, a2, a3⟩ := q_addWord_y (d := d) (j := 6) (by omega) hS hE (by have := wd_le (show 6 < 17 by omega); omega)
      rw [← wd_eqs.2.2.1] at a2
      have hE1 : Ends (l ++ wd 0) := Ends.app (wd_eqs.2.2.1 ▸ Ends.app (l := [32]) (wd_ends (show 6 < 17 by omega)))
      obtain ⟨M', c1, c2, c3, c4⟩ := q_addCage_113 (d := d + 2) hq hq2 hW hk (cgN b k) 0 M1 _ (by omega) (hB.frWr a3 hq2 h12) a2 hE1 (by rw [List.length_append, wd_lens.2.2.2.2.1]; omega)
      rw [List.append_assoc] at c2 c4
      rw [if_pos e]
      refine ⟨M', ?_, c2, a3.trans c3, c4⟩
      rw [q_isAlike hq hB.sc hW.wk hk, zC1_some, eU, decide_eq_true e, if_neg (by decide), a1, zC0_some]
      exact c1
    · obtain ⟨M', c1, c2, c3, c4⟩ := q_addCage_113 (d := d + 2) hq hq2 hW hk (cgN b k) 0 M _ (by omega) hB hS hE (by omega)
      rw [if_neg e, List.nil_append]
      refine ⟨M', ?_, c2, c3, c4⟩
      rw [q_isAlike hq hB.sc hW.wk hk, zC1_some, eU, decide_eq_false e, if_pos (show nB false = nI 0 from rfl)]
      exact c1
  unfold sCg1
  by_cases e3 : b (148 + 10 * k) = 3
  · obtain ⟨M', c1, c2, c3⟩ := fin hB hS hE (by omega)
    rw [if_pos e3, List.nil_append]
    refine ⟨M', e_W_addCage_77 hq ?_, c2, c3⟩
    rw [if_pos ((n_zin (by omega)).mpr (by omega)), n_clamp (by omega), ((hB.2.2.2 k hk).1.1).1, if_pos (by rw [e3])]
    exact c1
  · have hd6 := dec_len6 hg.1.2.1
    have hn7 : (sNum (b (149 + 10 * k))).length ≤ 7 := by show (dec _).length + 1 ≤ 7; omega
    obtain ⟨M1, a1, a2, a3⟩ := q_addNumber (d := d + 2) (v := b (149 + 10 * k)) (by have := hg.1.2.1; omega) hS hE (by omega)
    have hB1 := hB.frWr a3 hq2 h12
    obtain ⟨M', c1, c2, c3, c4⟩ := fin hB1 a2 (Ends.app (sNum_ends _)) (by rw [List.length_append]; omega)
    rw [List.append_assoc] at c2 c4
    rw [if_neg e3]
    refine ⟨M', e_W_addCage_77 hq ?_, c2, a3.trans c3, c4⟩
    rw [if_pos ((n_zin (by omega)).mpr (by omega)), n_clamp (by omega), ((hB.2.2.2 k hk).1.1).1, if_neg (by rw [n_eq (by have := hg.1.1; omega) (by omega)]; exact e3), ((hB.2.2.2 k hk).1.1).2, a1, zC0_some]
    exact c1
theorem q_addCage (hq : zkd q = (10, 0)) (hq2 : q + 18 < 630 ∨ 631 < q) (hW : Wf b) {k : Nat} (hk : k < b 3) {M : ZM} {l : List Nat} (hB : BRep b q M) (hS : Wr l M) (hl : l.length + 44 ≤ 1024) : ∃ M', zEv (d + 6) zmW_addCage [.ref 630, .ref q, .int (nI k)] M = some (none, M') ∧ Wr (l ++ sCage b k) M' ∧ frI pWr M M' ∧ Ends (l ++ sCage b k) := by
  have h12 := hW.1.2.2.2
  have hg := (hW.2.2.2.2.2 k hk).1
  obtain ⟨M1, a1, a2, a3⟩ := q_addSign (d := d + 4) hS (by omega) 59
  obtain ⟨M2, b1, b2, b3⟩ := q_addWord_n (d := d) (j := 10) (by omega) a2 (by rw [wd_l4.1]; omega)
  have hB2 := (hB.frWr a3 hq2 h12).frWr b3 hq2 h12
  have hE2 : Ends (l ++ 59 :: wd 10) := Ends.app (Ends.app (l := [59]) (wd_ends (show 10 < 17 by omega)))
  have hl2 : (l ++ 59 :: wd 10).length = l.length + 5 := by rw [List.length_append, List.length_cons, wd_l4.1]
  have go : ∀ j, j < 17 → sortW (b (148 + 10 * k)) = j → ∃ M3, zEv (d + 5) zmW_addWord [.ref 630, .ref (j + 1)] M2 = some (none, M3) ∧ ∃ M', h_W_addCage_77 (d + 5) q (nI k) M3 = some (none, M') ∧ Wr (l ++ sCage b k) M' ∧ frI pWr M M' ∧ Ends (l ++ sCage b k) := by
    intro j hj hs
    have hw7 := wd_le hj
    obtain ⟨M3, c1, c2, c3⟩ := q_addWord_y (d := d) hj b2 hE2 (by omega)
    have hE3 : Ends (l ++ 59 :: wd 10 ++ 32 :: wd j) := Ends.app (Ends.app (l := [32]) (wd_ends hj))
    obtain ⟨M', k1, k2, k3, k4⟩ := q_addCage_77 (d := d) hq hq2 hW hk (hB2.frWr c3 hq2 h12) c2 hE3 (by rw [List.length_append, List.length_cons]; omega)
    have eq : l ++ 59 :: wd 10 ++ 32 :: wd j ++ (sCg1 b k ++ (sCg2 b k ++ sCg3 b k)) = l ++ sCage b k := by
      unfold sCage
      rw [hs, wd_eqs.2.1]
      simp
    rw [eq] at k2 k4
    exact ⟨M3, c1, M', k1, k2, ((a3.trans b3).trans c3).trans k3, k4⟩
  have e2 : M2.1 (q + 2) k = nI (b (148 + 10 * k)) := ((hB2.2.2.2 k hk).1.1).1
  by_cases s0 : b (148 + 10 * k) = 0
  · obtain ⟨M3, c1, M', k1, k2⟩ := go 15 (by omega) (by unfold sortW; rw [if_pos s0])
    refine ⟨M', e_W_addCage hq ?_, k2⟩
    rw [a1, zC0_some, b1, zC0_some, if_pos ((n_zin (by omega)).mpr (by omega)), n_clamp (by omega), e2, if_pos (by rw [s0]), c1, zC0_some]
    exact k1
  · by_cases s1 : b (148 + 10 * k) = 1
    · obtain ⟨M3, c1, M', k1, k2⟩ := go 13 (by omega) (by unfold sortW; rw [if_neg s0, if_pos s1])
      refine ⟨M', e_W_addCage hq ?_, k2⟩
      rw [a1, zC0_some, b1, zC0_some, if_pos ((n_zin (by omega)).mpr (by omega)), n_clamp (by omega), e2, if_neg (by rw [n_eq (by omega) (by omega)]; exact s0), if_pos (by rw [s1]), c1, zC0_some]
      exact k1
    · by_cases s2 : b (148 + 10 * k) = 2
      · obtain ⟨M3, c1, M', k1, k2⟩ := go 14 (by omega) (by unfold sortW; rw [if_neg s0, if_neg s1, if_pos s2])
        refine ⟨M', e_W_addCage hq ?_, k2⟩
        rw [a1, zC0_some, b1, zC0_some, if_pos ((n_zin (by omega)).mpr (by omega)), n_clamp (by omega), e2, if_neg (by rw [n_eq (by omega) (by omega)]; exact s0), if_neg (by rw [n_eq (by omega) (by omega)]; exact s1), if_pos (by rw [s2]), c1, zC0_some]
        exact k1
      · obtain ⟨M3, c1, M', k1, k2⟩ := go 7 (by omega) (by unfold sortW; rw [if_neg s0, if_neg s1, if_neg s2])
        refine ⟨M', e_W_addCage hq ?_, k2⟩
        rw [a1, zC0_some, b1, zC0_some, if_pos ((n_zin (by omega)).mpr (by omega)), n_clamp (by omega), e2, if_neg (by rw [n_eq (by omega) (by omega)]; exact s0), if_neg (by rw [n_eq (by omega) (by omega)]; exact s1), if_neg (by rw [n_eq (by omega) (by omega)]; exact s2), c1, zC0_some]
        exact k1
end QF
