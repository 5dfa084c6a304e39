/-! THE MODEL, 37: a board spelt -/
section MI2
variable {d : Nat} {M : ZM} {b : Nat → Nat} {w : Int32} {l : List Nat}
theorem n_udiv {a t : Nat} (ha : a < 2147483648) (ht : t < 2147483648) : nI a / nI t = nI (a / t) := n_div ha ht
theorem ten_le : ∀ k, k ≤ 7 → 10 ^ k ≤ 10000000 ∧ 1 ≤ 10 ^ k := by decide
theorem s_spellDigits_l {v : Nat} (hv : v < 2147483648) : ∀ k (M : ZM) (l : List Nat), k ≤ 6 → Spl w l M → l.length + k < 1000000 → ∃ M', h_M_spellDigits_18 (d + 1) (nI v) (nI (10 ^ k)) M = some (none, M') ∧ Spl w (l ++ decN k v) M' ∧ frI pSp M M' := by
  have hq : ∀ k, v / 10 ^ k < 2147483648 := fun k => Nat.lt_of_le_of_lt (Nat.div_le_self _ _) hv
  intro k
  induction k with
  | zero =>
    intro M l hk hS hl
    obtain ⟨M1, a1, a2, a3⟩ := s_spell (d := d) hS (by omega) (48 + v % 10)
    refine ⟨M1, e_M_spellDigits_18 ?_, a2, a3⟩
    have e2 : h_M_spellDigits_18 (d + 1) (nI v) (nI 0) M1 = some (none, M1) := e_M_spellDigits_18 (by rw [if_neg (by decide)])
    rw [if_pos (by decide), if_neg (by decide), Nat.pow_zero, n_div hv (by omega), Nat.div_one, n_rem hv (by omega), n_add, a1, zC0_some, n_div (by omega) (by omega)]
    exact e2
  | succ k ih =>
    intro M l hk hS hl
    have h10 := ten_le (k + 1) (by omega)
    obtain ⟨M1, a1, a2, a3⟩ := s_spell (d := d) hS (by omega) (48 + v / 10 ^ (k + 1) % 10)
    obtain ⟨M', c1, c2, c3⟩ := ih M1 _ (by omega) a2 (by rw [List.length_append]; show l.length + 1 + k < _; omega)
    refine ⟨M', e_M_spellDigits_18 ?_, ?_, a3.trans c3⟩
    · rw [if_pos ((n_lt (by omega) (by omega)).mpr (by omega)), if_neg (by rw [n_eq (by omega) (by omega)]; omega), n_div hv (by omega), n_rem (hq _) (by omega), n_add, a1, zC0_some, n_div (by omega) (by omega), Nat.pow_succ, Nat.mul_div_cancel _ (by omega)]
      exact c1
    · rw [List.append_assoc] at c2
      exact c2
theorem s_spellDigits_k {v : Nat} (hv : v < 10000000) {r : ZR} : ∀ j k, k + j = 7 → k ≤ 6 → (∀ z, ((List.range' k j).find? fun k => decide (v / 10 ^ k < 10)).getD 6 = z → h_M_spellDigits_18 (d + 1) (nI v) (nI (10 ^ z)) M = some r) → h_M_spellDigits_2 (d + 1) (nI v) (nI (10 ^ k)) M = some r := by
  have hq : ∀ k, v / 10 ^ k < 2147483648 := fun k => Nat.lt_of_le_of_lt (Nat.div_le_self _ _) (by omega)
  intro j
  induction j with
  | zero =>
    intro k h h6 hr
    omega
  | succ j ih =>
    intro k h h6 hr
    have h10 := ten_le k (by omega)
    rw [List.range'_succ, List.find?_cons] at hr
    refine e_M_spellDigits_2 ?_
    rw [if_neg (by rw [n_eq (by omega) (by omega)]; omega), n_div (by omega) (by omega)]
    by_cases e : v / 10 ^ k < 10
    · rw [decide_eq_true e] at hr
      rw [if_pos ((n_lt (hq k) (by omega)).mpr e)]
      exact hr k rfl
    · rw [decide_eq_false e] at hr
      rw [if_neg (by rw [n_lt (hq k) (by omega)]; exact e), n_mul, ← Nat.pow_succ]
      by_cases h7 : k = 6
      · exfalso
        rw [h7] at e
        omega
      · exact ih (k + 1) (by omega) (by omega) hr
theorem s_spellDigits {M : ZM} {v : Nat} (hv : v < 10000000) (hS : Spl w l M) (hl : l.length < 100000) : ∃ M', zEv (d + 2) zmM_spellDigits [.ref 866, .int (nI v)] M = some (none, M') ∧ Spl w (l ++ dec v) M' ∧ frI pSp M M' := by
  obtain ⟨M', a1, a2⟩ := s_spellDigits_l (d := d) (v := v) (by omega) (dlen v) M l (dlen_le v) hS (by have := dlen_le v; omega)
  refine ⟨M', e_M_spellDigits (s_spellDigits_k (d := d) hv 7 0 (by omega) (by omega) fun z hz => ?_), a2⟩
  rw [← hz]
  exact a1
theorem s_spellNumber {M : ZM} {v : Nat} (hv : v < 10000000) (hS : Spl w l M) (hl : l.length < 90000) : ∃ M', zEv (d + 3) zmM_spellNumber [.ref 866, .int (nI v)] M = some (none, M') ∧ Spl w (l ++ sNum v) M' ∧ frI pSp M M' := by
  obtain ⟨M1, a1, a2, a3⟩ := s_spell (d := d + 1) hS (by omega) 32
  obtain ⟨M2, b1, b2, b3⟩ := s_spellDigits (d := d) hv a2 (by rw [List.length_append]; show l.length + 1 < _; omega)
  refine ⟨M2, e_M_spellNumber ?_, ?_, a3.trans b3⟩
  · rw [a1, zC0_some, b1, zC0_some]
  · rw [List.append_assoc] at b2
    exact b2
theorem s_spellCell {M : ZM} (hR : MR b M) (hW : Wf b) {c : Nat} (hc : c < b 0 * b 1) (hS : Spl w l M) (hl : l.length < 90000) : ∃ M', zEv (d + 3) zmM_spellCell [.ref 866, .int (nI c)] M = some (none, M') ∧ Spl w (l ++ sCell b c) M' ∧ frI pSp M M' := by
  have h36 := hW.n36
  have h6 := hW.1.1
  have h0 : b 0 ≠ 0 := fun z => by rw [z, Nat.zero_mul] at hc; omega
  have hq : c / b 0 ≤ c := Nat.div_le_self _ _
  obtain ⟨M1, a1, a2, a3⟩ := s_spell (d := d + 1) hS (by omega) 32
  have r1 := hR.frSp a3
  obtain ⟨M2, b1, b2, b3⟩ := s_spell (d := d + 1) a2 (by rw [List.length_append]; show l.length + 1 < _; omega) (97 + c % b 0)
  have r2 := r1.frSp b3
  obtain ⟨M3, c1, c2, c3⟩ := s_spellDigits (d := d) (v := c / b 0 + 1) (by omega) b2 (by rw [List.length_append, List.length_append]; show l.length + 1 + 1 < _; omega)
  refine ⟨M3, e_M_spellCell ?_, ?_, (a3.trans b3).trans c3⟩
  · rw [a1, zC0_some, r1 0 (by omega), if_neg (by rw [n_eq (by omega) (by omega)]; exact h0), n_rem (by omega) (by omega), n_add, b1, zC0_some, r2 0 (by omega), if_neg (by rw [n_eq (by omega) (by omega)]; exact h0), n_div (by omega) (by omega), n_add1, c1, zC0_some]
  · rw [List.append_assoc, List.append_assoc] at c2
    exact c2
/-- the blocks -/
def blL (b : Nat → Nat) (n : Nat) : List Nat := (List.range n).filter fun c => !isO b c
def sBlk (b : Nat → Nat) (n : Nat) : List Nat := if blL b n = [] then [] else wd 2 ++ (blL b n).flatMap (sCell b)
theorem flat_le {α : Type} (f : α → List Nat) (k : Nat) (h : ∀ x, (f x).length ≤ k) : ∀ L : List α, (L.flatMap f).length ≤ k * L.length
  | [] => Nat.zero_le _
  | x :: L => by
    rw [List.flatMap_cons, List.length_append, List.length_cons, Nat.mul_succ]
    have := flat_le f k h L
    have := h x
    omega
theorem wd_le {j : Nat} (hj : j < 17) : (wd j).length ≤ 7 := by rw [wd_len]; exact ztx_le j hj
theorem blL_succ (b : Nat → Nat) (n : Nat) : blL b (n + 1) = blL b n ++ (if isO b n = true then [] else [n]) := by
  unfold blL
  rw [List.range_succ, List.filter_append]
  congr 1
  cases h : isO b n with
  | true => rw [if_pos rfl, List.filter_cons_of_neg (by rw [h]; simp)]; rfl
  | false => rw [if_neg (by simp), List.filter_cons_of_pos (by rw [h]; simp)]; rfl
theorem blL_len (b : Nat → Nat) (n : Nat) : (blL b n).length ≤ n := by
  have := List.length_filter_le (fun c => !isO b c) (List.range n)
  rwa [List.length_range] at this
theorem sBlk_len (b : Nat → Nat) (n : Nat) : (sBlk b n).length ≤ 7 + 9 * n := by
  unfold sBlk
  by_cases e : blL b n = []
  · rw [if_pos e]; exact Nat.zero_le _
  · rw [if_neg e, List.length_append]
    have h1 := flat_le (sCell b) 9 (sCell_len b) (blL b n)
    have h2 := wd_le (show 2 < 17 by omega)
    have h3 := blL_len b n
    have h4 : 9 * (blL b n).length ≤ 9 * n := Nat.mul_le_mul_left 9 h3
    omega
theorem s_spellBlocks_l (hW : Wf b) {l0 : List Nat} (hl0 : l0.length < 50000) : ∀ j i (M : ZM), i + j = b 0 * b 1 → MR b M → Spl w (l0 ++ sBlk b i) M → ∃ M', h_M_spellBlocks_4 (d + 5) (nB (!(blL b i).isEmpty)) (nI i) M = some (none, M') ∧ Spl w (l0 ++ sBlk b (b 0 * b 1)) M' ∧ frI pSp M M' := by
  have h36 := hW.n36
  intro j
  induction j with
  | zero =>
    intro i M h hR hS
    obtain rfl : i = b 0 * b 1 := by omega
    refine ⟨M, e_M_spellBlocks_4 ?_, hS, fr.refl⟩
    rw [s_cells (d := d + 4) hR, zC1_some, if_neg (by rw [n_lt (by omega) (by omega)]; omega)]
  | succ j ih =>
    intro i M h hR hS
    have hsl := sBlk_len b i
    have hle : (l0 ++ sBlk b i).length < 60000 := by rw [List.length_append]; omega
    cases hO : isO b i with
    | true =>
      have eL : blL b (i + 1) = blL b i := by rw [blL_succ, hO, if_pos rfl, List.append_nil]
      obtain ⟨M', a1, a2⟩ := ih (i + 1) M (by omega) hR (by unfold sBlk; rw [eL]; exact hS)
      rw [eL] at a1
      refine ⟨M', e_M_spellBlocks_4 ?_, a2⟩
      rw [s_cells (d := d + 4) hR, zC1_some, if_pos ((n_lt (by omega) (by omega)).mpr (by omega)), s_isOpen (d := d + 2) hR hW (by omega), zC1_some, hO, if_neg (by decide), n_add1]
      exact a1
    | false =>
      have eL : blL b (i + 1) = blL b i ++ [i] := by rw [blL_succ, hO, if_neg (by simp)]
      have eE : (blL b i ++ [i]).isEmpty = false := by cases blL b i <;> rfl
      cases hB : blL b i with
      | nil =>
        have eB : sBlk b i = [] := if_pos hB
        rw [eB, List.append_nil] at hS
        obtain ⟨M1, a1, a2, a3⟩ := s_spellWord (d := d) (j := 2) (by omega) hS (by omega)
        have r1 := hR.frSp a3
        obtain ⟨M2, b1, b2, b3⟩ := s_spellCell (d := d + 2) r1 hW (show i < b 0 * b 1 by omega) a2 (by rw [List.length_append]; have := wd_le (show 2 < 17 by omega); omega)
        have r2 := r1.frSp b3
        have eS : sBlk b (i + 1) = wd 2 ++ sCell b i := by
          unfold sBlk
          rw [eL, hB, if_neg (by simp)]
          simp
        obtain ⟨M', c1, c2, c3⟩ := ih (i + 1) M2 (by omega) r2 (by rw [eS, ← List.append_assoc]; exact b2)
        rw [eL, eE] at c1
        refine ⟨M', e_M_spellBlocks_4 ?_, c2, (a3.trans b3).trans c3⟩
        rw [s_cells (d := d + 4) hR, zC1_some, if_pos ((n_lt (by omega) (by omega)).mpr (by omega)), s_isOpen (d := d + 2) hR hW (by omega), zC1_some, hO, if_pos (show nB false = nI 0 from rfl), if_pos (by rfl), a1, zC0_some, b1, zC0_some, n_add1]
        exact c1
      | cons y L =>
        obtain ⟨M2, b1, b2, b3⟩ := s_spellCell (d := d + 2) hR hW (show i < b 0 * b 1 by omega) hS (by omega)
        have r2 := hR.frSp b3
        have eS : sBlk b (i + 1) = sBlk b i ++ sCell b i := by
          unfold sBlk
          rw [eL, hB, if_neg (by simp), if_neg (by simp), List.flatMap_append, List.append_assoc]
          simp
        obtain ⟨M', c1, c2, c3⟩ := ih (i + 1) M2 (by omega) r2 (by rw [eS, ← List.append_assoc]; exact b2)
        rw [eL, eE] at c1
        refine ⟨M', e_M_spellBlocks_4 ?_, c2, b3.trans c3⟩
        rw [s_cells (d := d + 4) hR, zC1_some, if_pos ((n_lt (by omega) (by omega)).mpr (by omega)), s_isOpen (d := d + 2) hR hW (by omega), zC1_some, hO, if_pos (show nB false = nI 0 from rfl), if_neg (show ¬ nB (!(y :: L).isEmpty) = nI 0 from (by decide : ¬ nB true = nI 0)), b1, zC0_some, n_add1]
        exact c1
theorem s_spellBlocks {M : ZM} (hR : MR b M) (hW : Wf b) (hS : Spl w l M) (hl : l.length < 50000) : ∃ M', zEv (d + 6) zmM_spellBlocks [.ref 866] M = some (none, M') ∧ Spl w (l ++ sBlk b (b 0 * b 1)) M' ∧ frI pSp M M' := by
  obtain ⟨M', a1, a2⟩ := s_spellBlocks_l (d := d) hW hl (b 0 * b 1) 0 M (by omega) hR (by
    have : sBlk b 0 = [] := rfl
    rw [this, List.append_nil]; exact hS)
  exact ⟨M', e_M_spellBlocks a1, a2⟩
/-- a cage -/
def sortW (s : Nat) : Nat := if s = 0 then 15 else if s = 1 then 13 else if s = 2 then 14 else 7
def sCg3 (b : Nat → Nat) (k : Nat) : List Nat := (List.range (cgN b k)).flatMap fun i => sCell b (cgC b k i)
def sCg2 (b : Nat → Nat) (k : Nat) : List Nat := if b (150 + 10 * k) = 0 then wd 0 else []
def sCg1 (b : Nat → Nat) (k : Nat) : List Nat := if b (148 + 10 * k) = 3 then [] else sNum (b (149 + 10 * k))
def sCage (b : Nat → Nat) (k : Nat) : List Nat := wd 3 ++ (wd (sortW (b (148 + 10 * k))) ++ (sCg1 b k ++ (sCg2 b k ++ sCg3 b k)))
theorem isO_cell {b : Nat → Nat} {c : Nat} (h : isO b c = true) : c < b 0 * b 1 := by
  unfold isO at h
  rw [Bool.and_eq_true] at h
  exact of_decide_eq_true h.1
theorem s_spellCage_86 (hW : Wf b) {k : Nat} (hk : k < b 3) : ∀ j i (M : ZM) (l : List Nat), i + j = cgN b k → MR b M → Spl w l M → l.length + 9 * j < 80000 → ∃ M', h_M_spellCage_86 (d + 3) (nI k) (nI i) M = some (none, M') ∧ Spl w (l ++ (List.range' i j).flatMap fun i => sCell b (cgC b k i)) M' ∧ frI pSp M M' := by
  have h12 := cg_12 hW hk
  have h6 := cgN_le hW hk
  intro j
  induction j with
  | zero =>
    intro i M l h hR hS hl
    refine ⟨M, e_M_spellCage_86 ?_, ?_, fr.refl⟩
    · rw [s_ofN (d := d + 2) hR h12, zC1_some, if_neg (by rw [n_lt (by omega) (by omega)]; omega)]
    · show Spl w (l ++ []) M
      rw [List.append_nil]; exact hS
  | succ j ih =>
    intro i M l h hR hS hl
    have hO := (hW.2.2.2.2.2 k hk).2.2.1 i (by omega)
    have hcN := isO_cell hO
    obtain ⟨M2, b1, b2, b3⟩ := s_spellCell (d := d) hR hW hcN hS (by omega)
    have r2 := hR.frSp b3
    obtain ⟨M', c1, c2, c3⟩ := ih (i + 1) M2 _ (by omega) r2 b2 (by rw [List.length_append]; have := sCell_len b (cgC b k i); omega)
    refine ⟨M', e_M_spellCage_86 ?_, ?_, b3.trans c3⟩
    · rw [s_ofN (d := d + 2) hR h12, zC1_some, if_pos ((n_lt (by omega) (by omega)).mpr (by omega)), s_cellOf (d := d + 1) hR h12 (show i < 6 by omega), zC1_some, b1, zC0_some, n_add1]
      exact c1
    · rw [List.range'_succ, List.flatMap_cons, ← List.append_assoc]
      exact c2
theorem s_spellCage_68 (hW : Wf b) {k : Nat} (hk : k < b 3) {M : ZM} {l : List Nat} (hR : MR b M) (hS : Spl w l M) (hl : l.length < 70000) : ∃ M', h_M_spellCage_68 (d + 5) (nI k) M = some (none, M') ∧ Spl w (l ++ (sCg2 b k ++ sCg3 b k)) M' ∧ frI pSp M M' := by
  have h12 := cg_12 hW hk
  have h6 := cgN_le hW hk
  have hu := (hW.2.2.2.2.2 k hk).1.2.2
  unfold sCg2 sCg3
  rw [List.range_eq_range']
  by_cases e : b (150 + 10 * k) = 0
  · obtain ⟨M1, a1, a2, a3⟩ := s_spellWord (d := d) (j := 0) (by omega) hS (by omega)
    have r1 := hR.frSp a3
    obtain ⟨M', c1, c2, c3⟩ := s_spellCage_86 (d := d + 2) hW hk (cgN b k) 0 M1 _ (by omega) r1 a2 (by rw [List.length_append]; have := wd_le (show 0 < 17 by omega); omega)
    rw [if_pos e, ← List.append_assoc]
    refine ⟨M', e_M_spellCage_68 ?_, c2, a3.trans c3⟩
    rw [s_of (d := d + 4) hR h12 (show 2 < 10 by omega), zC1_some, show 148 + 10 * k + 2 = 150 + 10 * k by omega, if_pos (by rw [e]), a1, zC0_some]
    exact c1
  · obtain ⟨M', c1, c2, c3⟩ := s_spellCage_86 (d := d + 2) hW hk (cgN b k) 0 M l (by omega) hR hS (by omega)
    rw [if_neg e, List.nil_append]
    refine ⟨M', e_M_spellCage_68 ?_, c2, c3⟩
    rw [s_of (d := d + 4) hR h12 (show 2 < 10 by omega), zC1_some, show 148 + 10 * k + 2 = 150 + 10 * k by omega, if_neg (by rw [n_eq (by omega) (by omega)]; exact e)]
    exact c1
theorem s_spellCage {M : ZM} (hR : MR b M) (hW : Wf b) {k : Nat} (hk : k < b 3) (hS : Spl w l M) (hl : l.length < 60000) : ∃ M', zEv (d + 6) zmM_spellCage [.ref 866, .int (nI k)] M = some (none, M') ∧ Spl w (l ++ sCage b k) M' ∧ frI pSp M M' := by
  have h12 := cg_12 hW hk
  have hg := (hW.2.2.2.2.2 k hk).1
  have hw7 : ∀ {j : Nat}, j < 17 → (wd j).length ≤ 7 := fun h => wd_le h
  obtain ⟨M1, a1, a2, a3⟩ := s_spellWord (d := d) (j := 3) (by omega) hS (by omega)
  have r1 := hR.frSp a3
  have l1 : (l ++ wd 3).length < 61000 := by rw [List.length_append]; have := hw7 (show 3 < 17 by omega); omega
  have e0 := s_of (d := d + 4) hR h12 (show 0 < 10 by omega)
  rw [show 148 + 10 * k + 0 = 148 + 10 * k from rfl] at e0
  have fin : ∀ j, j < 17 → ∃ M2, zEv (d + 5) zmM_spellWord [.ref 866, .ref (j + 1)] M1 = some (none, M2) ∧ MR b M2 ∧ frI pSp M M2 ∧ (b (148 + 10 * k) = 3 → ∃ M', h_M_spellCage_68 (d + 5) (nI k) M2 = some (none, M') ∧ Spl w (l ++ (wd 3 ++ (wd j ++ (sCg1 b k ++ (sCg2 b k ++ sCg3 b k))))) M' ∧ frI pSp M M') ∧
      (b (148 + 10 * k) ≠ 3 → ∃ M3 M', zEv (d + 5) zmM_spellNumber [.ref 866, .int (nI (b (149 + 10 * k)))] M2 = some (none, M3) ∧ h_M_spellCage_68 (d + 5) (nI k) M3 = some (none, M') ∧ Spl w (l ++ (wd 3 ++ (wd j ++ (sCg1 b k ++ (sCg2 b k ++ sCg3 b k))))) M' ∧ frI pSp M M') := by
    intro j hj
    obtain ⟨M2, b1, b2, b3⟩ := s_spellWord (d := d) hj a2 (by omega)
    have r2 := r1.frSp b3
    have l2 : (l ++ wd 3 ++ wd j).length < 62000 := by rw [List.length_append]; have := hw7 hj; omega
    refine ⟨M2, b1, r2, a3.trans b3, fun e => ?_, fun e => ?_⟩
    · obtain ⟨M', c1, c2, c3⟩ := s_spellCage_68 (d := d) hW hk r2 b2 (by omega)
      refine ⟨M', c1, ?_, (a3.trans b3).trans c3⟩
      unfold sCg1
      rw [if_pos e, List.nil_append, ← List.append_assoc, ← List.append_assoc]
      exact c2
    · obtain ⟨M3, p1, p2, p3⟩ := s_spellNumber (d := d + 2) (v := b (149 + 10 * k)) (by omega) b2 (by omega)
      have r3 := r2.frSp p3
      obtain ⟨M', c1, c2, c3⟩ := s_spellCage_68 (d := d) hW hk r3 p2 (by rw [List.length_append]; have := sNum_len (b (149 + 10 * k)); omega)
      refine ⟨M3, M', p1, c1, ?_, ((a3.trans b3).trans p3).trans c3⟩
      unfold sCg1
      rw [if_neg e, ← List.append_assoc, ← List.append_assoc, ← List.append_assoc]
      exact c2
  unfold sCage sortW
  by_cases s0 : b (148 + 10 * k) = 0
  · obtain ⟨M2, b1, r2, -, -, b3⟩ := fin 15 (by decide)
    obtain ⟨M3, M', p1, c1, c2, c3⟩ := b3 (by omega)
    rw [if_pos s0]
    refine ⟨M', e_M_spellCage ?_, c2, c3⟩
    rw [e0, zC1_some, a1, zC0_some, if_pos (by rw [s0]), b1, zC0_some, if_neg (by rw [n_eq (by omega) (by omega)]; omega), s_of (d := d + 4) r2 h12 (show 1 < 10 by omega), zC1_some, show 148 + 10 * k + 1 = 149 + 10 * k by omega, p1, zC0_some]
    exact c1
  · by_cases s1 : b (148 + 10 * k) = 1
    · obtain ⟨M2, b1, r2, -, -, b3⟩ := fin 13 (by decide)
      obtain ⟨M3, M', p1, c1, c2, c3⟩ := b3 (by omega)
      rw [if_neg s0, if_pos s1]
      refine ⟨M', e_M_spellCage ?_, c2, c3⟩
      rw [e0, zC1_some, a1, zC0_some, if_neg (by rw [n_eq (by omega) (by omega)]; exact s0), if_pos (by rw [s1]), b1, zC0_some, if_neg (by rw [n_eq (by omega) (by omega)]; omega), s_of (d := d + 4) r2 h12 (show 1 < 10 by omega), zC1_some, show 148 + 10 * k + 1 = 149 + 10 * k by omega, p1, zC0_some]
      exact c1
    · by_cases s2 : b (148 + 10 * k) = 2
      · obtain ⟨M2, b1, r2, -, -, b3⟩ := fin 14 (by decide)
        obtain ⟨M3, M', p1, c1, c2, c3⟩ := b3 (by omega)
        rw [if_neg s0, if_neg s1, if_pos s2]
        refine ⟨M', e_M_spellCage ?_, c2, c3⟩
        rw [e0, zC1_some, a1, zC0_some, if_neg (by rw [n_eq (by omega) (by omega)]; exact s0), if_neg (by rw [n_eq (by omega) (by omega)]; exact s1), if_pos (by rw [s2]), b1, zC0_some, if_neg (by rw [n_eq (by omega) (by omega)]; omega), s_of (d := d + 4) r2 h12 (show 1 < 10 by omega), zC1_some, show 148 + 10 * k + 1 = 149 + 10 * k by omega, p1, zC0_some]
        exact c1
      · obtain ⟨M2, b1, r2, -, b3, -⟩ := fin 7 (by decide)
        obtain ⟨M', c1, c2, c3⟩ := b3 (by omega)
        rw [if_neg s0, if_neg s1, if_neg s2]
        refine ⟨M', e_M_spellCage ?_, c2, c3⟩
        rw [e0, zC1_some, a1, zC0_some, if_neg (by rw [n_eq (by omega) (by omega)]; exact s0), if_neg (by rw [n_eq (by omega) (by omega)]; exact s1), if_neg (by rw [n_eq (by omega) (by omega)]; exact s2), b1, zC0_some, if_pos (by rw [show b (148 + 10 * k) = 3 by omega])]
        exact c1
end MI2
