/-! THE MODEL, 16: combos, count -/
/-- the digits of a set, rising -/
def digs (m : Nat) : List Nat := (List.range' 1 7).filter fun x => m.testBit x
theorem popc_digs {m : Nat} (h : m < 256) (h0 : m.testBit 0 = false) : popc m = (digs m).length := by
  unfold popc digs
  rw [show List.range 32 = 0 :: (List.range' 1 7 ++ List.range' 8 24) from rfl, List.countP_cons, List.countP_append, ← List.countP_eq_length_filter, h0]
  have : (List.range' 8 24).countP (fun i => m.testBit i) = 0 := by
    rw [List.countP_eq_zero]
    intro i hi hb
    rw [List.mem_range'_1] at hi
    have h1 : 2 ^ i ≤ m := Nat.ge_two_pow_of_testBit hb
    have h2 : 2 ^ 8 ≤ 2 ^ i := Nat.pow_le_pow_right (by omega) hi.1
    omega
  rw [this]
  simp
theorem digs_le {m x : Nat} (h : x ∈ digs m) : x ≤ 7 := by
  unfold digs at h
  have := List.mem_range'_1.mp (List.mem_filter.mp h).1
  omega
def combT (s n : Nat) (z : Int32) (m : Nat) : Bool := decide (popc m = n) && decide (nI (tot s (digs m)) = z)
def spCombos (b : Nat → Nat) (x y z : Int32) : Int32 := bif decide (0 < b 2) && (iI x 3 && iD y 6) then nI ((List.range' 1 (2 ^ b 2 - 1)).countP fun e => combT x.toInt.toNat y.toInt.toNat z (2 * e)) else -1
/-- what is counted of a cell -/
def cntG (b : Nat → Nat) (w c : Nat) : Nat := if w = 3 then 1 else if w = 5 then b (76 + c) else if w = 6 then (if 0 < b (40 + c) then 1 else 0) else popc (b (112 + c))
def cntN (b : Nat → Nat) (w : Nat) : Nat → Nat
  | 0 => 0
  | c + 1 => cntN b w c + (if isO b c = true then cntG b w c else 0)
def cntO (b : Nat → Nat) (w : Nat) : Nat := cntN b w (b 0 * b 1)
def spCount (b : Nat → Nat) (u : Nat) (tp : Int32) (k0 k1 : Bool) (x : Int32) : Int32 :=
  if x = nI 0 then nI (b 0) else if x = nI 1 then nI (b 1) else if x = nI 2 then nI (b 2) else if x = nI 3 then nI (cntO b 3) else if x = nI 4 then nI (b 3) else if x = nI 5 then nI (cntO b 5) else if x = nI 6 then nI (cntO b 6) else if x = nI 7 then nI (cntO b 7) else if x = nI 8 then nI u else if x = nI 9 then tp else if x = nI 10 then nI ((bif k0 then 1 else 0) + (bif k1 then 2 else 0)) else -1
section MN
variable {d : Nat} {M : ZM} {b : Nat → Nat}
theorem s_laysSet_l {m : Nat} (hm : m < 256) : ∀ (j x : Nat) (l : List Nat) (M : ZM), x + j = 8 → Laid l M → (l ++ (List.range' x j).filter fun x => m.testBit x).length ≤ 6 → ∃ M', h_M_laysSet_4 (d + 1) (nI m) (nI l.length) (nI x) M = some (some (.int (nI (l ++ (List.range' x j).filter fun x => m.testBit x).length)), M') ∧ frI (pL 0) M M' ∧ Laid (l ++ (List.range' x j).filter fun x => m.testBit x) M' := by
  intro j
  induction j with
  | zero =>
    intro x l M h hL h6
    rw [List.range'_zero, List.filter_nil, List.append_nil] at h6 ⊢
    refine ⟨M, ?_, fr.refl, hL⟩
    refine e_M_laysSet_4 ?_
    simp only [n_lt (show 7 < 2147483648 by omega) (show x < 2147483648 by omega)]
    rw [if_pos (by omega)]
  | succ j ih =>
    intro x l M h hL h6
    rw [List.range'_succ] at h6 ⊢
    cases hb : m.testBit x with
    | false =>
      rw [List.filter_cons_of_neg (by rw [hb]; simp)] at h6 ⊢
      obtain ⟨M', a1, a2⟩ := ih (x + 1) l M (by omega) hL h6
      have hl6 : l.length ≤ 6 := by rw [List.length_append] at h6; omega
      by_cases e6 : l.length < 6
      · refine ⟨M', ?_, a2⟩
        refine e_M_laysSet_4 ?_
        simp only [n_lt (show 7 < 2147483648 by omega) (show x < 2147483648 by omega), n_lt (show l.length < 2147483648 by omega) (show 6 < 2147483648 by omega), s_holds (show m < 2147483648 by omega) (show x < 32 by omega), zC1_some, hb, nB0, if_true, n_add1, a1]
        rw [if_neg (by omega), if_pos e6]
      · have e0 : (List.range' (x + 1) j).filter (fun x => m.testBit x) = [] := by
          rw [List.length_append] at h6
          exact List.eq_nil_of_length_eq_zero (by omega)
        rw [e0, List.append_nil]
        refine ⟨M, ?_, fr.refl, hL⟩
        refine e_M_laysSet_4 ?_
        simp only [n_lt (show 7 < 2147483648 by omega) (show x < 2147483648 by omega), n_lt (show l.length < 2147483648 by omega) (show 6 < 2147483648 by omega)]
        rw [if_neg (by omega), if_neg e6]
    | true =>
      rw [List.filter_cons_of_pos (by rw [hb])] at h6 ⊢
      have hl6 : l.length < 6 := by rw [List.length_append, List.length_cons] at h6; omega
      have eA : l ++ x :: (List.range' (x + 1) j).filter (fun x => m.testBit x) = (l ++ [x]) ++ (List.range' (x + 1) j).filter (fun x => m.testBit x) := by rw [List.append_assoc]; rfl
      rw [eA] at h6 ⊢
      obtain ⟨M', a1, a2, a3⟩ := ih (x + 1) (l ++ [x]) _ (by omega) hL.push h6
      rw [show (l ++ [x]).length = l.length + 1 by simp] at a1
      refine ⟨M', ?_, (fr.refl.pi (show pL 0 872 l.length from ⟨rfl, Nat.zero_le _⟩)).trans a2, a3⟩
      refine e_M_laysSet_4 ?_
      simp only [n_lt (show 7 < 2147483648 by omega) (show x < 2147483648 by omega), n_lt (show l.length < 2147483648 by omega) (show 6 < 2147483648 by omega), s_holds (show m < 2147483648 by omega) (show x < 32 by omega), zC1_some, hb, nB0, n_zin (show l.length < 2147483648 by omega), n_clamp (show l.length < 2147483648 by omega), n_add1, a1]
      rw [if_neg (by omega), if_pos hl6, if_neg (show ¬ (true = false) by simp), if_pos hl6]
theorem s_laysSet {m : Nat} (hm : m < 256) (h6 : (digs m).length ≤ 6) : ∃ M', zEv (d + 2) zmM_laysSet [.ref 866, .int (nI m)] M = some (some (.int (nI (digs m).length)), M') ∧ frI (pL 0) M M' ∧ Laid (digs m) M' := by
  obtain ⟨M', a1, a2, a3⟩ := s_laysSet_l (d := d) hm 7 1 [] M rfl (fun i hi => by cases hi) (by rw [List.nil_append]; exact h6)
  rw [List.nil_append] at a1 a3
  exact ⟨M', e_M_laysSet a1, a2, a3⟩
theorem s_combos_l (hW : Wf b) {s n : Nat} (hs : s < 3) (hn : 1 ≤ n) (hn6 : n ≤ 6) (z : Int32) : ∀ (j e acc : Nat) (M : ZM), e + j = 2 ^ b 2 → 1 ≤ e → MR b M → ∃ M', h_M_combos_39 (d + 2) (nI s) (nI n) z (nI acc) (nI (2 * e)) M = some (some (.int (nI (acc + (List.range' e j).countP fun e => combT s n z (2 * e)))), M') ∧ frI (pL 0) M M' := by
  have h27 := hW.1.2.2.1
  have hp : 2 ^ b 2 ≤ 2 ^ 7 := Nat.pow_le_pow_right (by omega) h27
  have hA : allM b = 2 * 2 ^ b 2 - 2 := by unfold allM; rw [Nat.pow_succ, Nat.mul_comm]
  intro j
  induction j with
  | zero =>
    intro e acc M h h1 hR
    refine ⟨M, ?_, fr.refl⟩
    refine e_M_combos_39 ?_
    simp only [s_allMarks hR hW, zC1_some, n_lt (show allM b < 2147483648 by omega) (show 2 * e < 2147483648 by omega)]
    rw [if_pos (by omega)]
    rfl
  | succ j ih =>
    intro e acc M h h1 hR
    have hm : 2 * e < 256 := by omega
    have hm0 : (2 * e).testBit 0 = false := by rw [Nat.testBit_zero]; exact decide_eq_false (by omega)
    have hpd := popc_digs hm hm0
    have hpl := popc_le (2 * e)
    rw [List.range'_succ, List.countP_cons]
    have e2 : 2 * (e + 1) = 2 * e + 2 := by omega
    by_cases hn2 : popc (2 * e) = n
    · obtain ⟨M1, a1, a2, a3⟩ := s_laysSet (d := d) (M := M) hm (by omega)
      have hR1 : MR b M1 := hR.frL a2
      have hne : digs (2 * e) ≠ [] := fun z => by rw [z] at hpd; simp at hpd; omega
      have hT := s_totalBy (d := d + 1) a3 (fun x hx => digs_le hx) (by omega) (show s ≤ 3 by omega) hne
      by_cases hz : nI (tot s (digs (2 * e))) = z
      · obtain ⟨M', b1, b2⟩ := ih (e + 1) (acc + 1) M1 (by omega) (by omega) hR1
        have hc : combT s n z (2 * e) = true := by unfold combT; rw [decide_eq_true hn2, decide_eq_true hz]; rfl
        refine ⟨M', ?_, a2.trans b2⟩
        rw [hc, if_pos rfl]
        rw [e2, Nat.add_assoc, Nat.add_comm 1] at b1
        refine e_M_combos_39 ?_
        simp only [s_allMarks hR hW, zC1_some, n_lt (show allM b < 2147483648 by omega) (show 2 * e < 2147483648 by omega), s_bits (show 2 * e < 2147483648 by omega), n_eq (show popc (2 * e) < 2147483648 by omega) (show n < 2147483648 by omega), a1, hT, hz, if_true, n_add, b1]
        rw [if_neg (by omega), if_pos hn2]
      · obtain ⟨M', b1, b2⟩ := ih (e + 1) acc M1 (by omega) (by omega) hR1
        have hc : combT s n z (2 * e) = false := by unfold combT; rw [decide_eq_false hz, Bool.and_false]
        refine ⟨M', ?_, a2.trans b2⟩
        rw [hc, if_neg (by simp), Nat.add_zero]
        rw [e2] at b1
        refine e_M_combos_39 ?_
        simp only [s_allMarks hR hW, zC1_some, n_lt (show allM b < 2147483648 by omega) (show 2 * e < 2147483648 by omega), s_bits (show 2 * e < 2147483648 by omega), n_eq (show popc (2 * e) < 2147483648 by omega) (show n < 2147483648 by omega), a1, hT, if_neg hz, n_add, Nat.add_zero, b1]
        rw [if_neg (by omega), if_pos hn2]
    · obtain ⟨M', b1, b2⟩ := ih (e + 1) acc M (by omega) (by omega) hR
      have hc : combT s n z (2 * e) = false := by unfold combT; rw [decide_eq_false hn2, Bool.false_and]
      refine ⟨M', ?_, b2⟩
      rw [hc, if_neg (by simp), Nat.add_zero]
      rw [e2] at b1
      refine e_M_combos_39 ?_
      simp only [s_allMarks hR hW, zC1_some, n_lt (show allM b < 2147483648 by omega) (show 2 * e < 2147483648 by omega), s_bits (show 2 * e < 2147483648 by omega), n_eq (show popc (2 * e) < 2147483648 by omega) (show n < 2147483648 by omega), n_add, b1]
      rw [if_neg (by omega), if_neg hn2]
      rfl
theorem s_combos (hR : MR b M) (hW : Wf b) (x y z : Int32) : ∃ M', zEv (d + 3) zmM_combos [.ref 866, .int x, .int y, .int z] M = some (some (.int (spCombos b x y z)), M') ∧ frI pS M M' := by
  unfold spCombos
  cases h2 : decide (0 < b 2) with
  | false =>
    refine ⟨M, ?_, fr.refl⟩
    refine e_M_combos ?_
    simp only [s_isBoard hR hW, zC1_some, nB0, h2, if_true]
    rfl
  | true =>
    cases hx : iI x 3 with
    | false =>
      refine ⟨M, ?_, fr.refl⟩
      refine e_M_combos ?_
      simp only [s_isBoard hR hW, zC1_some, nB0, h2, s_inI x (show 2 < 2147483648 by omega), hx, if_true]
      rfl
    | true =>
      cases hy : iD y 6 with
      | false =>
        refine ⟨M, ?_, fr.refl⟩
        refine e_M_combos ?_
        simp only [s_isBoard hR hW, zC1_some, nB0, h2, s_inI x (show 2 < 2147483648 by omega), hx, s_inD y (show 6 < 2147483648 by omega), hy, if_true]
        rfl
      | true =>
        obtain ⟨s, hs, rfl⟩ := iI_ex (by omega) hx
        obtain ⟨n, hn, hn6, rfl⟩ := iD_ex (by omega) hy
        have hp := Nat.one_le_two_pow (n := b 2)
        obtain ⟨M', a1, a2⟩ := s_combos_l (d := d) hW hs hn hn6 z (2 ^ b 2 - 1) 1 0 M (by omega) (by omega) hR
        refine ⟨M', ?_, frL_S a2⟩
        refine e_M_combos ?_
        rw [Nat.zero_add] at a1
        simp only [s_isBoard hR hW, zC1_some, nB0, h2, s_inI (nI s) (show 2 < 2147483648 by omega), hx, s_inD (nI n) (show 6 < 2147483648 by omega), hy, n_toInt (show s < 2147483648 by omega), n_toInt (show n < 2147483648 by omega), Int.toNat_natCast]
        exact a1
theorem s_counted_l (hR : MR b M) (hW : Wf b) {w : Nat} (hw : w = 3 ∨ w = 5 ∨ w = 6 ∨ w = 7) : ∀ j c, c + j = b 0 * b 1 → h_M_counted_4 (d + 3) (nI w) (nI (cntN b w c)) (nI c) M = some (some (.int (nI (cntO b w))), M) := by
  have h36 := hW.n36
  intro j
  induction j with
  | zero =>
    intro c h
    refine e_M_counted_4 ?_
    simp only [s_cells hR, zC1_some, n_lt (show c < 2147483648 by omega) (show b 0 * b 1 < 2147483648 by omega)]
    rw [if_neg (by omega)]
    obtain rfl : c = b 0 * b 1 := by omega
    rfl
  | succ j ih =>
    intro c h
    have hc : c < 36 := by omega
    have ih' := ih (c + 1) (by omega)
    have hmk := mk_lt hW hc
    unfold cntN at ih'
    cases hO : isO b c with
    | false =>
      rw [hO, if_neg (by simp), Nat.add_zero] at ih'
      refine e_M_counted_4 ?_
      simp only [s_cells hR, zC1_some, n_lt (show c < 2147483648 by omega) (show b 0 * b 1 < 2147483648 by omega), s_isOpen hR hW (show c < 2147483648 by omega), hO, nB0, if_true, n_add1]
      rw [if_pos (by omega)]
      exact ih'
    | true =>
      rw [hO, if_pos rfl] at ih'
      unfold cntG at ih'
      refine e_M_counted_4 ?_
      simp only [s_cells hR, zC1_some, n_lt (show c < 2147483648 by omega) (show b 0 * b 1 < 2147483648 by omega), s_isOpen hR hW (show c < 2147483648 by omega), hO, nB0, n_eq (show w < 2147483648 by omega) (show 3 < 2147483648 by omega), n_eq (show w < 2147483648 by omega) (show 5 < 2147483648 by omega), n_eq (show w < 2147483648 by omega) (show 6 < 2147483648 by omega), n_add, n_zin (show 76 + c < 2147483648 by omega), n_clamp (show 76 + c < 2147483648 by omega), hR (76 + c) (by omega), s_isDone hR hW hc, s_marks hR hc, s_bits (show b (112 + c) < 2147483648 by omega)]
      simp only [if_pos (show c < b 0 * b 1 by omega), if_pos (show 76 + c < 268 by omega)]
      rw [if_neg (show ¬ (true = false) by simp)]
      by_cases e3 : w = 3
      · rw [if_pos e3] at ih' ⊢; exact ih'
      · rw [if_neg e3] at ih' ⊢
        by_cases e5 : w = 5
        · rw [if_pos e5] at ih' ⊢; exact ih'
        · rw [if_neg e5] at ih' ⊢
          by_cases e6 : w = 6
          · rw [if_pos e6] at ih' ⊢
            by_cases e0 : 0 < b (40 + c)
            · rw [if_pos e0] at ih'
              rw [decide_eq_true e0, if_neg (show ¬ (true = false) by simp)]
              exact ih'
            · rw [if_neg e0] at ih'
              rw [decide_eq_false e0, if_pos rfl]
              exact ih'
          · rw [if_neg e6] at ih' ⊢; exact ih'
theorem s_counted (hR : MR b M) (hW : Wf b) {w : Nat} (hw : w = 3 ∨ w = 5 ∨ w = 6 ∨ w = 7) : zEv (d + 4) zmM_counted [.ref 866, .int (nI w)] M = some (some (.int (nI (cntO b w))), M) := e_M_counted (s_counted_l (d := d) hR hW hw (b 0 * b 1) 0 (by omega))
theorem s_count (hR : MR b M) (hW : Wf b) {u : Nat} {tp : Int32} {k0 k1 : Bool} (hu : M.1 866 2 = nI u) (ht : M.1 866 35 = tp) (h0 : M.1 870 0 = nB k0) (h1 : M.1 870 1 = nB k1) (x : Int32) : zEv (d + 5) zmM_count [.ref 866, .int x] M = some (some (.int (spCount b u tp k0 k1 x)), M) := by
  refine e_M_count ?_
  unfold spCount
  by_cases e : x = nI 0
  · rw [if_pos e, if_pos e, hR 0 (by omega)]
  rw [if_neg e, if_neg e]
  by_cases e : x = nI 1
  · rw [if_pos e, if_pos e, hR 1 (by omega)]
  rw [if_neg e, if_neg e]
  by_cases e : x = nI 2
  · rw [if_pos e, if_pos e, s_top hR]; rfl
  rw [if_neg e, if_neg e]
  by_cases e : x = nI 3
  · rw [if_pos e, if_pos e, e, s_counted hR hW (by omega)]; rfl
  rw [if_neg e, if_neg e]
  by_cases e : x = nI 4
  · rw [if_pos e, if_pos e, s_cages hR]; rfl
  rw [if_neg e, if_neg e]
  by_cases e : x = nI 5
  · rw [if_pos e, if_pos e, e, s_counted hR hW (by omega)]; rfl
  rw [if_neg e, if_neg e]
  by_cases e : x = nI 6
  · rw [if_pos e, if_pos e, e, s_counted hR hW (by omega)]; rfl
  rw [if_neg e, if_neg e]
  by_cases e : x = nI 7
  · rw [if_pos e, if_pos e, e, s_counted hR hW (by omega)]; rfl
  rw [if_neg e, if_neg e]
  by_cases e : x = nI 8
  · rw [if_pos e, if_pos e, hu]
  rw [if_neg e, if_neg e]
  by_cases e : x = nI 9
  · rw [if_pos e, if_pos e, ht]
  rw [if_neg e, if_neg e]
  by_cases e : x = nI 10
  · rw [if_pos e, if_pos e]
    simp only [h0, h1, nB0]
    cases k0 <;> cases k1 <;> rfl
  rw [if_neg e, if_neg e]
end MN
