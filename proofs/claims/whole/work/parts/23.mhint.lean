/-! THE MODEL, 12: solve, solution, agree, hint -/
def spSolve (b : Nat → Nat) (x : Int32) : Int32 := bif decide (0 < b 2) && iD x 50 then nI (min x.toInt.toNat (slv b).length) else -1
def spSolution (b : Nat → Nat) (x y : Int32) : Int32 := bif iI x 10 && oI b y then (if x.toInt.toNat < (slv b).length then nI (dgt ((slv b).getD x.toInt.toNat fun _ => 0) y.toInt.toNat) else -2) else -1
/-- digits that some solution has in a cell -/
def agrM (b : Nat → Nat) (c : Nat) : Nat := msk (b 2 + 1) fun x => (b (112 + c)).testBit x && !(slv (setK b c (2 ^ x))).isEmpty
def spAgree (b : Nat → Nat) (x : Int32) : Int32 := bif oI b x then nI (agrM b x.toInt.toNat) else -1
/-- where the hint is -/
def hintP (b : Nat → Nat) (c : Nat) : Bool := isO b c && !decide (0 < b (40 + c)) && (decide (agrM b c = 0) || decide (popc (agrM b c) = 1))
def hintR (b : Nat → Nat) (x : Int32) (o : Option Nat) : Int32 := match o with
  | none => -2
  | some c => if agrM b c = 0 then -2 else if x = nI 0 then nI c else nI (lst (agrM b c))
def spHint (b : Nat → Nat) (x : Int32) : Int32 := bif decide (0 < b 2) && iI x 2 then hintR b x ((List.range (b 0 * b 1)).find? (hintP b)) else -1
section MH
variable {d : Nat} {M : ZM} {b : Nat → Nat}
theorem s_inI (x : Int32) {n : Nat} (hn : n < 2147483648) : zEv (d + 1) zmM_in [.long (Int32.toInt64 x), .long (nJ 0), .long (nJ n)] M = some (some (.int (nB (iI x (n + 1)))), M) := by
  rw [s_in, Int32.toInt_toInt64, j_toInt (show 0 < 9223372036854775808 by omega), j_toInt (show n < 9223372036854775808 by omega)]
  unfold iI
  congr 5
  rw [Bool.eq_iff_iff]
  simp only [Bool.and_eq_true, decide_eq_true_eq]
  omega
theorem s_inD (x : Int32) {n : Nat} (hn : n < 2147483648) : zEv (d + 1) zmM_in [.long (Int32.toInt64 x), .long (nJ 1), .long (nJ n)] M = some (some (.int (nB (iD x n))), M) := by
  rw [s_in, Int32.toInt_toInt64, j_toInt (show 1 < 9223372036854775808 by omega), j_toInt (show n < 9223372036854775808 by omega)]
  rfl
theorem s_solve (hR : MR b M) (hW : Wf b) (x : Int32) : ∃ M', zEv (d + 50) zmM_solve [.ref 866, .int x] M = some (some (.int (spSolve b x)), M') ∧ frI pS M M' := by
  unfold spSolve
  cases h2 : decide (0 < b 2) with
  | false =>
    refine ⟨M, ?_, fr.refl⟩
    refine e_M_solve ?_
    simp only [s_isBoard hR hW, zC1_some, nB0, h2, if_true]
    rfl
  | true =>
    cases hx : iD x 50 with
    | false =>
      refine ⟨M, ?_, fr.refl⟩
      refine e_M_solve ?_
      simp only [s_isBoard hR hW, zC1_some, nB0, h2, s_inD x (show 50 < 2147483648 by omega), hx, if_true]
      rfl
    | true =>
      obtain ⟨m, h1, h50, rfl⟩ := iD_ex (by omega) hx
      obtain ⟨M', a1, a2, a3⟩ := s_solvesS (d := d) hR hW (show 0 < m by omega) h50
      refine ⟨M', ?_, a2⟩
      refine e_M_solve ?_
      simp only [s_isBoard hR hW, zC1_some, nB0, h2, s_inD (nI m) (show 50 < 2147483648 by omega), hx, a1, n_toInt (show m < 2147483648 by omega), Int.toNat_natCast]
      rfl
theorem s_solution (hR : MR b M) (hW : Wf b) (x y : Int32) : ∃ M', zEv (d + 50) zmM_solution [.ref 866, .int x, .int y] M = some (some (.int (spSolution b x y)), M') ∧ frI pS M M' := by
  unfold spSolution
  cases hx : iI x 10 with
  | false =>
    refine ⟨M, ?_, fr.refl⟩
    refine e_M_solution ?_
    simp only [s_inI x (show 9 < 2147483648 by omega), zC1_some, nB0, hx, if_true]
    rfl
  | true =>
    cases hy : oI b y with
    | false =>
      refine ⟨M, ?_, fr.refl⟩
      refine e_M_solution ?_
      simp only [s_inI x (show 9 < 2147483648 by omega), zC1_some, nB0, hx, s_isOpenI hR hW, hy, if_true]
      rfl
    | true =>
      obtain ⟨m, hm, rfl⟩ := iI_ex (by omega) hx
      obtain ⟨c, hc, hO, rfl⟩ := oI_ex hW hy
      have hcN : c < b 0 * b 1 := by
        unfold isO at hO
        rw [Bool.and_eq_true] at hO
        exact of_decide_eq_true hO.1
      obtain ⟨M', a1, a2, a3⟩ := s_solvesS (d := d) hR hW (show 0 < m + 1 by omega) (by omega)
      refine ⟨M', ?_, a2⟩
      refine e_M_solution ?_
      simp only [s_inI (nI m) (show 9 < 2147483648 by omega), zC1_some, nB0, hx, s_isOpenI hR hW, hy, n_add, a1, n_mul, n_toInt (show m < 2147483648 by omega), n_toInt (show c < 2147483648 by omega), Int.toNat_natCast, n_lt (show m < 2147483648 by omega) (show min (m + 1) (slv b).length < 2147483648 by omega), n_zin (show 36 * m + c < 2147483648 by omega), n_clamp (show 36 * m + c < 2147483648 by omega), Bool.and_true, cond_true]
      simp only [if_pos (show 36 * m + c < 1800 by omega)]
      by_cases e : m < (slv b).length
      · rw [if_pos e]
        rw [a3 m (by omega) c hcN]
        simp only [if_pos (show m < min (m + 1) (slv b).length by omega)]
        rfl
      · rw [if_neg e]
        simp only [if_neg (show ¬ m < min (m + 1) (slv b).length by omega)]
        rfl
theorem s_isSolvedWith (hR : MR b M) (hW : Wf b) {c x : Nat} (hO : isO b c = true) (hx1 : 1 ≤ x) (hx2 : x ≤ b 2) : ∃ M', zEv (d + 50) zmM_isSolvedWith [.ref 866, .int (nI c), .int (nI x)] M = some (some (.int (nB (!(slv (setK b c (2 ^ x))).isEmpty))), M') ∧ frI pS M M' := by
  have hc := isO_lt hW hO
  have h27 := hW.1.2.2.1
  have hpw : 2 ^ x < 2 ^ (b 2 + 1) := (Nat.pow_lt_pow_iff_right (by omega)).mpr (by omega)
  have hpt : (2 ^ x).testBit 0 = false := by
    rw [Nat.testBit_two_pow]
    exact decide_eq_false (by omega)
  have ePl : (1 : Nat) <<< x = 2 ^ x := by rw [Nat.shiftLeft_eq, Nat.one_mul]
  have r1 := mr_setK hR (c := c) (m := 2 ^ x)
  obtain ⟨M1, a1, a2, a3⟩ := s_solvesS (d := d) r1 (wf_setK hW hO hpw hpt) (m := 1) (by omega) (by omega)
  have r2 := r1.frS a2
  have r3 := mr_setK r2 (c := c) (m := b (112 + c))
  rw [setK_set, setK_self] at r3
  have hf : frI pS M (zpi M1 867 (112 + c) (nI (b (112 + c)))) := by
    refine ⟨fun a k h => ?_, fun a k h => a2.2 a k h⟩
    rw [m_pi]
    by_cases e : a = 867 ∧ k = 112 + c
    · rw [if_pos e, e.1, e.2, hR _ (by omega)]
    · rw [if_neg e, a2.1 a k h, m_pi, if_neg e]
  refine ⟨_, ?_, hf⟩
  refine e_M_isSolvedWith ?_
  simp only [s_marks hR hc, zC1_some, n_add, n_zin (show 112 + c < 2147483648 by omega), n_clamp (show 112 + c < 2147483648 by omega), n_shl (show x < 32 by omega), ePl, a1, n_eq (show min 1 (slv (setK b c (2 ^ x))).length < 2147483648 by omega) (show 1 < 2147483648 by omega)]
  rw [if_pos (by omega)]
  cases hl : slv (setK b c (2 ^ x)) with
  | nil => rfl
  | cons s l =>
    rw [if_pos (by rw [List.length_cons]; omega)]
    rfl
theorem s_agreed_l (hW : Wf b) {c : Nat} (hO : isO b c = true) : ∀ j x (M : ZM), x + j = b 2 + 1 → 1 ≤ x → MR b M → ∃ M', h_M_agreed_4 (d + 50) (nI c) (nI (msk x fun x => (b (112 + c)).testBit x && !(slv (setK b c (2 ^ x))).isEmpty)) (nI x) M = some (some (.int (nI (agrM b c))), M') ∧ frI pS M M' := by
  have hc := isO_lt hW hO
  have h27 := hW.1.2.2.1
  have hmk := mk_lt hW hc
  intro j
  induction j with
  | zero =>
    intro x M h h1 hR
    refine ⟨M, ?_, fr.refl⟩
    refine e_M_agreed_4 ?_
    simp only [s_top hR, zC1_some, n_lt (show b 2 < 2147483648 by omega) (show x < 2147483648 by omega)]
    rw [if_pos (by omega)]
    obtain rfl : x = b 2 + 1 := by omega
    rfl
  | succ j ih =>
    intro x M h h1 hR
    have ePl : (1 : Nat) <<< x = 2 ^ x := by rw [Nat.shiftLeft_eq, Nat.one_mul]
    cases hbit : (b (112 + c)).testBit x with
    | false =>
      obtain ⟨M', a1, a2⟩ := ih (x + 1) M (by omega) (by omega) hR
      refine ⟨M', ?_, a2⟩
      rw [msk_succ, hbit, Bool.false_and, cond_false] at a1
      refine e_M_agreed_4 ?_
      simp only [s_top hR, zC1_some, n_lt (show b 2 < 2147483648 by omega) (show x < 2147483648 by omega), s_marks hR hc, s_holds (show b (112 + c) < 2147483648 by omega) (show x < 32 by omega), hbit, nB0, if_true, n_or, n_add1, a1]
      rw [if_neg (by omega)]
    | true =>
      obtain ⟨M1, q1, q2⟩ := s_isSolvedWith (d := d) hR hW hO h1 (show x ≤ b 2 by omega)
      obtain ⟨M', a1, a2⟩ := ih (x + 1) M1 (by omega) (by omega) (hR.frS q2)
      refine ⟨M', ?_, q2.trans a2⟩
      rw [msk_succ, hbit, Bool.true_and] at a1
      refine e_M_agreed_4 ?_
      simp only [s_top hR, zC1_some, n_lt (show b 2 < 2147483648 by omega) (show x < 2147483648 by omega), s_marks hR hc, s_holds (show b (112 + c) < 2147483648 by omega) (show x < 32 by omega), hbit, nB0, q1, n_or, n_add1, n_shl (show x < 32 by omega), ePl]
      simp only [if_neg (show ¬ b 2 < x by omega)]
      cases he : (!(slv (setK b c (2 ^ x))).isEmpty) with
      | false =>
        rw [he, cond_false] at a1
        simp only [if_true]
        exact a1
      | true =>
        rw [he, cond_true] at a1
        exact a1
theorem s_agreed (hR : MR b M) (hW : Wf b) {c : Nat} (hO : isO b c = true) : ∃ M', zEv (d + 51) zmM_agreed [.ref 866, .int (nI c)] M = some (some (.int (nI (agrM b c))), M') ∧ frI pS M M' := by
  obtain ⟨M', a1, a2⟩ := s_agreed_l (d := d) hW hO (b 2) 1 M (by omega) (by omega) hR
  have e : msk 1 (fun x => (b (112 + c)).testBit x && !(slv (setK b c (2 ^ x))).isEmpty) = 0 := by
    rw [msk_succ, (hW.2.2.2.1 c (isO_lt hW hO)).2.1.2.2, Bool.false_and, cond_false, Nat.or_zero]
    rfl
  rw [e] at a1
  exact ⟨M', e_M_agreed a1, a2⟩
theorem s_agree (hR : MR b M) (hW : Wf b) (x : Int32) : ∃ M', zEv (d + 52) zmM_agree [.ref 866, .int x] M = some (some (.int (spAgree b x)), M') ∧ frI pS M M' := by
  unfold spAgree
  cases hy : oI b x with
  | false =>
    refine ⟨M, ?_, fr.refl⟩
    refine e_M_agree ?_
    simp only [s_isOpenI hR hW, zC1_some, nB0, hy, if_true]
    rfl
  | true =>
    obtain ⟨c, hc, hO, rfl⟩ := oI_ex hW hy
    obtain ⟨M', a1, a2⟩ := s_agreed (d := d) hR hW hO
    refine ⟨M', ?_, a2⟩
    refine e_M_agree ?_
    simp only [s_isOpenI hR hW, zC1_some, nB0, hy, a1, n_toInt (show c < 2147483648 by omega), Int.toNat_natCast]
    rfl
theorem agrM_lt (hW : Wf b) {c : Nat} : agrM b c < 256 := by
  have h1 := msk_lt (b 2 + 1) fun x => (b (112 + c)).testBit x && !(slv (setK b c (2 ^ x))).isEmpty
  have h2 : 2 ^ (b 2 + 1) ≤ 2 ^ 8 := Nat.pow_le_pow_right (by omega) (by have := hW.1.2.2.1; omega)
  unfold agrM
  omega
theorem agrM_ex (hW : Wf b) {c : Nat} (hc : c < 36) (h : agrM b c ≠ 0) : ∃ z, 1 ≤ z ∧ z < 8 ∧ (agrM b c).testBit z = true := by
  obtain ⟨z, hz⟩ := Nat.exists_testBit_of_ne_zero h
  refine ⟨z, ?_, ?_, hz⟩
  · by_cases e : z = 0
    · unfold agrM at hz
      rw [msk_bit, e, (hW.2.2.2.1 c hc).2.1.2.2, Bool.false_and, Bool.and_false] at hz
      cases hz
    · omega
  · have h1 : 2 ^ z ≤ agrM b c := Nat.ge_two_pow_of_testBit hz
    have h2 := agrM_lt hW (c := c)
    exact (Nat.pow_lt_pow_iff_right (a := 2) (by omega)).mp (show 2 ^ z < 2 ^ 8 by omega)
theorem popc_le (m : Nat) : popc m ≤ 32 := by
  unfold popc
  exact Nat.le_trans List.countP_le_length (by rw [List.length_range]; omega)
theorem s_hint_l (hW : Wf b) (x : Int32) : ∀ j c (M : ZM), c + j = b 0 * b 1 → MR b M → ∃ M', h_M_hint_21 (d + 51) x (nI c) M = some (some (.int (hintR b x ((List.range' c j).find? (hintP b)))), M') ∧ frI pS M M' := by
  have h36 := hW.n36
  intro j
  induction j with
  | zero =>
    intro c M h hR
    refine ⟨M, ?_, fr.refl⟩
    refine e_M_hint_21 ?_
    simp only [s_cells hR, zC1_some, n_lt (show c < 2147483648 by omega) (show b 0 * b 1 < 2147483648 by omega)]
    rw [if_neg (by omega)]
    rfl
  | succ j ih =>
    intro c M h hR
    have hc : c < 36 := by omega
    rw [List.range'_succ, List.find?_cons]
    cases hO : isO b c with
    | false =>
      obtain ⟨M', a1, a2⟩ := ih (c + 1) M (by omega) hR
      have hP : hintP b c = false := by unfold hintP; rw [hO]; rfl
      rw [hP]
      refine ⟨M', ?_, a2⟩
      refine e_M_hint_21 ?_
      simp only [s_cells hR, zC1_some, n_lt (show c < 2147483648 by omega) (show b 0 * b 1 < 2147483648 by omega), s_isOpen hR hW (show c < 2147483648 by omega), hO, nB0, if_true, n_add1, a1]
      rw [if_pos (by omega)]
    | true =>
      cases hD : decide (0 < b (40 + c)) with
      | true =>
        obtain ⟨M', a1, a2⟩ := ih (c + 1) M (by omega) hR
        have hP : hintP b c = false := by unfold hintP; rw [hO, hD]; rfl
        rw [hP]
        refine ⟨M', ?_, a2⟩
        refine e_M_hint_21 ?_
        simp only [s_cells hR, zC1_some, n_lt (show c < 2147483648 by omega) (show b 0 * b 1 < 2147483648 by omega), s_isOpen hR hW (show c < 2147483648 by omega), hO, nB0, s_isDone hR hW hc, hD, n_add1, a1]
        simp only [if_pos (show c < b 0 * b 1 by omega)]
        rfl
      | false =>
        obtain ⟨M1, q1, q2⟩ := s_agreed (d := d) hR hW hO
        have hlt := agrM_lt hW (c := c)
        have hp := popc_le (agrM b c)
        by_cases h0 : agrM b c = 0
        · have hP : hintP b c = true := by unfold hintP; rw [hO, hD, decide_eq_true h0]; rfl
          rw [hP]
          refine ⟨M1, ?_, q2⟩
          refine e_M_hint_21 ?_
          simp only [s_cells hR, zC1_some, n_lt (show c < 2147483648 by omega) (show b 0 * b 1 < 2147483648 by omega), s_isOpen hR hW (show c < 2147483648 by omega), hO, nB0, s_isDone hR hW hc, hD, q1, if_true, h0]
          simp only [if_pos (show c < b 0 * b 1 by omega)]
          unfold hintR
          simp only [h0, if_true]
          rfl
        · by_cases h1 : popc (agrM b c) = 1
          · have hP : hintP b c = true := by unfold hintP; rw [hO, hD, decide_eq_true h1, Bool.or_true]; rfl
            rw [hP]
            refine ⟨M1, ?_, q2⟩
            refine e_M_hint_21 ?_
            simp only [s_cells hR, zC1_some, n_lt (show c < 2147483648 by omega) (show b 0 * b 1 < 2147483648 by omega), s_isOpen hR hW (show c < 2147483648 by omega), hO, nB0, s_isDone hR hW hc, hD, q1, if_true, n_eq (show agrM b c < 2147483648 by omega) (show 0 < 2147483648 by omega), s_bits (show agrM b c < 2147483648 by omega), n_eq (show popc (agrM b c) < 2147483648 by omega) (show 1 < 2147483648 by omega), s_least (show agrM b c < 2147483648 by omega) (agrM_ex hW hc h0)]
            simp only [if_pos (show c < b 0 * b 1 by omega), if_neg h0, if_pos h1]
            unfold hintR
            simp only [if_neg h0]
            rw [if_neg (show ¬ (true = false) by simp)]
            by_cases e : x = nI 0
            · rw [if_pos e, if_pos e]
            · rw [if_neg e, if_neg e]
          · have hP : hintP b c = false := by unfold hintP; rw [hO, hD, decide_eq_false h0, decide_eq_false h1]; rfl
            rw [hP]
            obtain ⟨M', a1, a2⟩ := ih (c + 1) M1 (by omega) (hR.frS q2)
            refine ⟨M', ?_, q2.trans a2⟩
            refine e_M_hint_21 ?_
            simp only [s_cells hR, zC1_some, n_lt (show c < 2147483648 by omega) (show b 0 * b 1 < 2147483648 by omega), s_isOpen hR hW (show c < 2147483648 by omega), hO, nB0, s_isDone hR hW hc, hD, q1, if_true, n_eq (show agrM b c < 2147483648 by omega) (show 0 < 2147483648 by omega), s_bits (show agrM b c < 2147483648 by omega), n_eq (show popc (agrM b c) < 2147483648 by omega) (show 1 < 2147483648 by omega), n_add1, a1]
            simp only [if_pos (show c < b 0 * b 1 by omega), if_neg h0, if_neg h1]
            rfl
theorem s_hint (hR : MR b M) (hW : Wf b) (x : Int32) : ∃ M', zEv (d + 52) zmM_hint [.ref 866, .int x] M = some (some (.int (spHint b x)), M') ∧ frI pS M M' := by
  unfold spHint
  cases h2 : decide (0 < b 2) with
  | false =>
    refine ⟨M, ?_, fr.refl⟩
    refine e_M_hint ?_
    simp only [s_isBoard hR hW, zC1_some, nB0, h2, if_true]
    rfl
  | true =>
    cases hx : iI x 2 with
    | false =>
      refine ⟨M, ?_, fr.refl⟩
      refine e_M_hint ?_
      simp only [s_isBoard hR hW, zC1_some, nB0, h2, s_inI x (show 1 < 2147483648 by omega), hx, if_true]
      rfl
    | true =>
      obtain ⟨M', a1, a2⟩ := s_hint_l (d := d) hW x (b 0 * b 1) 0 M (by omega) hR
      rw [List.range_eq_range']
      refine ⟨M', ?_, a2⟩
      refine e_M_hint ?_
      simp only [s_isBoard hR hW, zC1_some, nB0, h2, s_inI x (show 1 < 2147483648 by omega), hx, a1]
      rfl
end MH
