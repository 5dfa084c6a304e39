/-! THE CLASS, 1: its board -/
def oM (b : Nat → Nat) : Nat := msk 36 (isO b)
def gM (b : Nat → Nat) : Nat := msk 36 fun c => decide (b (76 + c) = 1)
def pM (b : Nat → Nat) : Nat := msk 36 fun c => decide (0 < b (40 + c)) && decide (b (76 + c) ≠ 1)
def aM (b : Nat → Nat) : Nat := msk (b 3) fun k => !cgU b k
def iM (b : Nat → Nat) (k : Nat) : Nat := msk 36 (inC b k)
/-- the board at a cell of the heap has this row's numbers -/
def BRep (b : Nat → Nat) (q : Nat) (M : ZM) : Prop :=
  ((M.1 q 0 = nI (b 0) ∧ M.1 q 1 = nI (b 1)) ∧ (M.1 q 2 = nI (b 2) ∧ M.1 q 3 = nI (b 3))) ∧
  ((M.2 q 4 = nJ (oM b) ∧ M.2 q 5 = nJ (gM b)) ∧ (M.2 q 6 = nJ (pM b) ∧ M.1 q 7 = nI (aM b))) ∧
  (∀ c, c < 36 → M.1 (q + 1) c = nI (b (112 + c))) ∧
  ∀ k, k < b 3 → ((M.1 (q + 2) k = nI (b (148 + 10 * k)) ∧ M.1 (q + 3) k = nI (b (149 + 10 * k))) ∧ (M.1 (q + 4) k = nI (cgN b k) ∧ M.2 (q + 5) k = nJ (iM b k))) ∧ ∀ i, i < cgN b k → M.1 (q + 7 + k) i = nI (cgC b k i)
/-- its numbers without the lists -/
def BSc (b : Nat → Nat) (q : Nat) (M : ZM) : Prop :=
  ((M.1 q 0 = nI (b 0) ∧ M.1 q 1 = nI (b 1)) ∧ (M.1 q 2 = nI (b 2) ∧ M.1 q 3 = nI (b 3))) ∧
  ((M.2 q 4 = nJ (oM b) ∧ M.2 q 5 = nJ (gM b)) ∧ (M.2 q 6 = nJ (pM b) ∧ M.1 q 7 = nI (aM b))) ∧ True
theorem BRep.sc {b : Nat → Nat} {q : Nat} {M : ZM} (h : BRep b q M) : BSc b q M := ⟨h.1, h.2.1, trivial⟩
/-- small enough -/
def Wk (b : Nat → Nat) : Prop := (b 0 ≤ 6 ∧ b 1 ≤ 6 ∧ b 2 ≤ 7 ∧ b 3 ≤ 12) ∧ ∀ c, c < 36 → b (112 + c) < 256
theorem Wf.wk {b : Nat → Nat} (h : Wf b) : Wk b := ⟨h.1, fun _ hc => mk_lt h hc⟩
theorem Wk.n36 {b : Nat → Nat} (h : Wk b) : b 0 * b 1 ≤ 36 := Nat.mul_le_mul h.1.1 h.1.2.1
theorem isO_lt2 {b : Nat → Nat} (h : Wk b) {c : Nat} (hc : isO b c = true) : c < 36 := by
  have := isO_cell hc
  have := h.n36
  omega
theorem msk36 (p : Nat → Bool) : msk 36 p < 68719476736 := msk_lt 36 p
theorem BRep.fr {b : Nat → Nat} {q : Nat} {p p2 : Nat → Nat → Prop} {M M' : ZM} (h : BRep b q M) (hf : fr p p2 M M') (h12 : b 3 ≤ 12) (hp : ∀ a k, p a k → a < q ∨ q + 18 < a) (hp2 : ∀ a k, p2 a k → a < q ∨ q + 18 < a) : BRep b q M' := by
  have e1 : ∀ a k, q ≤ a → a ≤ q + 18 → M'.1 a k = M.1 a k := fun a k h1 h2 => hf.1 a k fun z => by have := hp a k z; omega
  have e2 : ∀ a k, q ≤ a → a ≤ q + 18 → M'.2 a k = M.2 a k := fun a k h1 h2 => hf.2 a k fun z => by have := hp2 a k z; omega
  unfold BRep
  rw [e1 q 0 (by omega) (by omega), e1 q 1 (by omega) (by omega), e1 q 2 (by omega) (by omega), e1 q 3 (by omega) (by omega), e1 q 7 (by omega) (by omega), e2 q 4 (by omega) (by omega), e2 q 5 (by omega) (by omega), e2 q 6 (by omega) (by omega)]
  refine ⟨h.1, h.2.1, fun c hc => ?_, fun k hk => ?_⟩
  · rw [e1 (q + 1) c (by omega) (by omega)]; exact h.2.2.1 c hc
  · rw [e1 (q + 2) k (by omega) (by omega), e1 (q + 3) k (by omega) (by omega), e1 (q + 4) k (by omega) (by omega), e2 (q + 5) k (by omega) (by omega)]
    refine ⟨(h.2.2.2 k hk).1, fun i hi => ?_⟩
    rw [e1 (q + 7 + k) i (by omega) (by omega)]
    exact (h.2.2.2 k hk).2 i hi
/-- of any number -/
def gI (b : Nat → Nat) (x : Int32) : Bool := iI x (b 0 * b 1) && decide (b (76 + x.toInt.toNat) = 1)
def puI (b : Nat → Nat) (x : Int32) : Bool := iI x (b 0 * b 1) && (decide (0 < b (40 + x.toInt.toNat)) && decide (b (76 + x.toInt.toNat) ≠ 1))
def doI (b : Nat → Nat) (x : Int32) : Bool := iI x (b 0 * b 1) && decide (0 < b (40 + x.toInt.toNat))
section QB
variable {d : Nat} {M : ZM} {b : Nat → Nat} {q : Nat}
theorem q_isTold (hq : zkd q = (10, 0)) (hB : BSc b q M) (hW : Wk b) : zEv (d + 1) zmB_isTold [.ref q] M = some (some (.int (nB (decide (0 < b 0)))), M) := by
  refine e_B_isTold hq ?_
  have := hW.1.1
  rw [hB.1.1.1, ← nBite]
  by_cases h : 0 < b 0
  · rw [if_pos ((n_lt (by omega) (by omega)).mpr h), if_pos h]
  · rw [if_neg (by rw [n_lt (by omega) (by omega)]; exact h), if_neg h]
theorem q_isCell (hq : zkd q = (10, 0)) (hB : BSc b q M) (hW : Wk b) (x : Int32) : zEv (d + 1) zmB_isCell [.ref q, .int x] M = some (some (.int (nB (iI x (b 0 * b 1)))), M) := by
  refine e_B_isCell hq ?_
  have h36 := hW.n36
  rw [hB.1.1.1, hB.1.1.2, n_mul]
  by_cases h0 : x < nI 0
  · rw [if_pos h0]
    rw [Int32.lt_iff_toInt_lt, n_toInt (by omega)] at h0
    unfold iI
    rw [decide_eq_false (show ¬ 0 ≤ x.toInt by omega)]
    rfl
  · rw [if_neg h0]
    rw [Int32.lt_iff_toInt_lt, n_toInt (by omega)] at h0
    by_cases h1 : x < nI (b 0 * b 1)
    · rw [if_pos h1]
      rw [Int32.lt_iff_toInt_lt, n_toInt (by omega)] at h1
      rw [if_pos (by rw [Int32.lt_iff_toInt_lt, n_toInt (by omega)]; omega)]
      unfold iI
      rw [decide_eq_true (show 0 ≤ x.toInt by omega), decide_eq_true h1]
      rfl
    · rw [if_neg h1]
      rw [Int32.lt_iff_toInt_lt, n_toInt (by omega)] at h1
      unfold iI
      rw [decide_eq_false h1, Bool.and_false]
      rfl
theorem q_bitI_t {m : Nat} {x : Int32} {p : Nat → Bool} (hN : b 0 * b 1 ≤ 36) (hx : iI x (b 0 * b 1) = true) : (lg_cmp (((nJ (msk 36 p)) >>> (Int32.toInt64 x &&& 63)) &&& (nJ 1)) (nJ 1) = nI 0) ↔ p x.toInt.toNat = true := by
  obtain ⟨c, hc, rfl⟩ := iI_ex (by omega) hx
  have := msk36 p
  rw [l_bit (by omega) (by omega), msk_bit, n_toInt (by omega), Int.toNat_natCast, decide_eq_true (by omega), Bool.true_and]
theorem q_isOpen (hq : zkd q = (10, 0)) (hB : BSc b q M) (hW : Wk b) (x : Int32) : zEv (d + 2) zmB_isOpen [.ref q, .int x] M = some (some (.int (nB (oI b x))), M) := by
  refine e_B_isOpen hq ?_
  rw [q_isCell hq hB hW, zC1_some]
  unfold oI
  cases hx : iI x (b 0 * b 1) with
  | false => rw [if_pos (show nB false = nI 0 from rfl)]; rfl
  | true =>
    rw [if_neg (by decide), hB.2.1.1.1, Bool.true_and, show nJ (oM b) = nJ (msk 36 (isO b)) from rfl]
    have h := q_bitI_t (m := 0) (p := isO b) hW.n36 hx
    cases ho : isO b x.toInt.toNat with
    | true => rw [if_pos (h.mpr ho)]; rfl
    | false => rw [if_neg (fun z => by rw [h.mp z] at ho; cases ho)]; rfl
theorem q_isGiven (hq : zkd q = (10, 0)) (hB : BSc b q M) (hW : Wk b) (x : Int32) : zEv (d + 2) zmB_isGiven [.ref q, .int x] M = some (some (.int (nB (gI b x))), M) := by
  refine e_B_isGiven hq ?_
  rw [q_isCell hq hB hW, zC1_some]
  unfold gI
  cases hx : iI x (b 0 * b 1) with
  | false => rw [if_pos (show nB false = nI 0 from rfl)]; rfl
  | true =>
    rw [if_neg (by decide), hB.2.1.1.2, Bool.true_and, show nJ (gM b) = nJ (msk 36 fun c => decide (b (76 + c) = 1)) from rfl]
    have h := q_bitI_t (m := 0) (p := fun c => decide (b (76 + c) = 1)) hW.n36 hx
    cases ho : decide (b (76 + x.toInt.toNat) = 1) with
    | true => rw [if_pos (h.mpr ho)]; rfl
    | false => rw [if_neg (fun z => by have := h.mp z; rw [ho] at this; cases this)]; rfl
theorem q_isPut (hq : zkd q = (10, 0)) (hB : BSc b q M) (hW : Wk b) (x : Int32) : zEv (d + 2) zmB_isPut [.ref q, .int x] M = some (some (.int (nB (puI b x))), M) := by
  refine e_B_isPut hq ?_
  rw [q_isCell hq hB hW, zC1_some]
  unfold puI
  cases hx : iI x (b 0 * b 1) with
  | false => rw [if_pos (show nB false = nI 0 from rfl)]; rfl
  | true =>
    rw [if_neg (by decide), hB.2.1.2.1, Bool.true_and, show nJ (pM b) = nJ (msk 36 fun c => decide (0 < b (40 + c)) && decide (b (76 + c) ≠ 1)) from rfl]
    have h := q_bitI_t (m := 0) (p := fun c => decide (0 < b (40 + c)) && decide (b (76 + c) ≠ 1)) hW.n36 hx
    cases ho : (decide (0 < b (40 + x.toInt.toNat)) && decide (b (76 + x.toInt.toNat) ≠ 1)) with
    | true => rw [if_pos (h.mpr ho)]; rfl
    | false => rw [if_neg (fun z => by have := h.mp z; rw [ho] at this; cases this)]; rfl
theorem q_isDone (hq : zkd q = (10, 0)) (hB : BSc b q M) (hW : Wk b) (hD : WfD b) (x : Int32) : zEv (d + 3) zmB_isDone [.ref q, .int x] M = some (some (.int (nB (doI b x))), M) := by
  refine e_B_isDone hq ?_
  have h36 := hW.n36
  rw [q_isGiven hq hB hW, zC1_some]
  cases hg : gI b x with
  | true =>
    have e : doI b x = true := by
      unfold gI at hg
      unfold doI
      rw [Bool.and_eq_true] at hg
      obtain ⟨c, hc, rfl⟩ := iI_ex (by omega) hg.1
      have h2 := of_decide_eq_true hg.2
      rw [n_toInt (by omega), Int.toNat_natCast] at h2
      rw [hg.1, n_toInt (by omega), Int.toNat_natCast, decide_eq_true ((hD c (by omega)).1 h2)]
      rfl
    rw [if_neg (by decide), e]
    rfl
  | false =>
    have e : puI b x = doI b x := by
      unfold puI doI
      unfold gI at hg
      cases hx : iI x (b 0 * b 1) with
      | false => rfl
      | true =>
        rw [hx, Bool.true_and] at hg
        rw [decide_eq_true (of_decide_eq_false hg), Bool.and_true]
    rw [if_pos (show nB false = nI 0 from rfl), q_isPut hq hB hW, zC1_some, e]
    cases doI b x with
    | true => rw [if_neg (by decide)]; rfl
    | false => rw [if_pos (show nB false = nI 0 from rfl)]; rfl
theorem q_isDigit (hq : zkd q = (10, 0)) (hB : BSc b q M) (hW : Wk b) (x : Int32) : zEv (d + 1) zmB_isDigit [.ref q, .int x] M = some (some (.int (nB (iD x (b 2)))), M) := by
  refine e_B_isDigit hq ?_
  have h27 := hW.1.2.2.1
  rw [hB.1.2.1]
  unfold iD
  by_cases h1 : x < nI 1
  · rw [if_pos h1]
    rw [Int32.lt_iff_toInt_lt, n_toInt (by omega)] at h1
    rw [decide_eq_false (show ¬ 1 ≤ x.toInt by omega)]
    rfl
  · rw [if_neg h1]
    rw [Int32.lt_iff_toInt_lt, n_toInt (by omega)] at h1
    by_cases h2 : nI (b 2) < x
    · rw [if_pos h2]
      rw [Int32.lt_iff_toInt_lt, n_toInt (by omega)] at h2
      rw [decide_eq_false (show ¬ x.toInt ≤ (b 2 : Int) by omega), Bool.and_false]
      rfl
    · rw [if_neg h2]
      rw [Int32.lt_iff_toInt_lt, n_toInt (by omega)] at h2
      rw [decide_eq_true (show 1 ≤ x.toInt by omega), decide_eq_true (show x.toInt ≤ (b 2 : Int) by omega)]
      rfl
theorem q_isCage (hq : zkd q = (10, 0)) (hB : BSc b q M) (hW : Wk b) (x : Int32) : zEv (d + 1) zmB_isCage [.ref q, .int x] M = some (some (.int (nB (iI x (b 3)))), M) := by
  refine e_B_isCage hq ?_
  have h12 := hW.1.2.2.2
  rw [hB.1.2.2]
  by_cases h0 : x < nI 0
  · rw [if_pos h0]
    rw [Int32.lt_iff_toInt_lt, n_toInt (by omega)] at h0
    unfold iI
    rw [decide_eq_false (show ¬ 0 ≤ x.toInt by omega)]
    rfl
  · rw [if_neg h0]
    rw [Int32.lt_iff_toInt_lt, n_toInt (by omega)] at h0
    by_cases h1 : x < nI (b 3)
    · rw [if_pos h1]
      rw [Int32.lt_iff_toInt_lt, n_toInt (by omega)] at h1
      rw [if_pos (by rw [Int32.lt_iff_toInt_lt, n_toInt (by omega)]; omega)]
      unfold iI
      rw [decide_eq_true (show 0 ≤ x.toInt by omega), decide_eq_true h1]
      rfl
    · rw [if_neg h1]
      rw [Int32.lt_iff_toInt_lt, n_toInt (by omega)] at h1
      unfold iI
      rw [decide_eq_false h1, Bool.and_false]
      rfl
theorem aM_lt (hW : Wk b) : aM b < 4096 := Nat.lt_of_lt_of_le (msk_lt _ _) (show 2 ^ b 3 ≤ 2 ^ 12 from Nat.pow_le_pow_right (by omega) hW.1.2.2.2)
theorem q_isAlike (hq : zkd q = (10, 0)) (hB : BSc b q M) (hW : Wk b) {k : Nat} (hk : k < b 3) : zEv (d + 1) zmB_isAlike [.ref q, .int (nI k)] M = some (some (.int (nB (!cgU b k))), M) := by
  refine e_B_isAlike hq ?_
  have h12 := hW.1.2.2.2
  have ha := aM_lt hW
  have hb : (aM b).testBit k = !cgU b k := by
    unfold aM
    rw [msk_bit, decide_eq_true hk, Bool.true_and]
  have h := n_bit (m := aM b) (d := k) (by omega) (by omega)
  rw [hB.2.1.2.2]
  rw [hb] at h
  cases hu : (!cgU b k) with
  | true => rw [if_pos (h.mpr hu)]; rfl
  | false => rw [if_neg (fun z => by rw [h.mp z] at hu; cases hu)]; rfl
theorem q_hasMark (hq : zkd q = (10, 0)) (hB : BRep b q M) (hW : Wk b) (x y : Int32) : zEv (d + 2) zmB_hasMark [.ref q, .int x, .int y] M = some (some (.int (nB (iI x (b 0 * b 1) && (iD y (b 2) && (b (112 + x.toInt.toNat)).testBit y.toInt.toNat)))), M) := by
  refine e_B_hasMark hq ?_
  have h36 := hW.n36
  have h27 := hW.1.2.2.1
  rw [q_isCell hq hB.sc hW, zC1_some]
  cases hx : iI x (b 0 * b 1) with
  | false => rw [if_pos (show nB false = nI 0 from rfl)]; rfl
  | true =>
    rw [if_neg (by decide), q_isDigit hq hB.sc hW, zC1_some, Bool.true_and]
    cases hy : iD y (b 2) with
    | false => rw [if_pos (show nB false = nI 0 from rfl)]; rfl
    | true =>
      obtain ⟨c, hc, rfl⟩ := iI_ex (by omega) hx
      obtain ⟨z, hz1, hz2, rfl⟩ := iD_ex (by omega) hy
      have hm := hW.2 c (show c < 36 by omega)
      have h := n_bit (m := b (112 + c)) (d := z) (by omega) (by omega)
      rw [if_neg (by decide), if_pos ((n_zin (by omega)).mpr (by omega)), n_clamp (by omega), hB.2.2.1 c (by omega), n_toInt (by omega), n_toInt (by omega), Int.toNat_natCast, Int.toNat_natCast, Bool.true_and]
      cases ht : (b (112 + c)).testBit z with
      | true => rw [if_pos (h.mpr ht)]; rfl
      | false => rw [if_neg (fun w => by rw [h.mp w] at ht; cases ht)]; rfl
theorem q_leastDigit_l {m : Nat} (hm : m < 2147483648) : ∀ j i, i + j = 8 → h_C_leastDigit_2 d (nI m) (nI i) M = some (some (.int (nI (((List.range' i j).find? fun i => m.testBit i).getD 0))), M) := by
  intro j
  induction j with
  | zero =>
    intro i h
    obtain rfl : i = 8 := by omega
    refine e_C_leastDigit_2 ?_
    rw [if_pos (by decide)]
    rfl
  | succ j ih =>
    intro i h
    refine e_C_leastDigit_2 ?_
    have hb := n_bit (m := m) (d := i) hm (by omega)
    rw [if_neg (by rw [n_lt (by omega) (by omega)]; omega), List.range'_succ, List.find?_cons]
    cases ht : m.testBit i with
    | true => rw [if_pos (hb.mpr ht)]; rfl
    | false =>
      rw [if_neg (fun w => by rw [hb.mp w] at ht; cases ht), n_add1]
      exact ih (i + 1) (by omega)
theorem q_leastDigit {m : Nat} (hm : m < 2147483648) : zEv (d + 1) zmC_leastDigit [.int (nI m)] M = some (some (.int (nI (lst m))), M) := e_C_leastDigit (q_leastDigit_l hm 7 1 (by omega))
theorem q_digitOf (hq : zkd q = (10, 0)) (hB : BRep b q M) (hW : Wk b) {c : Nat} (hc : c < b 0 * b 1) : zEv (d + 2) zmB_digitOf [.ref q, .int (nI c)] M = some (some (.int (nI (lst (b (112 + c))))), M) := by
  have h36 := hW.n36
  have hm := hW.2 c (show c < 36 by omega)
  refine e_B_digitOf hq ?_
  rw [q_isCell hq hB.sc hW, zC1_some, iI_n (by omega), decide_eq_true hc, if_neg (by decide), if_pos ((n_zin (by omega)).mpr (by omega)), n_clamp (by omega), hB.2.2.1 c (by omega), q_leastDigit (by omega), zC1_some]
theorem q_allDigits (hq : zkd q = (10, 0)) (h2 : M.1 q 2 = nI (b 2)) (hW : Wk b) : zEv (d + 1) zmB_allDigits [.ref q] M = some (some (.int (nI (allM b))), M) := by
  have h27 := hW.1.2.2.1
  have h3 := Nat.one_le_two_pow (n := b 2)
  have h4 : 2 ^ (b 2 + 1) = 2 * 2 ^ b 2 := by rw [Nat.pow_succ, Nat.mul_comm]
  refine e_B_allDigits hq ?_
  rw [h2, n_add, n_shl (by omega), Nat.shiftLeft_eq, Nat.one_mul, n_sub (by omega)]
  rfl
end QB
