/-! THE MODEL, 1: its row of numbers, and what it asks of it -/
def nB (t : Bool) : Int32 := bif t then nI 1 else nI 0
theorem nB0 (t : Bool) : (nB t = nI 0) ↔ t = false := by cases t <;> decide
theorem nB1 (t : Bool) : (nB t = nI 1) ↔ t = true := by cases t <;> decide
theorem nB01 (t : Bool) : (nB t = nI 0 ∨ nB t = nI 1) ↔ True := by cases t <;> decide
theorem nBt : nB true = nI 1 := rfl
theorem nBf : nB false = nI 0 := rfl
theorem nBite {c : Prop} [Decidable c] {M : ZM} : (if c then some (some (Value.int (nI 1)), M) else some (some (Value.int (nI 0)), M)) = some (some (Value.int (nB (decide c))), M) := by
  by_cases h : c
  · rw [if_pos h, decide_eq_true h]; rfl
  · rw [if_neg h, decide_eq_false h]; rfl
theorem nBite' {c : Prop} [Decidable c] {M : ZM} : (if c then some (some (Value.int (nI 0)), M) else some (some (Value.int (nI 1)), M)) = some (some (Value.int (nB (!decide c))), M) := by
  by_cases h : c
  · rw [if_pos h, decide_eq_true h]; rfl
  · rw [if_neg h, decide_eq_false h]; rfl
theorem zC0_some {k : ZM → Option ZR} {M : ZM} : zC0 (some (none, M)) k = k M := rfl
theorem zC1_some {k : Int32 → ZM → Option ZR} {v : Int32} {M : ZM} : zC1 (some (some (.int v), M)) k = k v M := rfl
theorem zC2_some {k : Int64 → ZM → Option ZR} {v : Int64} {M : ZM} : zC2 (some (some (.long v), M)) k = k v M := rfl
theorem zC3_some {k : Nat → ZM → Option ZR} {v : Nat} {M : ZM} : zC3 (some (some (.ref v), M)) k = k v M := rfl
/-- what changed -/
def fr (p q : Nat → Nat → Prop) (M M' : ZM) : Prop := (∀ a k, ¬ p a k → M'.1 a k = M.1 a k) ∧ ∀ a k, ¬ q a k → M'.2 a k = M.2 a k
theorem fr.refl {p q : Nat → Nat → Prop} {M : ZM} : fr p q M M := ⟨fun _ _ _ => rfl, fun _ _ _ => rfl⟩
theorem fr.trans {p q : Nat → Nat → Prop} {M M1 M2 : ZM} (h1 : fr p q M M1) (h2 : fr p q M1 M2) : fr p q M M2 := ⟨fun a k h => (h2.1 a k h).trans (h1.1 a k h), fun a k h => (h2.2 a k h).trans (h1.2 a k h)⟩
theorem fr.mono {p q p' q' : Nat → Nat → Prop} {M M' : ZM} (h : fr p q M M') (hp : ∀ a k, p a k → p' a k) (hq : ∀ a k, q a k → q' a k) : fr p' q' M M' := ⟨fun a k g => h.1 a k fun z => g (hp a k z), fun a k g => h.2 a k fun z => g (hq a k z)⟩
theorem fr.pi {p q : Nat → Nat → Prop} {M M1 : ZM} (h : fr p q M M1) {a k : Nat} {v : Int32} (hp : p a k) : fr p q M (zpi M1 a k v) := by
  refine ⟨fun x y g => ?_, h.2⟩
  rw [m_pi, if_neg]
  · exact h.1 x y g
  · rintro ⟨rfl, rfl⟩; exact g hp
theorem fr.pl {p q : Nat → Nat → Prop} {M M1 : ZM} (h : fr p q M M1) {a k : Nat} {v : Int64} (hq : q a k) : fr p q M (zpl M1 a k v) := by
  refine ⟨h.1, fun x y g => ?_⟩
  rw [m_pl, if_neg]
  · exact h.2 x y g
  · rintro ⟨rfl, rfl⟩; exact g hq
abbrev frI (p : Nat → Nat → Prop) : ZM → ZM → Prop := fr p (fun _ _ => False)
/-- the model's row -/
def MR (b : Nat → Nat) (M : ZM) : Prop := ∀ k, k < 268 → M.1 867 k = nI (b k)
theorem MR.fr {b : Nat → Nat} {p q : Nat → Nat → Prop} {M M' : ZM} (h : MR b M) (hf : fr p q M M') (hp : ∀ k, k < 268 → ¬ p 867 k) : MR b M' := fun k hk => (hf.1 867 k (hp k hk)).trans (h k hk)
def isO (b : Nat → Nat) (c : Nat) : Bool := decide (c < b 0 * b 1) && decide (b (4 + c) = 0)
/-- an open cell, at a row's numbers -/
def WfC (b : Nat → Nat) (c : Nat) : Prop :=
  (b (4 + c) ≤ 1 ∧ b (76 + c) ≤ 1) ∧ (b (40 + c) ≤ b 2 ∧ b (112 + c) < 2 ^ (b 2 + 1) ∧ (b (112 + c)).testBit 0 = false) ∧
  (isO b c = false → b (112 + c) = 0 ∧ b (40 + c) = 0 ∧ b (76 + c) = 0)
/-- what is done has its digit as its only mark -/
def WfD (b : Nat → Nat) : Prop := ∀ c, c < 36 → (b (76 + c) = 1 → 0 < b (40 + c)) ∧ (0 < b (40 + c) → b (112 + c) = 2 ^ b (40 + c))
def cgN (b : Nat → Nat) (k : Nat) : Nat := b (151 + 10 * k)
def cgC (b : Nat → Nat) (k i : Nat) : Nat := b (152 + 10 * k + i)
def WfG (b : Nat → Nat) (k : Nat) : Prop :=
  (b (148 + 10 * k) ≤ 3 ∧ b (149 + 10 * k) ≤ 999999 ∧ b (150 + 10 * k) ≤ 1) ∧ (1 ≤ cgN b k ∧ cgN b k ≤ 6) ∧ (∀ i, i < cgN b k → isO b (cgC b k i) = true) ∧ ∀ i j, i < j → j < cgN b k → cgC b k i < cgC b k j
def openN (b : Nat → Nat) : Nat := ((List.range 36).filter (isO b)).length
def Wf (b : Nat → Nat) : Prop :=
  (b 0 ≤ 6 ∧ b 1 ≤ 6 ∧ b 2 ≤ 7 ∧ b 3 ≤ 12) ∧ (b 2 = 0 → b 0 = 0 ∧ b 1 = 0 ∧ b 3 = 0) ∧ (0 < b 2 → 1 ≤ b 0 ∧ 1 ≤ b 1 ∧ 2 ≤ b 2) ∧ (∀ c, c < 36 → WfC b c) ∧ openN b ≤ 16 ∧ ∀ k, k < b 3 → WfG b k
theorem Wf.n36 {b : Nat → Nat} (h : Wf b) : b 0 * b 1 ≤ 36 := Nat.mul_le_mul h.1.1 h.1.2.1
theorem isO_lt {b : Nat → Nat} (h : Wf b) {c : Nat} (hc : isO b c = true) : c < 36 := by
  unfold isO at hc
  rw [Bool.and_eq_true] at hc
  have h1 := of_decide_eq_true hc.1
  have h2 := h.n36
  omega
theorem j_toInt {a : Nat} (ha : a < 9223372036854775808) : Int64.toInt (nJ a) = (a : Int) := Int64.toInt_ofNat_of_lt (by omega)
theorem n_pred {a : Nat} (ha : a < 2147483648) : Int32.toInt (nI a - nI 1) = (a : Int) - 1 := by
  have h1 : nI a - nI 1 = Int32.ofInt ((a : Int) - 1) := by
    rw [Int32.ofInt_sub, Int32.ofInt_eq_ofNat]
    rfl
  rw [h1]
  exact Int32.toInt_ofInt_of_le (by omega) (by omega)
section MB
variable {d : Nat} {M : ZM} {b : Nat → Nat}
theorem s_in (v lo hi : Int64) : zEv (d + 1) zmM_in [.long v, .long lo, .long hi] M = some (some (.int (nB (decide (lo.toInt ≤ v.toInt) && decide (v.toInt ≤ hi.toInt)))), M) := by
  refine e_M_in ?_
  have e1 : (lg_cmp v lo < nI 0) ↔ v.toInt < lo.toInt := (lg_cmp_lt v lo).trans Int64.lt_iff_toInt_lt
  have e2 : (nI 0 < lg_cmp v hi) ↔ hi.toInt < v.toInt := (lg_cmp_gt v hi).trans Int64.lt_iff_toInt_lt
  by_cases h1 : v.toInt < lo.toInt
  · rw [if_pos (e1.mpr h1), decide_eq_false (by omega)]; rfl
  · rw [if_neg (fun z => h1 (e1.mp z)), decide_eq_true (show lo.toInt ≤ v.toInt by omega)]
    by_cases h2 : hi.toInt < v.toInt
    · rw [if_pos (e2.mpr h2), decide_eq_false (by omega)]; rfl
    · rw [if_neg (fun z => h2 (e2.mp z)), decide_eq_true (by omega)]; rfl
theorem s_holds {m k : Nat} (hm : m < 2147483648) (hk : k < 32) : zEv (d + 1) zmM_holds [.int (nI m), .int (nI k)] M = some (some (.int (nB (m.testBit k))), M) := by
  refine e_M_holds ?_
  simp only [n_bit hm hk, nBite]
  simp
theorem s_cells (hR : MR b M) : zEv (d + 1) zmM_cells [.ref 866] M = some (some (.int (nI (b 0 * b 1))), M) := by
  refine e_M_cells ?_
  rw [hR 0 (by omega), hR 1 (by omega), n_mul]
theorem s_top (hR : MR b M) : zEv (d + 1) zmM_top [.ref 866] M = some (some (.int (nI (b 2))), M) := by
  refine e_M_top ?_
  rw [hR 2 (by omega)]
theorem s_cages (hR : MR b M) : zEv (d + 1) zmM_cages [.ref 866] M = some (some (.int (nI (b 3))), M) := by
  refine e_M_cages ?_
  rw [hR 3 (by omega)]
theorem s_isBoard (hR : MR b M) (hW : Wf b) : zEv (d + 2) zmM_isBoard [.ref 866] M = some (some (.int (nB (decide (0 < b 2)))), M) := by
  refine e_M_isBoard ?_
  have := hW.1.2.2.1
  simp only [s_top hR, zC1_some, n_lt (show 0 < 2147483648 by omega) (show b 2 < 2147483648 by omega), nBite]
/-- a number within -/
def iI (x : Int32) (n : Nat) : Bool := decide (0 ≤ x.toInt) && decide (x.toInt < (n : Int))
theorem iI_n {c n : Nat} (hc : c < 2147483648) : iI (nI c) n = decide (c < n) := by
  unfold iI
  rw [n_toInt hc]
  simp
theorem iI_ex {x : Int32} {n : Nat} (hn : n < 2147483648) (h : iI x n = true) : ∃ c, c < n ∧ x = nI c := by
  unfold iI at h
  rw [Bool.and_eq_true] at h
  have h1 := of_decide_eq_true h.1
  have h2 := of_decide_eq_true h.2
  refine ⟨x.toInt.toNat, by omega, ?_⟩
  rw [← Int32.toInt_inj, n_toInt (by omega)]
  omega
theorem s_isCell (hR : MR b M) (hW : Wf b) (x : Int32) : zEv (d + 2) zmM_isCell [.ref 866, .int x] M = some (some (.int (nB (iI x (b 0 * b 1)))), M) := by
  refine e_M_isCell ?_
  have := hW.n36
  simp only [s_cells hR, zC1_some, s_in, nB01, if_true, Int32.toInt_toInt64, n_pred (show b 0 * b 1 < 2147483648 by omega), j_toInt (show 0 < 9223372036854775808 by omega)]
  unfold iI
  congr 5
  rw [Bool.eq_iff_iff]
  simp only [Bool.and_eq_true, decide_eq_true_eq]
  omega
theorem s_isCage (hR : MR b M) (hW : Wf b) (x : Int32) : zEv (d + 2) zmM_isCage [.ref 866, .int x] M = some (some (.int (nB (iI x (b 3)))), M) := by
  refine e_M_isCage ?_
  have := hW.1.2.2.2
  simp only [s_cages hR, zC1_some, s_in, nB01, if_true, Int32.toInt_toInt64, n_pred (show b 3 < 2147483648 by omega), j_toInt (show 0 < 9223372036854775808 by omega)]
  unfold iI
  congr 5
  rw [Bool.eq_iff_iff]
  simp only [Bool.and_eq_true, decide_eq_true_eq]
  omega
/-- a digit within -/
def iD (x : Int32) (t : Nat) : Bool := decide (1 ≤ x.toInt) && decide (x.toInt ≤ (t : Int))
theorem iD_ex {x : Int32} {n : Nat} (hn : n < 2147483648) (h : iD x n = true) : ∃ c, 1 ≤ c ∧ c ≤ n ∧ x = nI c := by
  unfold iD at h
  rw [Bool.and_eq_true] at h
  have h1 := of_decide_eq_true h.1
  have h2 := of_decide_eq_true h.2
  refine ⟨x.toInt.toNat, by omega, by omega, ?_⟩
  rw [← Int32.toInt_inj, n_toInt (by omega)]
  omega
theorem s_isDigit (hR : MR b M) (hW : Wf b) (x : Int32) : zEv (d + 2) zmM_isDigit [.ref 866, .int x] M = some (some (.int (nB (iD x (b 2)))), M) := by
  refine e_M_isDigit ?_
  have := hW.1.2.2.1
  simp only [s_top hR, zC1_some, s_in, nB01, if_true, Int32.toInt_toInt64, n_toInt (show b 2 < 2147483648 by omega), j_toInt (show 1 < 9223372036854775808 by omega)]
  rfl
theorem s_isOpen (hR : MR b M) (hW : Wf b) {c : Nat} (hc : c < 2147483648) : zEv (d + 3) zmM_isOpen [.ref 866, .int (nI c)] M = some (some (.int (nB (isO b c))), M) := by
  refine e_M_isOpen ?_
  have h36 := hW.n36
  simp only [s_isCell hR hW, zC1_some, nB0, iI_n hc]
  unfold isO
  by_cases h : c < b 0 * b 1
  · have hb := (hW.2.2.2.1 c (by omega)).1.1
    simp only [n_add, n_zin (show 4 + c < 2147483648 by omega), n_clamp (show 4 + c < 2147483648 by omega), hR (4 + c) (by omega), n_eq (show b (4 + c) < 2147483648 by omega) (show 0 < 2147483648 by omega), nBite, decide_eq_true h]
    simp
    omega
  · simp only [decide_eq_false h]
    rfl
/-- of any number -/
def oI (b : Nat → Nat) (x : Int32) : Bool := iI x (b 0 * b 1) && isO b x.toInt.toNat
theorem oI_ex {x : Int32} (hW : Wf b) (h : oI b x = true) : ∃ c, c < 36 ∧ isO b c = true ∧ x = nI c := by
  unfold oI at h
  rw [Bool.and_eq_true] at h
  have := hW.n36
  obtain ⟨c, h1, rfl⟩ := iI_ex (by omega) h.1
  refine ⟨c, by omega, ?_, rfl⟩
  have h2 := h.2
  rw [n_toInt (by omega)] at h2
  exact h2
theorem s_isOpenI (hR : MR b M) (hW : Wf b) (x : Int32) : zEv (d + 3) zmM_isOpen [.ref 866, .int x] M = some (some (.int (nB (oI b x))), M) := by
  cases h : iI x (b 0 * b 1) with
  | true =>
    have := hW.n36
    obtain ⟨c, h1, rfl⟩ := iI_ex (by omega) h
    rw [s_isOpen hR hW (by omega)]
    unfold oI
    rw [h, n_toInt (by omega)]
    rfl
  | false =>
    refine e_M_isOpen ?_
    simp only [s_isCell hR hW, zC1_some, nB0, h, if_true]
    unfold oI
    rw [h]
    rfl
theorem s_of (hR : MR b M) {k i : Nat} (hk : k < 12) (hi : i < 10) : zEv (d + 1) zmM_of [.ref 866, .int (nI k), .int (nI i)] M = some (some (.int (nI (b (148 + 10 * k + i)))), M) := by
  refine e_M_of ?_
  simp only [n_mul, n_add, n_zin (show 148 + 10 * k + i < 2147483648 by omega), n_clamp (show 148 + 10 * k + i < 2147483648 by omega), hR (148 + 10 * k + i) (by omega)]
  rw [if_pos (by omega)]
theorem s_cellOf (hR : MR b M) {k i : Nat} (hk : k < 12) (hi : i < 6) : zEv (d + 2) zmM_cellOf [.ref 866, .int (nI k), .int (nI i)] M = some (some (.int (nI (cgC b k i))), M) := by
  refine e_M_cellOf ?_
  simp only [n_add, s_of hR hk (show 4 + i < 10 by omega), zC1_some]
  unfold cgC
  rw [show 148 + 10 * k + (4 + i) = 152 + 10 * k + i by omega]
theorem s_marks (hR : MR b M) {c : Nat} (hc : c < 36) : zEv (d + 1) zmM_marks [.ref 866, .int (nI c)] M = some (some (.int (nI (b (112 + c)))), M) := by
  refine e_M_marks ?_
  simp only [n_add, n_zin (show 112 + c < 2147483648 by omega), n_clamp (show 112 + c < 2147483648 by omega), hR (112 + c) (by omega)]
  rw [if_pos (by omega)]
def allM (b : Nat → Nat) : Nat := 2 ^ (b 2 + 1) - 2
theorem s_allMarks (hR : MR b M) (hW : Wf b) : zEv (d + 2) zmM_allMarks [.ref 866] M = some (some (.int (nI (allM b))), M) := by
  refine e_M_allMarks ?_
  have := hW.1.2.2.1
  simp only [s_top hR, zC1_some, n_shl (show b 2 < 32 by omega)]
  have h2 : 2 <<< b 2 = 2 ^ (b 2 + 1) := by rw [Nat.shiftLeft_eq, Nat.pow_succ, Nat.mul_comm]
  have h3 : 2 ≤ 2 ^ (b 2 + 1) := by
    have := Nat.one_le_two_pow (n := b 2)
    rw [Nat.pow_succ]; omega
  rw [h2, n_sub h3]
  rfl
theorem s_isDone (hR : MR b M) (hW : Wf b) {c : Nat} (hc : c < 36) : zEv (d + 1) zmM_isDone [.ref 866, .int (nI c)] M = some (some (.int (nB (decide (0 < b (40 + c))))), M) := by
  refine e_M_isDone ?_
  have h1 := (hW.2.2.2.1 c hc).2.1.1
  have h2 := hW.1.2.2.1
  simp only [n_add, n_zin (show 40 + c < 2147483648 by omega), n_clamp (show 40 + c < 2147483648 by omega), hR (40 + c) (by omega), n_lt (show 0 < 2147483648 by omega) (show b (40 + c) < 2147483648 by omega), nBite]
  rw [if_pos (by omega)]
end MB
