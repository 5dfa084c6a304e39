/-! THE CLASS, 18: sets of states, led on and back -/
def L2 (S : Nat → Bool) (lo hi : Int64) : Prop := lo = nJ (msk 64 S) ∧ hi = nJ (msk 64 fun i => S (64 + i))
theorem nJ_ext {a b : Nat} (h : ∀ i, i < 64 → a.testBit i = b.testBit i) : nJ a = nJ b := by
  apply Int64.toBitVec_inj.mp
  show BitVec.ofNat 64 a = BitVec.ofNat 64 b
  apply BitVec.eq_of_getLsbD_eq
  intro i hi
  rw [BitVec.getLsbD_ofNat, BitVec.getLsbD_ofNat, h i hi]
theorem msk64 (p : Nat → Bool) : msk 64 p < 18446744073709551616 := msk_lt 64 p
theorem mb64 {p : Nat → Bool} {i : Nat} : (msk 64 p).testBit i = (decide (i < 64) && p i) := msk_bit 64 p i
theorem L2.ext {S S' : Nat → Bool} {lo hi : Int64} (h : L2 S lo hi) (e : ∀ s, s < 128 → S' s = S s) : L2 S' lo hi := by
  refine ⟨h.1.trans ?_, h.2.trans ?_⟩
  · rw [msk_congr fun i hi => (e i (by omega)).symm]
  · rw [msk_congr fun i hi => (e (64 + i) (by omega)).symm]
theorem L2.and {S T : Nat → Bool} {a b c e : Int64} (h1 : L2 S a b) (h2 : L2 T c e) : L2 (fun s => S s && T s) (a &&& c) (b &&& e) := by
  constructor
  · rw [h1.1, h2.1, l_and]
    refine nJ_ext fun i hi => ?_
    rw [Nat.testBit_and, mb64, mb64, mb64, decide_eq_true hi]
    rfl
  · rw [h1.2, h2.2, l_and]
    refine nJ_ext fun i hi => ?_
    rw [Nat.testBit_and, mb64, mb64, mb64, decide_eq_true hi]
    rfl
theorem L2.or {S T : Nat → Bool} {a b c e : Int64} (h1 : L2 S a b) (h2 : L2 T c e) : L2 (fun s => S s || T s) (a ||| c) (b ||| e) := by
  constructor
  · rw [h1.1, h2.1, l_or]
    refine nJ_ext fun i hi => ?_
    rw [Nat.testBit_or, mb64, mb64, mb64, decide_eq_true hi]
    rfl
  · rw [h1.2, h2.2, l_or]
    refine nJ_ext fun i hi => ?_
    rw [Nat.testBit_or, mb64, mb64, mb64, decide_eq_true hi]
    rfl
theorem L2.no : L2 (fun _ => false) (nJ 0) (nJ 0) := ⟨by rw [msk0], by rw [msk0]⟩
/-- a rule's steps: by digit who stays, who moves, how far; and the goal -/
abbrev DF := (Nat → Nat → Bool) × (Nat → Nat → Bool) × (Nat → Nat) × (Nat → Bool)
def onD (D : DF) (g : Nat) (S : Nat → Bool) : Nat → Bool := fun s => (S s && D.1 g s) || (decide (D.2.2.1 g ≤ s) && (S (s - D.2.2.1 g) && D.2.1 g (s - D.2.2.1 g)))
def bkD (D : DF) (g : Nat) (S : Nat → Bool) : Nat → Bool := fun s => (S s && D.1 g s) || (D.2.1 g s && S (s + D.2.2.1 g))
/-- moves stay among the states -/
def DOk (D : DF) : Prop := ∀ g, 1 ≤ g → g ≤ 7 → D.2.2.1 g ≤ 128 ∧ ∀ s, s < 128 → D.2.1 g s = true → s + D.2.2.1 g < 128
def RRep (D : DF) (z q : Nat) (M : ZM) : Prop :=
  (M.1 q 3 = nI z ∧ z ≤ 6) ∧ L2 D.2.2.2 (M.2 q 9) (M.2 q 10) ∧
  ∀ g, 1 ≤ g → g ≤ 7 → (L2 (D.1 g) (M.2 (q + 1) g) (M.2 (q + 2) g) ∧ L2 (D.2.1 g) (M.2 (q + 3) g) (M.2 (q + 4) g)) ∧ M.1 (q + 5) g = nI (D.2.2.1 g)
/-- up by some -/
theorem L2.up {S : Nat → Bool} {a b : Int64} (h : L2 S a b) {k : Nat} (h0 : 0 < k) (hk : k < 64) : L2 (fun s => decide (k ≤ s) && S (s - k)) (a <<< (Int32.toInt64 (nI k) &&& 63)) ((b <<< (Int32.toInt64 (nI k) &&& 63)) ||| (Int64.toUInt64 a >>> ((Int32.toInt64 (nI (64 - k))).toUInt64 &&& Int64.toUInt64 63)).toInt64) := by
  have hm := msk64 S
  constructor
  · rw [h.1, l_shl hk]
    refine nJ_ext fun i hi => ?_
    rw [Nat.testBit_shiftLeft, mb64, mb64, decide_eq_true hi, Bool.true_and]
    by_cases e : k ≤ i
    · rw [decide_eq_true (show i ≥ k from e), decide_eq_true (show i - k < 64 by omega), Bool.true_and]
    · rw [decide_eq_false (show ¬ i ≥ k from e), Bool.false_and, Bool.false_and]
  · rw [h.1, h.2, l_shl hk, l_ushr hm (by omega), l_or]
    refine nJ_ext fun i hi => ?_
    rw [Nat.testBit_or, Nat.testBit_shiftLeft, Nat.testBit_div_two_pow, mb64, mb64, mb64, decide_eq_true hi, Bool.true_and]
    show _ = (decide (k ≤ 64 + i) && S (64 + i - k))
    rw [decide_eq_true (show k ≤ 64 + i by omega), Bool.true_and]
    by_cases e : k ≤ i
    · rw [decide_eq_true (show i ≥ k from e), decide_eq_true (show i - k < 64 by omega), decide_eq_false (show ¬ i + (64 - k) < 64 by omega), Bool.false_and, Bool.or_false, Bool.true_and, Bool.true_and, show 64 + (i - k) = 64 + i - k by omega]
    · rw [decide_eq_false (show ¬ i ≥ k from e), decide_eq_true (show i + (64 - k) < 64 by omega), Bool.false_and, Bool.false_or, Bool.true_and, show i + (64 - k) = 64 + i - k by omega]
theorem L2.up64 {S : Nat → Bool} {a b : Int64} (h : L2 S a b) {k : Nat} (h0 : 64 ≤ k) (hk : k < 128) : L2 (fun s => decide (k ≤ s) && S (s - k)) (nJ 0) (a <<< (Int32.toInt64 (nI (k - 64)) &&& 63)) := by
  constructor
  · rw [msk_congr (q := fun _ => false) fun i hi => by rw [decide_eq_false (by omega), Bool.false_and], msk0]
  · rw [h.1, l_shl (by omega)]
    refine nJ_ext fun i hi => ?_
    rw [Nat.testBit_shiftLeft, mb64, mb64, decide_eq_true hi, Bool.true_and]
    show _ = (decide (k ≤ 64 + i) && S (64 + i - k))
    by_cases e : k ≤ 64 + i
    · rw [decide_eq_true (show i ≥ k - 64 by omega), decide_eq_true e, decide_eq_true (show i - (k - 64) < 64 by omega), show i - (k - 64) = 64 + i - k by omega, Bool.true_and]
    · rw [decide_eq_false (show ¬ i ≥ k - 64 by omega), decide_eq_false e, Bool.false_and, Bool.false_and]
/-- down by some -/
theorem L2.dn {S : Nat → Bool} {a b : Int64} (h : L2 S a b) {k : Nat} (h0 : 0 < k) (hk : k < 64) : L2 (fun s => decide (s + k < 128) && S (s + k)) ((Int64.toUInt64 a >>> ((Int32.toInt64 (nI k)).toUInt64 &&& Int64.toUInt64 63)).toInt64 ||| (b <<< (Int32.toInt64 (nI (64 - k)) &&& 63))) ((Int64.toUInt64 b >>> ((Int32.toInt64 (nI k)).toUInt64 &&& Int64.toUInt64 63)).toInt64) := by
  have hm := msk64 S
  have hm2 := msk64 fun i => S (64 + i)
  constructor
  · rw [h.1, h.2, l_shl (by omega), l_ushr hm (by omega), l_or]
    refine nJ_ext fun i hi => ?_
    rw [Nat.testBit_or, Nat.testBit_shiftLeft, Nat.testBit_div_two_pow, mb64, mb64, mb64, decide_eq_true hi, Bool.true_and, decide_eq_true (show i + k < 128 by omega), Bool.true_and]
    by_cases e : i + k < 64
    · rw [decide_eq_true e, decide_eq_false (show ¬ i ≥ 64 - k by omega), Bool.false_and, Bool.or_false, Bool.true_and]
    · rw [decide_eq_false e, decide_eq_true (show i ≥ 64 - k by omega), decide_eq_true (show i - (64 - k) < 64 by omega), Bool.false_and, Bool.false_or, Bool.true_and, Bool.true_and, show 64 + (i - (64 - k)) = i + k by omega]
  · rw [h.2, l_ushr hm2 (by omega)]
    refine nJ_ext fun i hi => ?_
    rw [Nat.testBit_div_two_pow, mb64, mb64, decide_eq_true hi, Bool.true_and]
    show _ = (decide (64 + i + k < 128) && S (64 + i + k))
    by_cases e : i + k < 64
    · rw [decide_eq_true e, decide_eq_true (show 64 + i + k < 128 by omega), show 64 + (i + k) = 64 + i + k by omega]
    · rw [decide_eq_false e, decide_eq_false (show ¬ 64 + i + k < 128 by omega), Bool.false_and, Bool.false_and]
theorem L2.dn64 {S : Nat → Bool} {a b : Int64} (h : L2 S a b) {k : Nat} (h0 : 64 ≤ k) (hk : k < 128) : L2 (fun s => decide (s + k < 128) && S (s + k)) ((Int64.toUInt64 b >>> ((Int32.toInt64 (nI (k - 64))).toUInt64 &&& Int64.toUInt64 63)).toInt64) (nJ 0) := by
  have hm2 := msk64 fun i => S (64 + i)
  constructor
  · rw [h.2, l_ushr hm2 (by omega)]
    refine nJ_ext fun i hi => ?_
    rw [Nat.testBit_div_two_pow, mb64, mb64, decide_eq_true hi, Bool.true_and]
    by_cases e : i + k < 128
    · rw [decide_eq_true (show i + (k - 64) < 64 by omega), decide_eq_true e, show 64 + (i + (k - 64)) = i + k by omega]
    · rw [decide_eq_false (show ¬ i + (k - 64) < 64 by omega), decide_eq_false e, Bool.false_and, Bool.false_and]
  · rw [msk_congr (q := fun _ => false) fun i hi => by show (decide (64 + i + k < 128) && S (64 + i + k)) = false; rw [decide_eq_false (by omega), Bool.false_and], msk0]
section QS
variable {d : Nat} {M : ZM} {D : DF} {z q : Nat}
def pLd (q : Nat) : Nat → Nat → Prop := fun a k => a = q ∧ (k = 15 ∨ k = 16)
theorem q_leadOn_80 (hq : zkd q = (13, 0)) (hR : RRep D z q M) {g : Nat} (h1 : 1 ≤ g) (h7 : g ≤ 7) {S T : Nat → Bool} {x2 x4 y6 y4 : Int64} (hS : L2 S x2 x4) (hT : L2 T y6 y4) : ∃ M', h_R_leadOn_80 d q (nI g) x2 x4 y6 y4 M = some (none, M') ∧ L2 (fun s => T s || (S s && D.1 g s)) (M'.2 q 15) (M'.2 q 16) ∧ fr (fun _ _ => False) (pLd q) M M' := by
  obtain ⟨⟨r1, r2⟩, r3⟩ := hR.2.2 g h1 h7
  have hl := hT.or (hS.and r1)
  refine ⟨zpl (zpl M q 15 (y6 ||| (x2 &&& M.2 (q + 1) g))) q 16 (y4 ||| (x4 &&& M.2 (q + 2) g)), e_R_leadOn_80 hq ?_, ?_, (fr.refl.pl ⟨rfl, Or.inl rfl⟩).pl ⟨rfl, Or.inr rfl⟩⟩
  · rw [if_pos ((n_zin (by omega)).mpr (by omega)), n_clamp (by omega), zLr, m_pl, if_neg (by omega)]
  · rw [m_pl, if_neg (by omega), m_pl, if_pos ⟨rfl, rfl⟩, m_pl, if_pos ⟨rfl, rfl⟩]
    exact hl
theorem q_leadOn (hq : zkd q = (13, 0)) (hD : DOk D) (hR : RRep D z q M) {g : Nat} (h1 : 1 ≤ g) (h7 : g ≤ 7) {S : Nat → Bool} {x2 x4 : Int64} (hS : L2 S x2 x4) : ∃ M', zEv (d + 1) zmR_leadOn [.ref q, .int (nI g), .long x2, .long x4] M = some (none, M') ∧ L2 (onD D g S) (M'.2 q 15) (M'.2 q 16) ∧ fr (fun _ _ => False) (pLd q) M M' := by
  obtain ⟨⟨r1, r2⟩, r3⟩ := hR.2.2 g h1 h7
  obtain ⟨hk, hmv⟩ := hD g h1 h7
  have hP := hS.and r2
  have fin : ∀ {T : Nat → Bool} {y6 y4 : Int64}, L2 T y6 y4 → (∀ s, s < 128 → T s = (decide (D.2.2.1 g ≤ s) && (S (s - D.2.2.1 g) && D.2.1 g (s - D.2.2.1 g)))) → ∃ M', h_R_leadOn_80 d q (nI g) x2 x4 y6 y4 M = some (none, M') ∧ L2 (onD D g S) (M'.2 q 15) (M'.2 q 16) ∧ fr (fun _ _ => False) (pLd q) M M' := by
    intro T y6 y4 hT he
    obtain ⟨M', a1, a2, a3⟩ := q_leadOn_80 (d := d) hq hR h1 h7 hS hT
    refine ⟨M', a1, a2.ext fun s hs => ?_, a3⟩
    unfold onD
    rw [he s hs, Bool.or_comm]
  by_cases c64 : D.2.2.1 g < 64
  · by_cases c0 : 0 < D.2.2.1 g
    · obtain ⟨M', a1, a2⟩ := fin (hP.up c0 c64) (fun s _ => rfl)
      refine ⟨M', e_R_leadOn hq ?_, a2⟩
      rw [if_pos ((n_zin (by omega)).mpr (by omega)), n_clamp (by omega), r3, if_pos ((n_lt (by omega) (by omega)).mpr c64), if_pos ((n_lt (by omega) (by omega)).mpr c0), n_sub (by omega), zLr, zLr]
      exact a1
    · obtain ⟨M', a1, a2⟩ := fin hP (fun s _ => by rw [show D.2.2.1 g = 0 by omega, decide_eq_true (Nat.zero_le s), Bool.true_and, Nat.sub_zero])
      refine ⟨M', e_R_leadOn hq ?_, a2⟩
      rw [if_pos ((n_zin (by omega)).mpr (by omega)), n_clamp (by omega), r3, if_pos ((n_lt (by omega) (by omega)).mpr c64), if_neg (by rw [n_lt (by omega) (by omega)]; exact c0)]
      exact a1
  · by_cases c128 : D.2.2.1 g < 128
    · obtain ⟨M', a1, a2⟩ := fin (hP.up64 (by omega) c128) (fun s _ => rfl)
      refine ⟨M', e_R_leadOn hq ?_, a2⟩
      rw [if_pos ((n_zin (by omega)).mpr (by omega)), n_clamp (by omega), r3, if_neg (by rw [n_lt (by omega) (by omega)]; exact c64), n_sub (by omega), zLr]
      exact a1
    · have e128 : D.2.2.1 g = 128 := by omega
      have hno : ∀ s, s < 128 → D.2.1 g s = false := fun s hs => by
        cases hm : D.2.1 g s with
        | false => rfl
        | true => have := hmv s hs hm; omega
      have eA : x2 &&& M.2 (q + 3) g = nJ 0 := by
        rw [hP.1, msk_congr (q := fun _ => false) fun i hi => by rw [hno i (by omega), Bool.and_false], msk0]
      have e0 : nJ 0 <<< (Int32.toInt64 (nI 64) &&& 63) = nJ 0 := by decide
      obtain ⟨M', a1, a2⟩ := fin (T := fun _ => false) (y6 := nJ 0) (y4 := nJ 0) L2.no (fun s hs => by rw [decide_eq_false (by omega), Bool.false_and])
      refine ⟨M', e_R_leadOn hq ?_, a2⟩
      rw [if_pos ((n_zin (by omega)).mpr (by omega)), n_clamp (by omega), r3, if_neg (by rw [n_lt (by omega) (by omega)]; exact c64), n_sub (by omega), e128, eA, zLr, e0]
      exact a1
theorem q_leadBack_66 (hq : zkd q = (13, 0)) (hR : RRep D z q M) {g : Nat} (h1 : 1 ≤ g) (h7 : g ≤ 7) {S T : Nat → Bool} {x2 x4 y6 y4 : Int64} (hS : L2 S x2 x4) (hT : L2 (fun s => T s && D.2.1 g s) (y6 &&& M.2 (q + 3) g) (y4 &&& M.2 (q + 4) g)) : ∃ M', h_R_leadBack_66 d q (nI g) x2 x4 y6 y4 M = some (none, M') ∧ L2 (fun s => (T s && D.2.1 g s) || (S s && D.1 g s)) (M'.2 q 15) (M'.2 q 16) ∧ fr (fun _ _ => False) (pLd q) M M' := by
  obtain ⟨⟨r1, r2⟩, r3⟩ := hR.2.2 g h1 h7
  have hl := hT.or (hS.and r1)
  refine ⟨zpl (zpl M q 15 ((y6 &&& M.2 (q + 3) g) ||| (x2 &&& M.2 (q + 1) g))) q 16 ((y4 &&& M.2 (q + 4) g) ||| (x4 &&& M.2 (q + 2) g)), e_R_leadBack_66 hq ?_, ?_, (fr.refl.pl ⟨rfl, Or.inl rfl⟩).pl ⟨rfl, Or.inr rfl⟩⟩
  · rw [if_pos ((n_zin (by omega)).mpr (by omega)), n_clamp (by omega), zLr, m_pl, if_neg (by omega), m_pl, if_neg (by omega)]
  · rw [m_pl, if_neg (by omega), m_pl, if_pos ⟨rfl, rfl⟩, m_pl, if_pos ⟨rfl, rfl⟩]
    exact hl
theorem q_leadBack (hq : zkd q = (13, 0)) (hD : DOk D) (hR : RRep D z q M) {g : Nat} (h1 : 1 ≤ g) (h7 : g ≤ 7) {S : Nat → Bool} {x2 x4 : Int64} (hS : L2 S x2 x4) : ∃ M', zEv (d + 1) zmR_leadBack [.ref q, .int (nI g), .long x2, .long x4] M = some (none, M') ∧ L2 (bkD D g S) (M'.2 q 15) (M'.2 q 16) ∧ fr (fun _ _ => False) (pLd q) M M' := by
  obtain ⟨⟨r1, r2⟩, r3⟩ := hR.2.2 g h1 h7
  obtain ⟨hk, hmv⟩ := hD g h1 h7
  have fin : ∀ {T : Nat → Bool} {y6 y4 : Int64}, L2 (fun s => T s && D.2.1 g s) (y6 &&& M.2 (q + 3) g) (y4 &&& M.2 (q + 4) g) → (∀ s, s < 128 → (T s && D.2.1 g s) = (D.2.1 g s && S (s + D.2.2.1 g))) → ∃ M', h_R_leadBack_66 d q (nI g) x2 x4 y6 y4 M = some (none, M') ∧ L2 (bkD D g S) (M'.2 q 15) (M'.2 q 16) ∧ fr (fun _ _ => False) (pLd q) M M' := by
    intro T y6 y4 hT he
    obtain ⟨M', a1, a2, a3⟩ := q_leadBack_66 (d := d) hq hR h1 h7 hS hT
    refine ⟨M', a1, a2.ext fun s hs => ?_, a3⟩
    unfold bkD
    rw [he s hs, Bool.or_comm]
  have dec : ∀ s, s < 128 → ((decide (s + D.2.2.1 g < 128) && S (s + D.2.2.1 g)) && D.2.1 g s) = (D.2.1 g s && S (s + D.2.2.1 g)) := fun s hs => by
    cases hm : D.2.1 g s with
    | false => rw [Bool.and_false, Bool.false_and]
    | true => rw [decide_eq_true (hmv s hs hm), Bool.true_and, Bool.and_true]
  by_cases c64 : D.2.2.1 g < 64
  · by_cases c0 : 0 < D.2.2.1 g
    · obtain ⟨M', a1, a2⟩ := fin ((hS.dn c0 c64).and r2) dec
      refine ⟨M', e_R_leadBack hq ?_, a2⟩
      rw [if_pos ((n_zin (by omega)).mpr (by omega)), n_clamp (by omega), r3, if_pos ((n_lt (by omega) (by omega)).mpr c64), if_pos ((n_lt (by omega) (by omega)).mpr c0), n_sub (by omega), zLr, zLr]
      exact a1
    · obtain ⟨M', a1, a2⟩ := fin (hS.and r2) (fun s _ => by rw [show D.2.2.1 g = 0 by omega, Nat.add_zero, Bool.and_comm])
      refine ⟨M', e_R_leadBack hq ?_, a2⟩
      rw [if_pos ((n_zin (by omega)).mpr (by omega)), n_clamp (by omega), r3, if_pos ((n_lt (by omega) (by omega)).mpr c64), if_neg (by rw [n_lt (by omega) (by omega)]; exact c0)]
      exact a1
  · by_cases c128 : D.2.2.1 g < 128
    · obtain ⟨M', a1, a2⟩ := fin ((hS.dn64 (by omega) c128).and r2) dec
      refine ⟨M', e_R_leadBack hq ?_, a2⟩
      rw [if_pos ((n_zin (by omega)).mpr (by omega)), n_clamp (by omega), r3, if_neg (by rw [n_lt (by omega) (by omega)]; exact c64), n_sub (by omega), zLr]
      exact a1
    · have hno : ∀ s, s < 128 → D.2.1 g s = false := fun s hs => by
        cases hm : D.2.1 g s with
        | false => rfl
        | true => have := hmv s hs hm; omega
      have eL : M.2 (q + 3) g = nJ 0 := by rw [r2.1, msk_congr (q := fun _ => false) fun i hi => hno i (by omega), msk0]
      have eH : M.2 (q + 4) g = nJ 0 := by rw [r2.2, msk_congr (q := fun _ => false) fun i hi => hno (64 + i) (by omega), msk0]
      have z0 : ∀ x : Int64, x &&& nJ 0 = nJ 0 := fun x => by
        apply Int64.toBitVec_inj.mp
        show x.toBitVec &&& BitVec.ofNat 64 0 = BitVec.ofNat 64 0
        simp
      obtain ⟨M', a1, a2⟩ := fin (T := fun _ => false) (y6 := (Int64.toUInt64 x4 >>> ((Int32.toInt64 (nI (D.2.2.1 g - 64))).toUInt64 &&& Int64.toUInt64 63)).toInt64) (y4 := nJ 0) (by rw [eL, eH, z0, z0]; exact L2.no.ext fun s _ => by rw [Bool.false_and]) (fun s hs => by rw [hno s hs, Bool.false_and, Bool.false_and])
      refine ⟨M', e_R_leadBack hq ?_, a2⟩
      rw [if_pos ((n_zin (by omega)).mpr (by omega)), n_clamp (by omega), r3, if_neg (by rw [n_lt (by omega) (by omega)]; exact c64), n_sub (by omega), zLr]
      exact a1
end QS
