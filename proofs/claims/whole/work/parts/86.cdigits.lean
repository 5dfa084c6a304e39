/-! THE CLASS, 20: digits at a place, states reached, one step -/
def some128 (p : Nat → Bool) : Bool := (List.range 128).any p
theorem some128_iff {p : Nat → Bool} : some128 p = true ↔ ∃ s, s < 128 ∧ p s = true := by
  unfold some128
  rw [List.any_eq_true]
  exact ⟨fun ⟨s, h1, h2⟩ => ⟨s, List.mem_range.mp h1, h2⟩, fun ⟨s, h1, h2⟩ => ⟨s, List.mem_range.mpr h1, h2⟩⟩
theorem L2.zero {S : Nat → Bool} {a b : Int64} (h : L2 S a b) : (lg_cmp (a ||| b) (nJ 0) = nI 0) ↔ some128 S = false := by
  have hz : (a ||| b = nJ 0) ↔ ∀ s, s < 128 → S s = false := by
    rw [h.1, h.2, l_or]
    constructor
    · intro he s hs
      have hb : (msk 64 S ||| msk 64 fun i => S (64 + i)) = 0 := by
        have hlt : (msk 64 S ||| msk 64 fun i => S (64 + i)) < 2 ^ 64 := Nat.or_lt_two_pow (msk_lt _ _) (msk_lt _ _)
        have h2 := congrArg (fun x : Int64 => x.toBitVec.toNat) he
        have h3 : (BitVec.ofNat 64 (msk 64 S ||| msk 64 fun i => S (64 + i))).toNat = (BitVec.ofNat 64 0).toNat := h2
        rw [BitVec.toNat_ofNat, BitVec.toNat_ofNat, Nat.mod_eq_of_lt hlt] at h3
        exact h3
      by_cases h64 : s < 64
      · have : (msk 64 S ||| msk 64 fun i => S (64 + i)).testBit s = false := by rw [hb, Nat.zero_testBit]
        rw [Nat.testBit_or, mb64, mb64, decide_eq_true h64, Bool.true_and, Bool.true_and] at this
        exact (Bool.or_eq_false_iff.mp this).1
      · have : (msk 64 S ||| msk 64 fun i => S (64 + i)).testBit (s - 64) = false := by rw [hb, Nat.zero_testBit]
        rw [Nat.testBit_or, mb64, mb64, decide_eq_true (show s - 64 < 64 by omega), Bool.true_and, Bool.true_and, show 64 + (s - 64) = s by omega] at this
        exact (Bool.or_eq_false_iff.mp this).2
    · intro hs
      refine nJ_ext fun i hi => ?_
      rw [Nat.testBit_or, mb64, mb64, hs i (by omega), hs (64 + i) (by omega), Bool.and_false, Nat.zero_testBit]
      rfl
  rw [show nI 0 = (0 : Int32) from rfl, lg_cmp_eq, hz]
  constructor
  · intro h1
    cases hs : some128 S with
    | false => rfl
    | true =>
      obtain ⟨s, h2, h3⟩ := some128_iff.mp hs
      rw [h1 s h2] at h3
      cases h3
  · intro h1 s hs
    cases h2 : S s with
    | false => rfl
    | true =>
      have := some128_iff.mpr ⟨s, hs, h2⟩
      rw [h1] at this
      cases this
section QU
variable {d : Nat} {M : ZM} {D : DF} {z q : Nat} {ms : Nat → Nat}
/-- a digit may stand there -/
def dgB (D : DF) (ms : Nat → Nat) (z i g : Nat) : Bool := some128 fun s => onD D g (foF D ms i) s && baJ D ms z (z - (i + 1)) s
def dgM (D : DF) (ms : Nat → Nat) (z i m : Nat) : Nat := msk 8 fun g => decide (1 ≤ g) && (m.testBit g && dgB D ms z i g)
theorem WgR.fr {p : Nat → Nat → Prop} {M M' : ZM} (h : WgR D ms z q M) (hf : fr (fun _ _ => False) p M M') (hp : ∀ a k, p a k → pLd q a k) : WgR D ms z q M' := fun i hi => by
  rw [hf.2 (q + 6) i (fun w => by have := hp _ _ w; unfold pLd at this; omega), hf.2 (q + 7) i (fun w => by have := hp _ _ w; unfold pLd at this; omega), hf.2 (q + 8) i (fun w => by have := hp _ _ w; unfold pLd at this; omega), hf.2 (q + 9) i (fun w => by have := hp _ _ w; unfold pLd at this; omega)]
  exact h i hi
theorem q_digitsAt_5 (hq : zkd q = (13, 0)) (hD : DOk D) {i m : Nat} (hi : i < z) (hm : m < 256) : ∀ j g (M : ZM), g + j = 8 → 1 ≤ g → RRep D z q M → WgR D ms z q M → ∃ M', h_R_digitsAt_5 (d + 1) q (nI i) (nI m) (nI (msk g fun g => decide (1 ≤ g) && (m.testBit g && dgB D ms z i g))) (nI g) M = some (some (.int (nI (dgM D ms z i m))), M') ∧ fr (fun _ _ => False) (pLd q) M M' ∧ RRep D z q M' ∧ WgR D ms z q M' := by
  intro j
  induction j with
  | zero =>
    intro g M h h1 hR hW
    obtain rfl : g = 8 := by omega
    refine ⟨M, e_R_digitsAt_5 hq ?_, fr.refl, hR, hW⟩
    rw [if_pos (by decide)]
    rfl
  | succ j ih =>
    intro g M h h1 hR hW
    have h6 := hR.1.2
    have hb := n_bit (m := m) (d := g) (by omega) (by omega)
    have eM := msk_succ g fun g => decide (1 ≤ g) && (m.testBit g && dgB D ms z i g)
    cases hbit : m.testBit g with
    | false =>
      rw [hbit, Bool.false_and, Bool.and_false, cond_false, Nat.or_zero] at eM
      obtain ⟨M', a1, a2⟩ := ih (g + 1) M (by omega) (by omega) hR hW
      rw [eM] at a1
      refine ⟨M', e_R_digitsAt_5 hq ?_, a2⟩
      rw [if_neg (by rw [n_lt (by omega) (by omega)]; omega), if_neg (by rw [n_lt (by omega) (by omega)]; omega), if_pos ((n_lt (by omega) (by omega)).mpr (by omega)), if_neg (fun z => by rw [hb.mp z] at hbit; cases hbit), n_add1]
      exact a1
    | true =>
      rw [hbit, Bool.true_and, decide_eq_true h1, Bool.true_and] at eM
      have hwi := (hW i (by omega)).1
      obtain ⟨M2, b1, b2, b3⟩ := q_leadOn (d := d) hq hD hR h1 (show g ≤ 7 by omega) hwi
      have hR2 := hR.fr b3 (fun a k w => Or.inl w)
      have hW2 := hW.fr b3 (fun _ _ w => w)
      have hz := (b2.and (hW2 (i + 1) (by omega)).2).zero
      have hdg : (some128 fun s => onD D g (foF D ms i) s && baJ D ms z (z - (i + 1)) s) = dgB D ms z i g := rfl
      rw [hdg] at hz
      obtain ⟨M', a1, a2, a3, a4⟩ := ih (g + 1) M2 (by omega) (by omega) hR2 hW2
      refine ⟨M', e_R_digitsAt_5 hq ?_, b3.trans a2, a3, a4⟩
      rw [if_neg (by rw [n_lt (by omega) (by omega)]; omega), if_neg (by rw [n_lt (by omega) (by omega)]; omega), if_pos ((n_lt (by omega) (by omega)).mpr (by omega)), if_pos (hb.mpr hbit), if_pos ((n_zin (by omega)).mpr (by omega)), n_clamp (by omega), b1, zC0_some, n_add1, if_pos ((n_zin (by omega)).mpr (by omega)), n_clamp (by omega), n_add1]
      cases hg : dgB D ms z i g with
      | false =>
        rw [hg, cond_false, Nat.or_zero] at eM
        rw [eM] at a1
        rw [if_pos (hz.mpr hg)]
        exact a1
      | true =>
        rw [hg, cond_true] at eM
        rw [eM] at a1
        rw [if_neg (fun w => by rw [hz.mp w] at hg; cases hg), n_one (by omega), n_or]
        exact a1
theorem q_digitsAt (hq : zkd q = (13, 0)) (hD : DOk D) (hR : RRep D z q M) (hW : WgR D ms z q M) {i m : Nat} (hi : i < z) (hm : m < 256) : ∃ M', zEv (d + 2) zmR_digitsAt [.ref q, .int (nI i), .int (nI m)] M = some (some (.int (nI (dgM D ms z i m))), M') ∧ fr (fun _ _ => False) (pLd q) M M' ∧ RRep D z q M' ∧ WgR D ms z q M' := by
  obtain ⟨M', a1, a2⟩ := q_digitsAt_5 (d := d) (ms := ms) hq hD hi hm 7 1 M (by omega) (by omega) hR hW
  have e1 : msk 1 (fun g => decide (1 ≤ g) && (m.testBit g && dgB D ms z i g)) = 0 := by rw [← msk0 1]; exact msk_congr fun g hg => by rw [decide_eq_false (by omega), Bool.false_and]
  rw [e1] at a1
  exact ⟨M', e_R_digitsAt hq a1, a2⟩
theorem q_isIn {S : Nat → Bool} {a b : Int64} (h : L2 S a b) {s : Nat} (hs : s < 128) : zEv (d + 1) zmR_isIn [.long a, .long b, .int (nI s)] M = some (some (.int (nB (S s))), M) := by
  have hm1 := msk64 S
  have hm2 := msk64 fun i => S (64 + i)
  have key : ∀ {x : Nat} {k : Nat}, x < 18446744073709551616 → k < 64 → ((lg_cmp (((Int64.toUInt64 (nJ x) >>> ((Int32.toInt64 (nI k)).toUInt64 &&& Int64.toUInt64 63)).toInt64) &&& (nJ 1)) (nJ 1)) = (nI 0) ↔ x.testBit k = true) := fun {x k} hx hk => by
    have hlt : (x / 2 ^ k) &&& 1 < 2 := by rw [Nat.and_one_is_mod]; omega
    rw [show nI 0 = (0 : Int32) from rfl, lg_cmp_eq, l_ushr hx hk, l_and, l_eq (by omega) (by omega), Nat.and_one_is_mod, Nat.testBit_eq_decide_div_mod_eq, decide_eq_true_eq]
  refine e_R_isIn ?_
  by_cases h64 : s < 64
  · have hk := key hm1 h64
    rw [mb64, decide_eq_true h64, Bool.true_and, ← h.1] at hk
    rw [if_pos ((n_lt (by omega) (by omega)).mpr h64)]
    cases hS : S s with
    | true => rw [if_pos (hk.mpr hS)]; rfl
    | false => rw [if_neg (fun w => by rw [hk.mp w] at hS; cases hS)]; rfl
  · have hk := key hm2 (show s - 64 < 64 by omega)
    rw [mb64, decide_eq_true (show s - 64 < 64 by omega), Bool.true_and, ← h.2, show 64 + (s - 64) = s by omega] at hk
    rw [if_neg (by rw [n_lt (by omega) (by omega)]; exact h64), n_sub (by omega)]
    cases hS : S s with
    | true => rw [if_pos (hk.mpr hS)]; rfl
    | false => rw [if_neg (fun w => by rw [hk.mp w] at hS; cases hS)]; rfl
theorem q_isReached (hq : zkd q = (13, 0)) (hR : RRep D z q M) (hW : WgR D ms z q M) {s : Nat} (hs : s < 128) : zEv (d + 2) zmR_isReached [.ref q, .int (nI s)] M = some (some (.int (nB (foF D ms z s && D.2.2.2 s))), M) := by
  have h6 := hR.1.2
  have hl := (hW z (Nat.le_refl z)).1.and hR.2.1
  refine e_R_isReached hq ?_
  rw [if_neg (by rw [n_lt (by omega) (by omega)]; omega), if_pos ((n_lt (by omega) (by omega)).mpr hs), hR.1.1, if_pos ((n_zin (by omega)).mpr (by omega)), n_clamp (by omega), q_isIn (d := d) hl hs, zC1_some]
  cases (foF D ms z s && D.2.2.2 s) with
  | true => rw [if_neg (by decide)]; rfl
  | false => rw [if_pos (show nB false = nI 0 from rfl)]; rfl
theorem q_canEnd (hq : zkd q = (13, 0)) (hR : RRep D z q M) (hW : WgR D ms z q M) {i s : Nat} (hi : i ≤ z) (hs : s < 128) : zEv (d + 2) zmR_canEnd [.ref q, .int (nI i), .int (nI s)] M = some (some (.int (nB (baJ D ms z (z - i) s))), M) := by
  have h6 := hR.1.2
  refine e_R_canEnd hq ?_
  rw [if_neg (by rw [n_lt (by omega) (by omega)]; omega), if_neg (by rw [n_lt (by omega) (by omega)]; omega), if_neg (by rw [n_lt (by omega) (by omega)]; omega), if_pos ((n_lt (by omega) (by omega)).mpr hs), if_pos ((n_zin (by omega)).mpr (by omega)), n_clamp (by omega), q_isIn (d := d) (hW i hi).2 hs, zC1_some]
  cases baJ D ms z (z - i) s with
  | true => rw [if_neg (by decide)]; rfl
  | false => rw [if_pos (show nB false = nI 0 from rfl)]; rfl
theorem q_canEnd_n (hq : zkd q = (13, 0)) {i : Nat} (hi : i ≤ 6) : zEv (d + 2) zmR_canEnd [.ref q, .int (nI i), .int (-1)] M = some (some (.int (nI 0)), M) := by
  refine e_R_canEnd hq ?_
  rw [if_neg (by rw [n_lt (by omega) (by omega)]; omega), if_neg (by rw [n_lt (by omega) (by omega)]; omega), if_pos (by decide)]
/-- one step -/
def aft (D : DF) (s g : Nat) : Option Nat := if D.1 g s = true then some s else if D.2.1 g s = true then some (s + D.2.2.1 g) else none
theorem q_after (hq : zkd q = (13, 0)) (hR : RRep D z q M) {s g : Nat} (hs : s < 128) (h1 : 1 ≤ g) (h7 : g ≤ 7) : zEv (d + 1) zmR_after [.ref q, .int (nI s), .int (nI g)] M = some (some (.int (pI (aft D s g))), M) := by
  obtain ⟨⟨r1, r2⟩, r3⟩ := hR.2.2 g h1 h7
  have hk63 : nI s &&& nI 63 = nI (s % 64) := by
    rw [n_and, show (63 : Nat) = 2 ^ 6 - 1 from rfl, Nat.and_two_pow_sub_one_eq_mod]
  have key : ∀ {x : Nat}, x < 18446744073709551616 → ((lg_cmp (nJ x &&& ((nJ 1) <<< (Int32.toInt64 (nI (s % 64)) &&& 63))) (nJ 0)) = (nI 0) ↔ x.testBit (s % 64) = false) := fun {x} hx => by
    rw [show nI 0 = (0 : Int32) from rfl, lg_cmp_eq, l_shl (by omega), Nat.shiftLeft_eq, Nat.one_mul, l_and]
    constructor
    · intro he
      have hlt : x &&& 2 ^ (s % 64) < 2 ^ 64 := Nat.lt_of_le_of_lt Nat.and_le_left hx
      have h2 := congrArg (fun y : Int64 => y.toBitVec.toNat) he
      have h3 : (BitVec.ofNat 64 (x &&& 2 ^ (s % 64))).toNat = (BitVec.ofNat 64 0).toNat := h2
      rw [BitVec.toNat_ofNat, BitVec.toNat_ofNat, Nat.mod_eq_of_lt hlt] at h3
      have h4 : (x &&& 2 ^ (s % 64)).testBit (s % 64) = false := by
        rw [show x &&& 2 ^ (s % 64) = 0 from h3, Nat.zero_testBit]
      rw [Nat.testBit_and, Nat.testBit_two_pow, decide_eq_true rfl, Bool.and_true] at h4
      exact h4
    · intro hb
      congr 1
      apply Nat.eq_of_testBit_eq
      intro i
      rw [Nat.testBit_and, Nat.testBit_two_pow, Nat.zero_testBit]
      by_cases e : s % 64 = i
      · rw [← e, hb, Bool.false_and]
      · rw [decide_eq_false e, Bool.and_false]
  refine e_R_after hq ?_
  rw [if_neg (by rw [n_lt (by omega) (by omega)]; omega), if_pos ((n_lt (by omega) (by omega)).mpr hs), if_neg (by rw [n_lt (by omega) (by omega)]; omega), if_neg (by rw [n_lt (by omega) (by omega)]; omega)]
  simp only [hk63, n_clamp (show g < 2147483648 by omega), r3, n_add]
  unfold aft
  by_cases h64 : s < 64
  · have e64 : s % 64 = s := by omega
    have k1 := key (msk64 (D.1 g))
    have k2 := key (msk64 (D.2.1 g))
    rw [mb64, e64, decide_eq_true h64, Bool.true_and, ← r1.1] at k1
    rw [mb64, e64, decide_eq_true h64, Bool.true_and, ← r2.1] at k2
    rw [if_pos ((n_lt (by omega) (by omega)).mpr h64), if_pos ((n_zin (by omega)).mpr (by omega)), e64]
    cases hS : D.1 g s with
    | true => rw [if_neg (fun w => by rw [k1.mp w] at hS; cases hS), if_pos rfl]; rfl
    | false =>
      rw [if_pos (k1.mpr hS), if_pos ((n_lt (by omega) (by omega)).mpr h64), if_neg (show ¬ (false = true) by simp)]
      cases hT : D.2.1 g s with
      | true => rw [if_neg (fun w => by rw [k2.mp w] at hT; cases hT), if_pos rfl]; rfl
      | false => rw [if_pos (k2.mpr hT), if_neg (show ¬ (false = true) by simp)]; rfl
  · have e64 : 64 + s % 64 = s := by omega
    have k1 := key (msk64 fun i => D.1 g (64 + i))
    have k2 := key (msk64 fun i => D.2.1 g (64 + i))
    rw [mb64, decide_eq_true (show s % 64 < 64 by omega), Bool.true_and, e64, ← r1.2] at k1
    rw [mb64, decide_eq_true (show s % 64 < 64 by omega), Bool.true_and, e64, ← r2.2] at k2
    rw [if_neg (by rw [n_lt (by omega) (by omega)]; exact h64), if_pos ((n_zin (by omega)).mpr (by omega))]
    cases hS : D.1 g s with
    | true => rw [if_neg (fun w => by rw [k1.mp w] at hS; cases hS), if_pos rfl]; rfl
    | false =>
      rw [if_pos (k1.mpr hS), if_neg (show ¬ nI s < nI 64 by rw [n_lt (by omega) (by omega)]; exact h64), if_neg (show ¬ (false = true) by simp)]
      cases hT : D.2.1 g s with
      | true => rw [if_neg (fun w => by rw [k2.mp w] at hT; cases hT), if_pos rfl]; rfl
      | false => rw [if_pos (k2.mpr hT), if_neg (show ¬ (false = true) by simp)]; rfl
theorem q_after_n (hq : zkd q = (13, 0)) (g : Int32) : zEv (d + 1) zmR_after [.ref q, .int (-1), .int g] M = some (some (.int (-1)), M) := by
  refine e_R_after hq ?_
  rw [if_pos (by decide)]
end QU
