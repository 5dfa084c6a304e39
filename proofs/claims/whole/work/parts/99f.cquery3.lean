/-! THE CLASS, 56: weight, range -/
theorem nd_cnt {b : Nat → Nat} (hW : Wf b) : ndN b (b 0 * b 1) = ((List.range 36).filter fun c => isO b c && decide (b (40 + c) = 0)).length := by
  have h1 : ∀ n, ndN b n = sumF (fun c => if isO b c = true ∧ b (40 + c) = 0 then 1 else 0) n := fun n => by
    induction n with
    | zero => rfl
    | succ n ih =>
      show ndN b n + _ = sumF _ n + _
      rw [ih]
  rw [h1]
  have h2 := sumF_cut (f := fun c => if isO b c = true ∧ b (40 + c) = 0 then 1 else 0) (m := b 0 * b 1) (36 - b 0 * b 1) fun p h1 _ => if_neg fun z => by
    have := z.1
    unfold isO at this
    rw [decide_eq_false (by omega), Bool.false_and] at this
    cases this
  have h36 := hW.n36
  rw [← h2, show b 0 * b 1 + (36 - b 0 * b 1) = 36 by omega, ← sumF_filter]
  exact sumF_congr fun c _ => by
    by_cases e : isO b c = true ∧ b (40 + c) = 0
    · rw [if_pos e, if_pos (by rw [e.1, decide_eq_true e.2]; rfl)]
    · rw [if_neg e, if_neg]
      intro z
      rw [Bool.and_eq_true, decide_eq_true_iff] at z
      exact e z
theorem nd_mask {b : Nat → Nat} (hD : WfD b) : (oM b ^^^ (oM b &&& gM b)) ^^^ ((oM b ^^^ (oM b &&& gM b)) &&& pM b) = msk 36 fun c => isO b c && decide (b (40 + c) = 0) := by
  apply Nat.eq_of_testBit_eq
  intro z
  unfold oM gM pM
  rw [Nat.testBit_xor, Nat.testBit_and, Nat.testBit_xor, Nat.testBit_and, msk_bit, msk_bit, msk_bit, msk_bit]
  by_cases hz : z < 36
  · rw [decide_eq_true hz]
    have hd := hD z hz
    cases isO b z
    · rfl
    · by_cases e : b (76 + z) = 1
      · have := hd.1 e
        rw [decide_eq_true e, decide_eq_true this, decide_eq_false (show ¬ b (76 + z) ≠ 1 from fun q => q e), decide_eq_false (show ¬ b (40 + z) = 0 by omega)]
        rfl
      · rw [decide_eq_false e, decide_eq_true (show b (76 + z) ≠ 1 from e)]
        by_cases e2 : b (40 + z) = 0
        · rw [decide_eq_true e2, decide_eq_false (show ¬ 0 < b (40 + z) by omega)]
          rfl
        · rw [decide_eq_false e2, decide_eq_true (show 0 < b (40 + z) by omega)]
          rfl
  · rw [decide_eq_false hz]
    rfl
theorem goA_lo : ∀ (n : Nat) (b : Nat → Nat) (s t k : Nat), k < 40 → (goA n b s t).1 k = b k
  | 0, _, _, _, _, _ => rfl
  | n + 1, b, s, t, k, hk => by
    by_cases e : (stp b).1 = 0
    · have eG : goA (n + 1) b s t = (b, s, t) := if_pos e
      rw [eG]
    · have eG : goA (n + 1) b s t = goA n (goS b) (s + 1) (t + (stp b).1) := if_neg e
      rw [eG, goA_lo n _ _ _ k hk, goS_lo hk]
theorem goB_lo (b : Nat → Nat) (k : Nat) (hk : k < 40) : (goB b).1 k = b k := goA_lo 1188 b 0 0 k hk
theorem sub10 {x : Int32} {n : Nat} (hn : n ≤ 36) (h : x < nI 10) : iI (x - nI 10) n = false := by
  cases e : iI (x - nI 10) n with
  | false => rfl
  | true =>
    exfalso
    rw [iI_if, Int32.toInt_sub, n_toInt (by omega), Int.bmod_def] at e
    rw [Int32.lt_iff_toInt_lt, n_toInt (by omega)] at h
    have h1 := Int32.le_toInt x
    have h2 := Int32.toInt_lt x
    omega
theorem sub10b {x : Int32} (h : ¬ x < nI 10) : ∃ v, v < 2147483648 ∧ 10 ≤ v ∧ x = nI v ∧ x - nI 10 = nI (v - 10) := by
  rw [Int32.lt_iff_toInt_lt, n_toInt (by omega)] at h
  rcases n_ex x with ⟨v, hv, rfl⟩ | z
  · rw [n_toInt hv] at h
    exact ⟨v, hv, by omega, rfl, n_sub (by omega)⟩
  · omega
section QX3
variable {d n : Nat} {b : Nat → Nat} {M : ZM}
theorem zk105 : zkd 105 = (10, 0) := by decide +kernel
def pWt : Nat → Nat → Prop := fun a k => (262 ≤ a ∧ a ≤ 410) ∨ pBd 105 a k
theorem c_weight_51 (hB : BRep b 86 M) (hW : Wf b) (hD : WfD b) (hS : Sv n M) : ∃ M', ∀ x x2, (iI x 4 = true ∨ (x2 = nI 1 ∧ iI (x - nI 10) (b 0 * b 1) = true ∧ ¬ x < nI 10)) → h_C_weight_51 (d + 15) x x2 M = some (some (.int (spWeighed (goB b) x)), M') ∧ Sv n M' ∧ fr pQy pQy M M' := by
  have h12 := hW.1.2.2.2
  have h36 := hW.n36
  obtain ⟨L, s1, ⟨s2, s3⟩, s4⟩ := hS
  obtain ⟨M1, a1, a2, a3⟩ := q_copyFrom (d := d + 14) zk105 zk86 (by omega) hB hW
  have o1 : ∀ a k, pBd 105 a k → 105 ≤ a ∧ a ≤ 123 := fun a k z => by unfold pBd at z; omega
  have hI1 : RSI 263 M1 := rsi_out s3 a3 (fun a k z => by have := o1 a k z; omega) fun a k z => by have := o1 a k z; omega
  obtain ⟨M2, b1, ⟨b2, b3⟩, b4, b5⟩ := q_find (d := d + 1) zk105 (by omega) hW hD a2 hI1
  have hB2 : BRep b 105 M2 := a2.fr b5 h12 (fun a k z => by unfold pLg at z; omega) fun a k z => by unfold pLg at z; omega
  obtain ⟨M3, c1, ⟨⟨c2, c3⟩, w1, w2⟩, ⟨c4, c5⟩, c6, c7⟩ := q_applyAll (d := d) zk105 (by omega) (by omega) hW hD hB2 b4 b2 b3
  have f : fr pWt pWt M M3 := ((a3.mono (fun a k z => Or.inr z) fun a k z => Or.inr z).trans (b5.mono (fun a k z => by unfold pLg at z; left; omega) fun a k z => by unfold pLg at z; left; omega)).trans c7
  have f2 : fr pQy pQy M M3 := f.mono (fun a k z => by unfold pWt pBd at z; unfold pQy; omega) fun a k z => by unfold pWt pBd at z; unfold pQy; omega
  have hS3 : Sv n M3 := ⟨L, s1, ⟨rsi_out s2 f (fun a k z => by unfold pWt pBd at z; omega) fun a k z => by unfold pWt pBd at z; omega, c6⟩, sgl_out s4 f (fun a k z => by unfold pWt pBd at z; omega) fun a k z => by unfold pWt pBd at z; omega⟩
  have hl : (goB b).1 0 = b 0 ∧ (goB b).1 1 = b 1 := by
    have := goB_lo b
    exact ⟨this 0 (by omega), this 1 (by omega)⟩
  refine ⟨M3, fun x x2 hx => ⟨?_, hS3, f2⟩⟩
  have hlt : (oM (goB b).1 ^^^ (oM (goB b).1 &&& gM (goB b).1)) ^^^ ((oM (goB b).1 ^^^ (oM (goB b).1 &&& gM (goB b).1)) &&& pM (goB b).1) < 1099511627776 := by
    rw [nd_mask w2]
    exact Nat.lt_trans (msk36 _) (by omega)
  unfold spWeighed
  refine e_C_weight_51 ?_
  rw [a1, zC0_some, b1, zC0_some, c1, zC0_some, c4, c5, c2.2.1.1.1, c2.2.1.1.2, c2.2.1.2.1, l_clr, l_clr, q_bitL hlt, zC1_some, nd_mask w2, cnt_msk, ← nd_cnt w1, q_LisBroken c3 w1, zC1_some]
  by_cases h0 : x = nI 0
  · rw [if_pos h0, if_pos h0]
  rw [if_neg h0, if_neg h0]
  by_cases h1 : x = nI 1
  · rw [if_pos h1, if_pos h1]
  rw [if_neg h1, if_neg h1]
  by_cases h2 : x = nI 2
  · rw [if_pos h2, if_pos h2]
  rw [if_neg h2, if_neg h2]
  by_cases h3 : x = nI 3
  · rw [if_pos h3, if_pos h3]
    cases brk (goB b).1 with
    | false => rw [if_pos (show nB false = nI 0 from rfl)]; rfl
    | true => rw [if_neg (show ¬ nB true = nI 0 by decide)]; rfl
  rw [if_neg h3, if_neg h3]
  rcases hx with hx | ⟨rfl, hx, hge⟩
  · exfalso
    obtain ⟨v, hv, rfl⟩ := iI_ex (by omega) hx
    have e : ∀ w, w < 4 → v = w → nI v = nI w := fun w _ z => by rw [z]
    have : v = 0 ∨ v = 1 ∨ v = 2 ∨ v = 3 := by omega
    rcases this with z | z | z | z
    · exact h0 (e _ (by omega) z)
    · exact h1 (e _ (by omega) z)
    · exact h2 (e _ (by omega) z)
    · exact h3 (e _ (by omega) z)
  · obtain ⟨c, hc, ec⟩ := iI_ex (by omega) hx
    have hc36 : c < 36 := by omega
    rw [if_neg (show ¬ nI 1 = nI 0 by decide), ec, if_pos ((n_zin (by omega)).mpr hc36), n_clamp (by omega), c2.2.2.1 c hc36, oI_n (by omega), n_toInt (by omega), Int.toNat_natCast]
    cases hO : isO (goB b).1 c with
    | true => rfl
    | false =>
      rw [((w1.2.2.2.1 c hc36).2.2 hO).1]
      rfl
theorem c_weight (hB : BRep b 86 M) (hW : Wf b) (hD : WfD b) (hS : Sv n M) (x : Int32) : ∃ M', zEv (d + 16) zmC_weight [.ref 64, .int x] M = some (some (.int (spWeight b x)), M') ∧ Sv n M' ∧ fr pQy pQy M M' := by
  obtain ⟨M', hM⟩ := c_weight_51 (d := d) hB hW hD hS
  have h36 := hW.n36
  unfold spWeight
  have ht := q_isTold (d := d + 14) zk86 hB.sc hW.wk
  rw [told_eq hW] at ht
  cases hto : decide (0 < b 2) with
  | false =>
    rw [hto] at ht
    refine ⟨M, e_C_weight ?_, hS, fr.refl⟩
    by_cases h10 : x < nI 10
    · rw [if_pos h10, ht, zC1_some, if_pos (show nB false = nI 0 from rfl)]
      rfl
    · rw [if_neg h10, q_isCell zk86 hB.sc hW.wk, zC1_some, ht, zC1_some, if_pos (show nB false = nI 0 from rfl), zC1_some, if_pos (show nB false = nI 0 from rfl)]
      split <;> rfl
  | true =>
    rw [hto] at ht
    rw [Bool.true_and]
    by_cases h10 : x < nI 10
    · rw [sub10 h36 h10, Bool.or_false]
      have head : ∀ rr, (if x < nI 0 then some (some (.int (-1 : Int32)), M) else (if nI 3 < x then some (some (.int (-1 : Int32)), M) else h_C_weight_51 (d + 15) x (nI 0) M)) = some rr → zEv (d + 16) zmC_weight [.ref 64, .int x] M = some rr := fun rr hrr => by
        refine e_C_weight ?_
        rw [if_pos h10, ht, zC1_some, if_neg (show ¬ nB true = nI 0 by decide)]
        exact hrr
      cases hx : iI x 4 with
      | false =>
        have hx' : ¬ iI x 4 = true := by rw [hx]; decide
        rw [iI_if] at hx'
        refine ⟨M, head _ ?_, hS, fr.refl⟩
        rw [cond_false]
        by_cases h0 : x < nI 0
        · rw [if_pos h0]
        · rw [if_neg h0, if_pos]
          rw [Int32.lt_iff_toInt_lt, n_toInt (by omega)] at h0 ⊢
          omega
      | true =>
        obtain ⟨g1, g2⟩ := hM x (nI 0) (Or.inl hx)
        refine ⟨M', head _ ?_, g2⟩
        obtain ⟨v, hv, rfl⟩ := iI_ex (by omega) hx
        rw [if_neg (by rw [n_lt (by omega) (by omega)]; omega), if_neg (by rw [n_lt (by omega) (by omega)]; omega), cond_true]
        exact g1
    · obtain ⟨v, v1, v2, rfl, v4⟩ := sub10b h10
      have hx4 : iI (nI v) 4 = false := by rw [iI_n v1]; exact decide_eq_false (by omega)
      rw [hx4, Bool.false_or]
      cases hx : iI (nI v - nI 10) (b 0 * b 1) with
      | false =>
        refine ⟨M, e_C_weight ?_, hS, fr.refl⟩
        rw [if_neg h10, q_isCell zk86 hB.sc hW.wk, hx, zC1_some, if_pos (show nB false = nI 0 from rfl), ht, zC1_some, if_neg (show ¬ nB true = nI 0 by decide), if_neg (by rw [n_lt (by omega) (by omega)]; omega), if_pos ((n_lt (by omega) (by omega)).mpr (by omega)), cond_false]
      | true =>
        obtain ⟨g1, g2⟩ := hM (nI v) (nI 1) (Or.inr ⟨rfl, hx, h10⟩)
        refine ⟨M', e_C_weight ?_, g2⟩
        rw [if_neg h10, q_isCell zk86 hB.sc hW.wk, hx, zC1_some, if_neg (show ¬ nB true = nI 0 by decide), ht, zC1_some, if_neg (show ¬ nB true = nI 0 by decide), cond_true]
        exact g1
end QX3
