/-! THE CLASS, 62: acts -/
def pAc : Nat → Nat → Prop := fun a k => (a = 64 ∧ (k = 4 ∨ k = 5)) ∨ (86 ≤ a ∧ a ≤ 827)
def CAct (b : Nat → Nat) (U : List (Nat → Nat)) (M' : ZM) : Option (Nat → Nat) → Prop
  | none => (BRep b 86 M' ∧ Wf b ∧ WfD b) ∧ PR U M'
  | some b' => (BRep b' 86 M' ∧ Wf b' ∧ WfD b') ∧ PR (pushU U b) M'
section QA2
variable {d n : Nat} {b : Nat → Nat} {M : ZM} {U : List (Nat → Nat)}
theorem rm_B {M' : ZM} (hB : BRep b 86 M) (hW : Wf b) (f : fr pRm pRm M M') : BRep b 86 M' := hB.fr f hW.1.2.2.2 (fun a k z => by unfold pRm at z; omega) fun a k z => by unfold pRm at z; omega
theorem rm_S {M' : ZM} (hS : Sv n M) (f : fr pRm pRm M M') : Sv n M' := hS.out f (fun a k z => by unfold pRm at z; omega) fun a k z => by unfold pRm at z; omega
theorem rm_A {M' : ZM} (f : fr pRm pRm M M') : fr pAc pAc M M' := f.mono (fun a k z => by unfold pRm at z; unfold pAc; omega) fun a k z => by unfold pRm at z; unfold pAc; omega
theorem bd_A {M' : ZM} (f : fr (pBd 86) (pBd 86) M M') : fr pAc pAc M M' := f.mono (fun a k z => by unfold pBd at z; unfold pAc; omega) fun a k z => by unfold pBd at z; unfold pAc; omega
theorem bd_S {M' : ZM} (hS : Sv n M) (f : fr (pBd 86) (pBd 86) M M') : Sv n M' := hS.out f (fun a k z => by unfold pBd at z; omega) fun a k z => by unfold pBd at z; omega
theorem bd_P {M' : ZM} {V : List (Nat → Nat)} (hP : PR V M) (f : fr (pBd 86) (pBd 86) M M') : PR V M' := hP.fr f (fun a k z => by unfold pBd at z; omega) fun a k z => by unfold pBd at z; omega
theorem c_put (hB : BRep b 86 M) (hW : Wf b) (hD : WfD b) (hP : PR U M) (hS : Sv n M) (x y : Int32) : ∃ M', zEv (d + 5) zmC_put [.ref 64, .int x, .int y] M = some (some (.int (spPut b x y).1), M') ∧ CAct b U M' (spPut b x y).2 ∧ Sv n M' ∧ fr pAc pAc M M' := by
  unfold spPut
  have h36 := hW.n36
  have h27 := hW.1.2.2.1
  have ho := q_isOpen (d := d + 2) zk86 hB.sc hW.wk x
  have hdg := q_isDigit (d := d + 3) zk86 hB.sc hW.wk y
  have hdn := q_isDone (d := d + 1) zk86 hB.sc hW.wk hD x
  have hhm := q_hasMark (d := d + 2) zk86 hB hW.wk x y
  cases hx : oI b x with
  | false =>
    rw [hx] at ho
    rw [if_pos (Or.inl rfl)]
    refine ⟨M, e_C_put ?_, ⟨⟨hB, hW, hD⟩, hP⟩, hS, fr.refl⟩
    rw [ho, zC1_some, if_pos (show nB false = nI 0 from rfl)]
  | true =>
    rw [hx] at ho
    cases hy : iD y (b 2) with
    | false =>
      rw [hy] at hdg
      rw [if_pos (Or.inr rfl)]
      refine ⟨M, e_C_put ?_, ⟨⟨hB, hW, hD⟩, hP⟩, hS, fr.refl⟩
      rw [ho, zC1_some, if_neg (show ¬ nB true = nI 0 by decide), hdg, zC1_some, if_pos (show nB false = nI 0 from rfl)]
    | true =>
      rw [hy] at hdg hhm
      obtain ⟨c, hc, hO, rfl⟩ := oI_ex hW hx
      obtain ⟨g, g1, g2, rfl⟩ := iD_ex (by omega) hy
      have hcN := isO_cell hO
      rw [doI_n hW hc hO] at hdn
      rw [iI_n (by omega), decide_eq_true hcN, n_toInt (by omega), n_toInt (by omega), Int.toNat_natCast, Int.toNat_natCast, Bool.true_and, Bool.true_and] at hhm
      rw [if_neg (by rintro (z | z) <;> cases z), n_toInt (by omega), n_toInt (by omega), Int.toNat_natCast, Int.toNat_natCast]
      by_cases hd0 : 0 < b (40 + c)
      · rw [decide_eq_true hd0] at hdn
        rw [if_pos hd0]
        refine ⟨M, e_C_put ?_, ⟨⟨hB, hW, hD⟩, hP⟩, hS, fr.refl⟩
        rw [ho, zC1_some, if_neg (show ¬ nB true = nI 0 by decide), hdg, zC1_some, if_neg (show ¬ nB true = nI 0 by decide), hdn, zC1_some, if_neg (show ¬ nB true = nI 0 by decide)]
      · rw [decide_eq_false hd0] at hdn
        rw [if_neg hd0]
        cases hb : (b (112 + c)).testBit g with
        | false =>
          rw [hb] at hhm
          rw [if_pos rfl]
          refine ⟨M, e_C_put ?_, ⟨⟨hB, hW, hD⟩, hP⟩, hS, fr.refl⟩
          rw [ho, zC1_some, if_neg (show ¬ nB true = nI 0 by decide), hdg, zC1_some, if_neg (show ¬ nB true = nI 0 by decide), hdn, zC1_some, if_pos (show nB false = nI 0 from rfl), hhm, zC1_some, if_pos (show nB false = nI 0 from rfl)]
        | true =>
          rw [hb] at hhm
          rw [if_neg (by decide)]
          obtain ⟨M1, a1, a2, a3⟩ := c_remember (d := d + 2) hB hW hD hP
          have hG : b (76 + c) ≠ 1 := fun z => hd0 ((hD c hc).1 z)
          obtain ⟨M2, b1, b2, b3⟩ := q_putDigit (d := d + 1) zk86 (rm_B hB hW a3) hW.wk hO hG g1 g2
          obtain ⟨w1, w2⟩ := putR_w hW hD hO g1 g2
          refine ⟨M2, e_C_put ?_, ⟨⟨b2, w1, w2⟩, bd_P a2 b3⟩, bd_S (rm_S hS a3) b3, (rm_A a3).trans (bd_A b3)⟩
          rw [ho, zC1_some, if_neg (show ¬ nB true = nI 0 by decide), hdg, zC1_some, if_neg (show ¬ nB true = nI 0 by decide), hdn, zC1_some, if_pos (show nB false = nI 0 from rfl), hhm, zC1_some, if_neg (show ¬ nB true = nI 0 by decide), a1, zC0_some, b1, zC0_some]
theorem c_strike (hB : BRep b 86 M) (hW : Wf b) (hD : WfD b) (hP : PR U M) (hS : Sv n M) (x y : Int32) : ∃ M', zEv (d + 5) zmC_strike [.ref 64, .int x, .int y] M = some (some (.int (spStrike b x y).1), M') ∧ CAct b U M' (spStrike b x y).2 ∧ Sv n M' ∧ fr pAc pAc M M' := by
  unfold spStrike
  have h36 := hW.n36
  have h27 := hW.1.2.2.1
  have ho := q_isOpen (d := d + 2) zk86 hB.sc hW.wk x
  have hdg := q_isDigit (d := d + 3) zk86 hB.sc hW.wk y
  have hdn := q_isDone (d := d + 1) zk86 hB.sc hW.wk hD x
  have hhm := q_hasMark (d := d + 2) zk86 hB hW.wk x y
  cases hx : oI b x with
  | false =>
    rw [hx] at ho
    rw [if_pos (Or.inl rfl)]
    refine ⟨M, e_C_strike ?_, ⟨⟨hB, hW, hD⟩, hP⟩, hS, fr.refl⟩
    rw [ho, zC1_some, if_pos (show nB false = nI 0 from rfl)]
  | true =>
    rw [hx] at ho
    cases hy : iD y (b 2) with
    | false =>
      rw [hy] at hdg
      rw [if_pos (Or.inr rfl)]
      refine ⟨M, e_C_strike ?_, ⟨⟨hB, hW, hD⟩, hP⟩, hS, fr.refl⟩
      rw [ho, zC1_some, if_neg (show ¬ nB true = nI 0 by decide), hdg, zC1_some, if_pos (show nB false = nI 0 from rfl)]
    | true =>
      rw [hy] at hdg hhm
      obtain ⟨c, hc, hO, rfl⟩ := oI_ex hW hx
      obtain ⟨g, g1, g2, rfl⟩ := iD_ex (by omega) hy
      have hcN := isO_cell hO
      rw [doI_n hW hc hO] at hdn
      rw [iI_n (by omega), decide_eq_true hcN, n_toInt (by omega), n_toInt (by omega), Int.toNat_natCast, Int.toNat_natCast, Bool.true_and, Bool.true_and] at hhm
      rw [if_neg (by rintro (z | z) <;> cases z), n_toInt (by omega), n_toInt (by omega), Int.toNat_natCast, Int.toNat_natCast]
      by_cases hd0 : 0 < b (40 + c)
      · rw [decide_eq_true hd0] at hdn
        rw [if_pos hd0]
        refine ⟨M, e_C_strike ?_, ⟨⟨hB, hW, hD⟩, hP⟩, hS, fr.refl⟩
        rw [ho, zC1_some, if_neg (show ¬ nB true = nI 0 by decide), hdg, zC1_some, if_neg (show ¬ nB true = nI 0 by decide), hdn, zC1_some, if_neg (show ¬ nB true = nI 0 by decide)]
      · rw [decide_eq_false hd0] at hdn
        rw [if_neg hd0]
        cases hb : (b (112 + c)).testBit g with
        | false =>
          rw [hb] at hhm
          rw [if_pos rfl]
          refine ⟨M, e_C_strike ?_, ⟨⟨hB, hW, hD⟩, hP⟩, hS, fr.refl⟩
          rw [ho, zC1_some, if_neg (show ¬ nB true = nI 0 by decide), hdg, zC1_some, if_neg (show ¬ nB true = nI 0 by decide), hdn, zC1_some, if_pos (show nB false = nI 0 from rfl), hhm, zC1_some, if_pos (show nB false = nI 0 from rfl)]
        | true =>
          rw [hb] at hhm
          rw [if_neg (by decide)]
          obtain ⟨M1, a1, a2, a3⟩ := c_remember (d := d + 2) hB hW hD hP
          have hB1 := rm_B hB hW a3
          have h87 : M1.1 87 c = nI (b (112 + c)) := hB1.2.2.1 c hc
          have hm := mk_lt hW hc
          have hml : b (112 + c) ^^^ (b (112 + c) &&& 2 ^ g) < 2 ^ 8 := Nat.xor_lt_two_pow (n := 8) hm (Nat.lt_of_le_of_lt Nat.and_le_left hm)
          have hB2 := hB1.mark (m := b (112 + c) ^^^ (b (112 + c) &&& 2 ^ g)) hW.wk hc
          obtain ⟨w1, w2⟩ := strR_w (x := g) hW hD hO (by omega)
          have f2 : fr (pBd 86) (pBd 86) M1 (zpi M1 87 c (nI (b (112 + c) ^^^ (b (112 + c) &&& 2 ^ g)))) := fr.refl.pi (by unfold pBd; omega)
          have e112 : strR b c g (112 + c) = b (112 + c) ^^^ (b (112 + c) &&& 2 ^ g) := setK_at
          refine ⟨zpi M1 87 c (nI (b (112 + c) ^^^ (b (112 + c) &&& 2 ^ g))), e_C_strike ?_, ⟨⟨hB2, w1, w2⟩, bd_P a2 f2⟩, bd_S (rm_S hS a3) f2, (rm_A a3).trans (bd_A f2)⟩
          rw [ho, zC1_some, if_neg (show ¬ nB true = nI 0 by decide), hdg, zC1_some, if_neg (show ¬ nB true = nI 0 by decide), hdn, zC1_some, if_pos (show nB false = nI 0 from rfl), hhm, zC1_some, if_neg (show ¬ nB true = nI 0 by decide), a1, zC0_some, if_pos ((n_zin (by omega)).mpr hc), n_clamp (by omega), h87, n_one (by omega), n_clr, m_pi, if_pos ⟨rfl, rfl⟩, q_bitI (by omega), zC1_some, e112]
theorem c_lift (hB : BRep b 86 M) (hW : Wf b) (hD : WfD b) (hP : PR U M) (hS : Sv n M) (x : Int32) : ∃ M', zEv (d + 5) zmC_lift [.ref 64, .int x] M = some (some (.int (spLift b x).1), M') ∧ CAct b U M' (spLift b x).2 ∧ Sv n M' ∧ fr pAc pAc M M' := by
  unfold spLift
  have h27 := hW.1.2.2.1
  have ho := q_isOpen (d := d + 2) zk86 hB.sc hW.wk x
  have hpu := q_isPut (d := d + 2) zk86 hB.sc hW.wk x
  cases hx : oI b x with
  | false =>
    rw [hx] at ho
    rw [if_pos rfl]
    refine ⟨M, e_C_lift ?_, ⟨⟨hB, hW, hD⟩, hP⟩, hS, fr.refl⟩
    rw [ho, zC1_some, if_pos (show nB false = nI 0 from rfl)]
  | true =>
    rw [hx] at ho
    obtain ⟨c, hc, hO, rfl⟩ := oI_ex hW hx
    have hcN := isO_cell hO
    have ep : puI b (nI c) = (decide (0 < b (40 + c)) && decide (b (76 + c) ≠ 1)) := by
      unfold puI
      rw [iI_n (by omega), decide_eq_true hcN, n_toInt (by omega), Int.toNat_natCast, Bool.true_and]
    rw [ep] at hpu
    rw [if_neg (by decide), n_toInt (by omega), Int.toNat_natCast]
    by_cases hn : b (40 + c) = 0 ∨ b (76 + c) = 1
    · have e : (decide (0 < b (40 + c)) && decide (b (76 + c) ≠ 1)) = false := by
        rcases hn with z | z
        · rw [decide_eq_false (show ¬ 0 < b (40 + c) by omega), Bool.false_and]
        · rw [decide_eq_false (show ¬ b (76 + c) ≠ 1 from fun q => q z), Bool.and_false]
      rw [e] at hpu
      rw [if_pos hn]
      refine ⟨M, e_C_lift ?_, ⟨⟨hB, hW, hD⟩, hP⟩, hS, fr.refl⟩
      rw [ho, zC1_some, if_neg (show ¬ nB true = nI 0 by decide), hpu, zC1_some, if_pos (show nB false = nI 0 from rfl)]
    · have hn1 : 0 < b (40 + c) := by omega
      have hn2 : b (76 + c) ≠ 1 := fun z => hn (Or.inr z)
      rw [decide_eq_true hn1, decide_eq_true hn2] at hpu
      rw [if_neg hn]
      obtain ⟨M1, a1, a2, a3⟩ := c_remember (d := d + 2) hB hW hD hP
      obtain ⟨M2, b1, b2, b3⟩ := q_free (d := d + 1) zk86 (rm_B hB hW a3) hW.wk hO
      obtain ⟨w1, w2⟩ := lftR_w hW hD hO hn2
      have hdo := q_digitOf (d := d + 2) zk86 hB hW.wk hcN
      rw [(hD c hc).2 hn1, lst_pow _ (by omega) (by have := (hW.2.2.2.1 c hc).2.1.1; omega)] at hdo
      refine ⟨M2, e_C_lift ?_, ⟨⟨b2, w1, w2⟩, bd_P a2 b3⟩, bd_S (rm_S hS a3) b3, (rm_A a3).trans (bd_A b3)⟩
      rw [ho, zC1_some, if_neg (show ¬ nB true = nI 0 by decide), hpu, zC1_some, if_neg (show ¬ nB (true && true) = nI 0 by decide), hdo, zC1_some, a1, zC0_some, b1, zC0_some]
theorem c_give (hB : BRep b 86 M) (hW : Wf b) (hD : WfD b) (hP : PR U M) (hS : Sv n M) (x y : Int32) : ∃ M', zEv (d + 5) zmC_give [.ref 64, .int x, .int y] M = some (some (.int (spGive b x y).1), M') ∧ CAct b U M' (spGive b x y).2 ∧ Sv n M' ∧ fr pAc pAc M M' := by
  unfold spGive
  have h36 := hW.n36
  have h27 := hW.1.2.2.1
  have ho := q_isOpen (d := d + 2) zk86 hB.sc hW.wk x
  have hdg := q_isDigit (d := d + 3) zk86 hB.sc hW.wk y
  have hgv := q_isGiven (d := d + 2) zk86 hB.sc hW.wk x
  cases hx : oI b x with
  | false =>
    rw [hx] at ho
    rw [if_pos (Or.inl rfl)]
    refine ⟨M, e_C_give ?_, ⟨⟨hB, hW, hD⟩, hP⟩, hS, fr.refl⟩
    rw [ho, zC1_some, if_pos (show nB false = nI 0 from rfl)]
  | true =>
    rw [hx] at ho
    cases hy : iD y (b 2) with
    | false =>
      rw [hy] at hdg
      rw [if_pos (Or.inr rfl)]
      refine ⟨M, e_C_give ?_, ⟨⟨hB, hW, hD⟩, hP⟩, hS, fr.refl⟩
      rw [ho, zC1_some, if_neg (show ¬ nB true = nI 0 by decide), hdg, zC1_some, if_pos (show nB false = nI 0 from rfl)]
    | true =>
      rw [hy] at hdg
      obtain ⟨c, hc, hO, rfl⟩ := oI_ex hW hx
      obtain ⟨g, g1, g2, rfl⟩ := iD_ex (by omega) hy
      have hcN := isO_cell hO
      have eg : gI b (nI c) = decide (b (76 + c) = 1) := by
        unfold gI
        rw [iI_n (by omega), decide_eq_true hcN, n_toInt (by omega), Int.toNat_natCast, Bool.true_and]
      rw [eg] at hgv
      rw [if_neg (by rintro (z | z) <;> cases z), n_toInt (by omega), n_toInt (by omega), Int.toNat_natCast, Int.toNat_natCast]
      obtain ⟨M1, a1, a2, a3⟩ := c_remember (d := d + 2) hB hW hD hP
      obtain ⟨M2, b1, b2, b3⟩ := q_giveDigit (d := d + 1) zk86 (rm_B hB hW a3) hW.wk hO g1 g2
      obtain ⟨w1, w2⟩ := givR_w hW hD hO g1 g2
      by_cases hg : b (76 + c) = 1
      · rw [decide_eq_true hg] at hgv
        have hn1 := (hD c hc).1 hg
        have hdl := (hW.2.2.2.1 c hc).2.1.1
        have hdo := q_digitOf (d := d + 2) zk86 hB hW.wk hcN
        rw [(hD c hc).2 hn1, lst_pow _ (by omega) (by omega)] at hdo
        by_cases he : b (40 + c) = g
        · rw [if_pos ⟨hg, he⟩]
          refine ⟨M, e_C_give ?_, ⟨⟨hB, hW, hD⟩, hP⟩, hS, fr.refl⟩
          rw [ho, zC1_some, if_neg (show ¬ nB true = nI 0 by decide), hdg, zC1_some, if_neg (show ¬ nB true = nI 0 by decide), hgv, zC1_some, if_neg (show ¬ nB true = nI 0 by decide), hdo, zC1_some, if_pos (by rw [he])]
        · rw [if_neg fun z => he z.2]
          refine ⟨M2, e_C_give ?_, ⟨⟨b2, w1, w2⟩, bd_P a2 b3⟩, bd_S (rm_S hS a3) b3, (rm_A a3).trans (bd_A b3)⟩
          rw [ho, zC1_some, if_neg (show ¬ nB true = nI 0 by decide), hdg, zC1_some, if_neg (show ¬ nB true = nI 0 by decide), hgv, zC1_some, if_neg (show ¬ nB true = nI 0 by decide), hdo, zC1_some, if_neg (by rw [n_eq (by omega) (by omega)]; exact he), a1, zC0_some, b1, zC0_some]
      · rw [decide_eq_false hg] at hgv
        rw [if_neg fun z => hg z.1]
        refine ⟨M2, e_C_give ?_, ⟨⟨b2, w1, w2⟩, bd_P a2 b3⟩, bd_S (rm_S hS a3) b3, (rm_A a3).trans (bd_A b3)⟩
        rw [ho, zC1_some, if_neg (show ¬ nB true = nI 0 by decide), hdg, zC1_some, if_neg (show ¬ nB true = nI 0 by decide), hgv, zC1_some, if_pos (show nB false = nI 0 from rfl), a1, zC0_some, b1, zC0_some]
theorem q_mostTot2 {s : Nat} (hs : s ≤ 3) (h3 : s ≠ 3) : zEv (d + 1) zmC_mostTotal [.int (nI s)] M = some (some (.int (nI (mostT s))), M) := by
  refine e_C_mostTotal ?_
  have : s = 0 ∨ s = 1 ∨ s = 2 := by omega
  rcases this with rfl | rfl | rfl
  · rw [if_pos rfl]; rfl
  · rw [if_neg (by decide), if_pos rfl]; rfl
  · rw [if_neg (by decide), if_neg (by decide), if_pos rfl]; rfl
theorem mostT_le2 (s : Nat) : mostT s ≤ 999999 := by unfold mostT; (repeat' split) <;> omega
theorem c_total (hB : BRep b 86 M) (hW : Wf b) (hD : WfD b) (hP : PR U M) (hS : Sv n M) (x y : Int32) : ∃ M', zEv (d + 5) zmC_total [.ref 64, .int x, .int y] M = some (some (.int (spTotal b x y).1), M') ∧ CAct b U M' (spTotal b x y).2 ∧ Sv n M' ∧ fr pAc pAc M M' := by
  unfold spTotal
  have h12 := hW.1.2.2.2
  have hcg := q_isCage (d := d + 3) zk86 hB.sc hW.wk x
  cases hx : iI x (b 3) with
  | false =>
    rw [hx] at hcg
    rw [if_pos rfl]
    refine ⟨M, e_C_total ?_, ⟨⟨hB, hW, hD⟩, hP⟩, hS, fr.refl⟩
    rw [hcg, zC1_some, if_pos (show nB false = nI 0 from rfl)]
  | true =>
    rw [hx] at hcg
    obtain ⟨k, hk, rfl⟩ := iI_ex (by omega) hx
    have hg := hW.2.2.2.2.2 k hk
    have hgs := hg.1.1
    have hgt := hg.1.2.1
    have hBk := (hB.2.2.2 k hk).1
    have hmo := mostT_le2 (b (148 + 10 * k))
    rw [if_neg (by decide), n_toInt (by omega), Int.toNat_natCast]
    have h88 : M.1 88 k = nI (b (148 + 10 * k)) := hBk.1.1
    have h89 : M.1 89 k = nI (b (149 + 10 * k)) := hBk.1.2
    by_cases hs : b (148 + 10 * k) = 3
    · rw [if_pos hs]
      refine ⟨M, e_C_total ?_, ⟨⟨hB, hW, hD⟩, hP⟩, hS, fr.refl⟩
      rw [hcg, zC1_some, if_neg (show ¬ nB true = nI 0 by decide), if_pos ((n_zin (by omega)).mpr (by omega)), n_clamp (by omega), h88, hs, if_pos rfl]
    · rw [if_neg hs]
      have hmt := q_mostTot2 (d := d + 3) (M := M) hgs hs
      have head : ∀ rr, (if y < nI 0 then some (some (.int (-1 : Int32)), M) else (if nI (mostT (b (148 + 10 * k))) < y then some (some (.int (-1 : Int32)), M) else (if nI (b (149 + 10 * k)) = y then some (some (.int (-2 : Int32)), M) else zC0 (zEv (d + 4) zmC_remember [.ref 64] M) (fun M14 => some (some (.int (nI (b (149 + 10 * k)))), (zpi M14 89 k y)))))) = some rr → zEv (d + 5) zmC_total [.ref 64, .int (nI k), .int y] M = some rr := fun rr hrr => by
        refine e_C_total ?_
        rw [hcg, zC1_some, if_neg (show ¬ nB true = nI 0 by decide), if_pos ((n_zin (by omega)).mpr (by omega)), n_clamp (by omega), h88, if_neg (by rw [n_eq (by omega) (by omega)]; exact hs), hmt, zC1_some, h89]
        exact hrr
      cases hy : iI y (mostT (b (148 + 10 * k)) + 1) with
      | false =>
        have hy' : ¬ iI y (mostT (b (148 + 10 * k)) + 1) = true := by rw [hy]; decide
        rw [iI_if] at hy'
        rw [if_pos rfl]
        refine ⟨M, head _ ?_, ⟨⟨hB, hW, hD⟩, hP⟩, hS, fr.refl⟩
        by_cases h0 : y < nI 0
        · rw [if_pos h0]
        · rw [if_neg h0, if_pos]
          rw [Int32.lt_iff_toInt_lt, n_toInt (by omega)] at h0 ⊢
          omega
      | true =>
        obtain ⟨v, hv, rfl⟩ := iI_ex (by omega) hy
        rw [if_neg (by decide), n_toInt (by omega), Int.toNat_natCast]
        by_cases he : b (149 + 10 * k) = v
        · rw [if_pos he]
          refine ⟨M, head _ ?_, ⟨⟨hB, hW, hD⟩, hP⟩, hS, fr.refl⟩
          rw [if_neg (by rw [n_lt (by omega) (by omega)]; omega), if_neg (by rw [n_lt (by omega) (by omega)]; omega), if_pos (by rw [he])]
        · rw [if_neg he]
          obtain ⟨M1, a1, a2, a3⟩ := c_remember (d := d + 2) hB hW hD hP
          have hB2 := (rm_B hB hW a3).tot h12 hW.n36 (fun k' hk' => cgN_le hW hk') hk v
          obtain ⟨w1, w2⟩ := totR_w hW hD hk (n := v) (by omega)
          have f2 : fr (pBd 86) (pBd 86) M1 (zpi M1 89 k (nI v)) := fr.refl.pi (by unfold pBd; omega)
          refine ⟨zpi M1 89 k (nI v), head _ ?_, ⟨⟨hB2, w1, w2⟩, bd_P a2 f2⟩, bd_S (rm_S hS a3) f2, (rm_A a3).trans (bd_A f2)⟩
          rw [if_neg (by rw [n_lt (by omega) (by omega)]; omega), if_neg (by rw [n_lt (by omega) (by omega)]; omega), if_neg (by rw [n_eq (by omega) (by omega)]; exact he), a1, zC0_some]
theorem lg_A {M' : ZM} (f : fr pLg pLg M M') : fr pAc pAc M M' := f.mono (fun a k z => by unfold pLg at z; unfold pAc; omega) fun a k z => by unfold pLg at z; unfold pAc; omega
theorem lg_P {M' : ZM} {V : List (Nat → Nat)} (hP : PR V M) (f : fr pLg pLg M M') : PR V M' := hP.fr f (fun a k z => by unfold pLg at z; omega) fun a k z => by unfold pLg at z; omega
theorem lg_B {M' : ZM} (hB : BRep b 86 M) (hW : Wf b) (f : fr pLg pLg M M') : BRep b 86 M' := hB.fr f hW.1.2.2.2 (fun a k z => by unfold pLg at z; omega) fun a k z => by unfold pLg at z; omega
theorem c_step (hB : BRep b 86 M) (hW : Wf b) (hD : WfD b) (hP : PR U M) (hS : Sv n M) : ∃ M', zEv (d + 15) zmC_step [.ref 64] M = some (some (.int (spStep b).1), M') ∧ CAct b U M' (spStep b).2 ∧ Sv n M' ∧ fr pAc pAc M M' := by
  unfold spStep
  have hI : RSI 263 M := by obtain ⟨L, _, ⟨_, h3⟩, _⟩ := hS; exact h3
  have ht := q_isTold (d := d + 13) zk86 hB.sc hW.wk
  rw [told_eq hW] at ht
  cases hto : decide (0 < b 2) with
  | false =>
    rw [hto] at ht
    refine ⟨M, e_C_step ?_, ⟨⟨hB, hW, hD⟩, hP⟩, hS, fr.refl⟩
    rw [ht, zC1_some, if_pos (show nB false = nI 0 from rfl)]
    rfl
  | true =>
    rw [hto] at ht
    obtain ⟨M1, a1, ⟨a2, a3⟩, a4, a5⟩ := q_find (d := d) zk86 (by omega) hW hD hB hI
    have hB1 := lg_B hB hW a5
    have hP1 := lg_P hP a5
    have hS1 := hS.lg a5 a4
    have hk2 := stp_kd b
    have head : ∀ rr, (if nB (brk b) = nI 0 then (if nI (stp b).1 = nI 0 then some (some (.int (nI (stp b).1)), M1) else zC0 (zEv (d + 14) zmC_remember [.ref 64] M1) (fun M13 => zC0 (zEv (d + 14) zmL_apply [.ref 262, .ref 86] M13) (fun M15 => some (some (.int (M15.1 262 5)), M15)))) else some (some (.int (-2 : Int32)), M1)) = some rr → zEv (d + 15) zmC_step [.ref 64] M = some rr := fun rr hrr => by
      refine e_C_step ?_
      rw [ht, zC1_some, if_neg (show ¬ nB true = nI 0 by decide), a1, zC0_some, q_LisBroken a2 hW, zC1_some, a3.1]
      exact hrr
    rw [Bool.not_true, cond_false]
    cases hbk : brk b with
    | true =>
      refine ⟨M1, head _ ?_, ⟨⟨hB1, hW, hD⟩, hP1⟩, hS1, lg_A a5⟩
      rw [hbk, if_neg (show ¬ nB true = nI 0 by decide)]
      rfl
    | false =>
      rw [cond_false]
      by_cases h0 : (stp b).1 = 0
      · rw [if_pos h0]
        refine ⟨M1, head _ ?_, ⟨⟨hB1, hW, hD⟩, hP1⟩, hS1, lg_A a5⟩
        rw [hbk, if_pos (show nB false = nI 0 from rfl), h0, if_pos rfl]
      · rw [if_neg h0]
        obtain ⟨M2, b1, b2, b3⟩ := c_remember (d := d + 12) hB1 hW hD hP1
        have hL2 : LFd M2 (stp b) := a3.fr b3 fun a k z => by unfold pRm at z; omega
        obtain ⟨M3, c1, c2, c3⟩ := q_apply (d := d + 10) zk86 (by omega) hW hD (rm_B hB1 hW b3) hL2 h0
        obtain ⟨w1, w2⟩ := goS_w hW hD
        have h5 : M3.1 262 5 = nI (stp b).1 := (c3.1 262 5 (by unfold pBd; omega)).trans hL2.1
        refine ⟨M3, head _ ?_, ⟨⟨c2, w1, w2⟩, bd_P b2 c3⟩, bd_S (rm_S hS1 b3) c3, ((lg_A a5).trans (rm_A b3)).trans (bd_A c3)⟩
        rw [hbk, if_pos (show nB false = nI 0 from rfl), if_neg (by rw [n_eq (by omega) (by omega)]; exact h0), b1, zC0_some, c1, zC0_some, h5]
theorem goB_pos (h : (stp b).1 ≠ 0) : (goB b).2.1 ≠ 0 := by
  have e : goB b = goA 1187 (goS b) (0 + 1) (0 + (stp b).1) := if_neg h
  rw [e]
  have := (goA_0 1187 (goS b) (0 + 1) (0 + (stp b).1)).1.1
  omega
theorem goB_0 (h : (stp b).1 = 0) : goB b = (b, 0, 0) := if_pos h
theorem c_run (hB : BRep b 86 M) (hW : Wf b) (hD : WfD b) (hP : PR U M) (hS : Sv n M) : ∃ M', zEv (d + 16) zmC_run [.ref 64] M = some (some (.int (spRun b).1), M') ∧ CAct b U M' (spRun b).2 ∧ Sv n M' ∧ fr pAc pAc M M' := by
  unfold spRun
  have hI : RSI 263 M := by obtain ⟨L, _, ⟨_, h3⟩, _⟩ := hS; exact h3
  have ht := q_isTold (d := d + 14) zk86 hB.sc hW.wk
  rw [told_eq hW] at ht
  cases hto : decide (0 < b 2) with
  | false =>
    rw [hto] at ht
    refine ⟨M, e_C_run ?_, ⟨⟨hB, hW, hD⟩, hP⟩, hS, fr.refl⟩
    rw [ht, zC1_some, if_pos (show nB false = nI 0 from rfl)]
    rfl
  | true =>
    rw [hto] at ht
    obtain ⟨M1, a1, ⟨a2, a3⟩, a4, a5⟩ := q_find (d := d + 1) zk86 (by omega) hW hD hB hI
    have hB1 := lg_B hB hW a5
    have hP1 := lg_P hP a5
    have hS1 := hS.lg a5 a4
    have hk2 := stp_kd b
    have head : ∀ rr, (if nB (brk b) = nI 0 then (if nI (stp b).1 = nI 0 then some (some (.int (nI 0)), M1) else zC0 (zEv (d + 15) zmC_remember [.ref 64] M1) (fun M13 => zC0 (zEv (d + 15) zmL_applyAll [.ref 262, .ref 86] M13) (fun M15 => some (some (.int (M15.1 262 10)), M15)))) else some (some (.int (-2 : Int32)), M1)) = some rr → zEv (d + 16) zmC_run [.ref 64] M = some rr := fun rr hrr => by
      refine e_C_run ?_
      rw [ht, zC1_some, if_neg (show ¬ nB true = nI 0 by decide), a1, zC0_some, q_LisBroken a2 hW, zC1_some, a3.1]
      exact hrr
    rw [Bool.not_true, cond_false]
    cases hbk : brk b with
    | true =>
      refine ⟨M1, head _ ?_, ⟨⟨hB1, hW, hD⟩, hP1⟩, hS1, lg_A a5⟩
      rw [hbk, if_neg (show ¬ nB true = nI 0 by decide)]
      rfl
    | false =>
      rw [cond_false]
      by_cases h0 : (stp b).1 = 0
      · have e0 : (goB b).2.1 = 0 := by rw [goB_0 h0]
        rw [if_pos e0]
        refine ⟨M1, head _ ?_, ⟨⟨hB1, hW, hD⟩, hP1⟩, hS1, lg_A a5⟩
        rw [hbk, if_pos (show nB false = nI 0 from rfl), h0, if_pos rfl]
      · rw [if_neg (goB_pos h0)]
        obtain ⟨M2, b1, b2, b3⟩ := c_remember (d := d + 13) hB1 hW hD hP1
        have hL2 : LFd M2 (stp b) := a3.fr b3 fun a k z => by unfold pRm at z; omega
        have hS2 : SDY b M2 := a2.fr b3 hW.1.2.2.2 fun a k z => by unfold pRm at z; omega
        obtain ⟨M3, c1, ⟨⟨c2, c3⟩, w1, w2⟩, ⟨c4, c5⟩, c6, c7⟩ := q_applyAll (d := d) zk86 (by omega) (by omega) hW hD (rm_B hB1 hW b3) (rsi_out a4 b3 (fun a k z => by unfold pRm at z; omega) fun a k z => by unfold pRm at z; omega) hS2 hL2
        have o1 : ∀ a k, ((262 ≤ a ∧ a ≤ 410) ∨ pBd 86 a k) → (262 ≤ a ∧ a ≤ 410) ∨ (86 ≤ a ∧ a ≤ 104) := fun a k z => by unfold pBd at z; omega
        have hS3 : Sv n M3 := by
          obtain ⟨L, s1, ⟨s2, s3⟩, s4⟩ := rm_S hS1 b3
          exact ⟨L, s1, ⟨rsi_out s2 c7 (fun a k z => by have := o1 a k z; omega) fun a k z => by have := o1 a k z; omega, c6⟩, sgl_out s4 c7 (fun a k z => by have := o1 a k z; omega) fun a k z => by have := o1 a k z; omega⟩
        refine ⟨M3, head _ ?_, ⟨⟨c2, w1, w2⟩, b2.fr c7 (fun a k z => by have := o1 a k z; omega) fun a k z => by have := o1 a k z; omega⟩, hS3, ((lg_A a5).trans (rm_A b3)).trans (c7.mono (fun a k z => by have := o1 a k z; unfold pAc; omega) fun a k z => by have := o1 a k z; unfold pAc; omega)⟩
        rw [hbk, if_pos (show nB false = nI 0 from rfl), if_neg (by rw [n_eq (by omega) (by omega)]; exact h0), b1, zC0_some, c1, zC0_some, c4]
end QA2
