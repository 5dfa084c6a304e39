/-! THE CLASS, 35: what must and twins find: nothing more -/
def pLm : Nat → Nat → Prop := fun a _ => 263 ≤ a ∧ a ≤ 397
/-- marks of cells not done: had, had twice; and of cells done -/
def omd (b : Nat → Nat) (k : Nat) : Nat → Nat × Nat × Nat
  | 0 => (0, 0, 0)
  | i + 1 => bif decide (0 < b (40 + cgC b k i)) then ((omd b k i).1, (omd b k i).2.1, (omd b k i).2.2 ||| cgMs b k i) else ((omd b k i).1 ||| cgMs b k i, (omd b k i).2.1 ||| ((omd b k i).1 &&& cgMs b k i), (omd b k i).2.2)
theorem omd_bit {b : Nat → Nat} {k x : Nat} : ∀ i, (∀ j, j < i → ¬ 0 < b (40 + cgC b k j) → (cgMs b k j).testBit x = true → (omd b k i).1.testBit x = true) ∧ (∀ j, j < i → 0 < b (40 + cgC b k j) → (cgMs b k j).testBit x = true → (omd b k i).2.2.testBit x = true) ∧ ∀ j l, j < l → l < i → ¬ 0 < b (40 + cgC b k j) → ¬ 0 < b (40 + cgC b k l) → (cgMs b k j).testBit x = true → (cgMs b k l).testBit x = true → (omd b k i).2.1.testBit x = true
  | 0 => ⟨fun j hj => absurd hj (Nat.not_lt_zero j), fun j hj => absurd hj (Nat.not_lt_zero j), fun j l _ hl => absurd hl (Nat.not_lt_zero l)⟩
  | i + 1 => by
    obtain ⟨h1, h2, h3⟩ := omd_bit (b := b) (k := k) (x := x) i
    unfold omd
    cases hd : decide (0 < b (40 + cgC b k i)) with
    | true =>
      have hd := of_decide_eq_true hd
      rw [cond_true]
      refine ⟨fun j hj u1 u2 => ?_, fun j hj u1 u2 => ?_, fun j l hjl hl u1 u2 u3 u4 => ?_⟩
      · by_cases e : j = i
        · rw [e] at u1; exact absurd hd u1
        · exact h1 j (by omega) u1 u2
      · show ((omd b k i).2.2 ||| cgMs b k i).testBit x = true
        rw [Nat.testBit_or, Bool.or_eq_true]
        by_cases e : j = i
        · rw [e] at u2; exact Or.inr u2
        · exact Or.inl (h2 j (by omega) u1 u2)
      · by_cases e : l = i
        · rw [e] at u2; exact absurd hd u2
        · exact h3 j l hjl (by omega) u1 u2 u3 u4
    | false =>
      have hd := of_decide_eq_false hd
      rw [cond_false]
      refine ⟨fun j hj u1 u2 => ?_, fun j hj u1 u2 => ?_, fun j l hjl hl u1 u2 u3 u4 => ?_⟩
      · show ((omd b k i).1 ||| cgMs b k i).testBit x = true
        rw [Nat.testBit_or, Bool.or_eq_true]
        by_cases e : j = i
        · rw [e] at u2; exact Or.inr u2
        · exact Or.inl (h1 j (by omega) u1 u2)
      · by_cases e : j = i
        · rw [e] at u1; exact absurd u1 hd
        · exact h2 j (by omega) u1 u2
      · show ((omd b k i).2.1 ||| ((omd b k i).1 &&& cgMs b k i)).testBit x = true
        rw [Nat.testBit_or, Nat.testBit_and, Bool.or_eq_true, Bool.and_eq_true]
        by_cases e : l = i
        · rw [e] at hjl u4
          exact Or.inr ⟨h1 j hjl u1 u3, u4⟩
        · exact Or.inl (h3 j l hjl (by omega) u1 u2 u3 u4)
theorem omd_lt {b : Nat → Nat} (hW : Wf b) {k : Nat} (hk : k < b 3) : ∀ i, i ≤ cgN b k → (omd b k i).1 < 2 ^ 8 ∧ (omd b k i).2.1 < 2 ^ 8 ∧ (omd b k i).2.2 < 2 ^ 8
  | 0, _ => ⟨show 0 < 2 ^ 8 by decide, show 0 < 2 ^ 8 by decide, show 0 < 2 ^ 8 by decide⟩
  | i + 1, hi => by
    obtain ⟨h1, h2, h3⟩ := omd_lt hW hk i (by omega)
    have hm : cgMs b k i < 2 ^ 8 := mk_lt hW (cgC_lt hW hk (show i < cgN b k by omega))
    unfold omd
    cases decide (0 < b (40 + cgC b k i)) with
    | true => exact ⟨h1, h2, Nat.or_lt_two_pow h3 hm⟩
    | false => exact ⟨Nat.or_lt_two_pow h1 hm, Nat.or_lt_two_pow h2 (Nat.lt_of_le_of_lt Nat.and_le_left h1), h3⟩
section QL3
variable {d : Nat} {b : Nat → Nat} {q : Nat}
theorem q_findHolder (hq : zkd q = (10, 0)) (hW : Wf b) (hD : WfD b) {M : ZM} (hB : BRep b q M) {k g : Nat} (hk : k < b 3) (hg : g < 8) (hno : ∀ i, i < cgN b k → (cgMs b k i).testBit g = true → ¬ 0 < b (40 + cgC b k i) → popc (cgMs b k i) ≤ 1) : zEv (d + 4) zmL_findHolder [.ref 262, .ref q, .int (nI k), .int (nI g)] M = some (some (.int (nI 0)), M) := by
  have h12 := cg_12 hW hk
  have h6 := cgN_le hW hk
  have : ∀ n i, i + n = cgN b k → h_L_findHolder_3 (d + 3) q (nI k) (nI g) (nI i) M = some (some (.int (nI 0)), M) := by
    intro n
    induction n with
    | zero =>
      intro i h
      refine e_L_findHolder_3 hq ?_
      rw [if_pos ((n_zin (by omega)).mpr h12), n_clamp (by omega), (hB.2.2.2 k hk).1.2.1, if_neg (by rw [n_lt (by omega) (by omega)]; omega)]
    | succ n ih =>
      intro i h
      have hi : i < cgN b k := by omega
      have hO := (hW.2.2.2.2.2 k hk).2.2.1 i hi
      have hc := cgC_lt hW hk hi
      have hm : cgMs b k i < 256 := mk_lt hW hc
      have hpl := popc_le (cgMs b k i)
      refine e_L_findHolder_3 hq ?_
      rw [if_pos ((n_zin (by omega)).mpr h12), n_clamp (by omega), (hB.2.2.2 k hk).1.2.1, if_pos ((n_lt (by omega) (by omega)).mpr hi), if_pos ((n_zin (by omega)).mpr (by omega)), n_clamp (by omega), zLr, (hB.2.2.2 k hk).2 i hi, q_hasMark (d := d + 1) hq hB hW.wk, zC1_some, n_add1]
      cases hh : (iI (nI (cgC b k i)) (b 0 * b 1) && (iD (nI g) (b 2) && (b (112 + (nI (cgC b k i)).toInt.toNat)).testBit (nI g).toInt.toNat)) with
      | false =>
        rw [if_pos (show nB false = nI 0 from rfl)]
        exact ih (i + 1) (by omega)
      | true =>
        rw [if_neg (show ¬ nB true = nI 0 by decide), q_isDone (d := d) hq hB.sc hW.wk hD, zC1_some, doI_n hW hc hO]
        rw [Bool.and_eq_true, Bool.and_eq_true, n_toInt (by omega), n_toInt (by omega), Int.toNat_natCast, Int.toNat_natCast] at hh
        by_cases hd : 0 < b (40 + cgC b k i)
        · rw [decide_eq_true hd, if_neg (show ¬ nB true = nI 0 by decide)]
          exact ih (i + 1) (by omega)
        · have hp := hno i hi hh.2.2 hd
          rw [decide_eq_false hd, if_pos (show nB false = nI 0 from rfl), if_pos ((n_zin (by omega)).mpr hc), n_clamp (by omega), hB.2.2.1 _ hc, show b (112 + cgC b k i) = cgMs b k i from rfl, q_bitI (d := d + 2) (by omega), zC1_some, if_neg (by rw [n_lt (by omega) (by omega)]; omega)]
          exact ih (i + 1) (by omega)
  exact e_L_findHolder hq (this (cgN b k) 0 (by omega))
theorem q_findMust (hq : zkd q = (10, 0)) (hq2 : q + 18 < 126) (hW : Wf b) (hD : WfD b) {M : ZM} (hB : BRep b q M) (hI : RSI 263 M) (hN : fdW b = none) {k : Nat} (hk : k < b 3) : ∃ M', zEv (d + 13) zmL_findMust [.ref 262, .ref q, .int (nI k)] M = some (some (.int (nI 0)), M') ∧ RSI 263 M' ∧ fr pLm pLm M M' := by
  have h12 := cg_12 hW hk
  have h6 := cgN_le hW hk
  have loop : ∀ n i, i + n = cgN b k → ∃ M', h_L_findMust_11 (d + 12) q (nI k) (nI (omd b k i).1) (nI (omd b k i).2.1) (nI (omd b k i).2.2) (nI i) M = some (some (.int (nI 0)), M') ∧ RSI 263 M' ∧ fr pLm pLm M M' := by
    intro n
    induction n with
    | zero =>
      intro i h
      obtain rfl : i = cgN b k := by omega
      obtain ⟨o1, o2, o3⟩ := omd_lt hW hk (cgN b k) (Nat.le_refl _)
      have hlone : (nI (omd b k (cgN b k)).1 &&& (nI (omd b k (cgN b k)).2.1 ^^^ (-1 : Int32))) &&& (nI (omd b k (cgN b k)).2.2 ^^^ (-1 : Int32)) = nI (((omd b k (cgN b k)).1 ^^^ ((omd b k (cgN b k)).1 &&& (omd b k (cgN b k)).2.1)) ^^^ (((omd b k (cgN b k)).1 ^^^ ((omd b k (cgN b k)).1 &&& (omd b k (cgN b k)).2.1)) &&& (omd b k (cgN b k)).2.2)) := by
        rw [n_clr, n_clr]
      have hbit : ∀ x, ((((omd b k (cgN b k)).1 ^^^ ((omd b k (cgN b k)).1 &&& (omd b k (cgN b k)).2.1)) ^^^ (((omd b k (cgN b k)).1 ^^^ ((omd b k (cgN b k)).1 &&& (omd b k (cgN b k)).2.1)) &&& (omd b k (cgN b k)).2.2)).testBit x = true) → (omd b k (cgN b k)).2.1.testBit x = false ∧ (omd b k (cgN b k)).2.2.testBit x = false := fun x hx => by
        rw [Nat.testBit_xor, Nat.testBit_and, Nat.testBit_xor, Nat.testBit_and] at hx
        cases u1 : (omd b k (cgN b k)).1.testBit x <;> cases u2 : (omd b k (cgN b k)).2.1.testBit x <;> cases u3 : (omd b k (cgN b k)).2.2.testBit x <;> rw [u1, u2, u3] at hx <;> first | exact ⟨rfl, rfl⟩ | cases hx
      have hLl : (((omd b k (cgN b k)).1 ^^^ ((omd b k (cgN b k)).1 &&& (omd b k (cgN b k)).2.1)) ^^^ (((omd b k (cgN b k)).1 ^^^ ((omd b k (cgN b k)).1 &&& (omd b k (cgN b k)).2.1)) &&& (omd b k (cgN b k)).2.2)) < 2 ^ 8 := by
        have h1 := Nat.xor_lt_two_pow o1 (Nat.lt_of_le_of_lt (Nat.and_le_left (n := (omd b k (cgN b k)).1) (m := (omd b k (cgN b k)).2.1)) o1)
        exact Nat.xor_lt_two_pow h1 (Nat.lt_of_le_of_lt Nat.and_le_left h1)
      revert hlone hbit hLl
      generalize ((omd b k (cgN b k)).1 ^^^ ((omd b k (cgN b k)).1 &&& (omd b k (cgN b k)).2.1)) ^^^ (((omd b k (cgN b k)).1 ^^^ ((omd b k (cgN b k)).1 &&& (omd b k (cgN b k)).2.1)) &&& (omd b k (cgN b k)).2.2) = L
      intro hlone hbit hLl
      by_cases h0 : L = 0
      · refine ⟨M, e_L_findMust_11 hq ?_, hI, fr.refl⟩
        rw [if_pos ((n_zin (by omega)).mpr h12), n_clamp (by omega), (hB.2.2.2 k hk).1.2.1, if_neg (by rw [n_lt (by omega) (by omega)]; omega), hlone, if_pos (by rw [h0])]
      · obtain ⟨M1, a1, a2, a3, a4⟩ := q_ready (d := d + 8) rsk_L hq hB hW hk hI
        have hB1 := hB.fr a4 hW.1.2.2.2 (fun a x z => by unfold pRu at z; omega) fun a x z => by unfold pRu at z; omega
        have hg := hW.2.2.2.2.2 k hk
        obtain ⟨M2, b1, b2, b3⟩ := q_tally (d := d) (y := 395) (show zkd 395 = (17, 0) by decide +kernel) (rsk_L.2 k h12) (zf_0_8 hq) (qcl hq h12) hg.1.1 hg.2.1.1 a2 (msr_B hB1 hW hk) (by omega) (by omega) (by omega)
        have eW : (wds ((List.range (cgN b k)).map (cgMs b k))).filter (accF (rl (b (148 + 10 * k)) (!cgU b k) (b (149 + 10 * k)) (cgN b k)) 0) = ways b k := (ways_wds hW hk).symm
        rw [eW] at b2
        have hB2 := hB1.fr b3 hW.1.2.2.2 (fun a x z => by unfold pY12 at z; omega) fun a x z => by unfold pWg at z; omega
        have hIA := q_inAll (d := d + 11) (show zkd 395 = (17, 0) by decide +kernel) b2 fun s _ => kc_lt hW hk s
        rw [kc_must hW.1.2.2.1 (ways_top hW hk)] at hIA
        have f2 : fr pLm pLm M M2 := (a4.mono (fun a x z => by unfold pRu at z; unfold pLm; omega) fun a x z => by unfold pRu at z; unfold pLm; omega).trans (b3.mono (fun a x z => by unfold pY12 at z; unfold pLm; omega) fun a x z => by unfold pWg at z; unfold pLm; omega)
        have hI2 : RSI 263 M2 := ⟨fun k' hk' => (a3.1 k' hk').fr b3 (fun a x h1 h2 h3 => by unfold pY12; omega) fun a x h1 h2 h3 => by unfold pWg; omega, a3.2.fr b3 (fun a x h1 h2 h3 => by unfold pY12; omega) fun a x h1 h2 h3 => by unfold pWg; omega⟩
        have hml : L &&& mustD b (ways b k) < 2 ^ 8 := Nat.lt_of_le_of_lt Nat.and_le_left hLl
        have l148 : ∀ n g, g + n = 8 → 1 ≤ g → h_L_findMust_148 (d + 12) q (nI k) (nI (L &&& mustD b (ways b k))) (nI g) M2 = some (some (.int (nI 0)), M2) := by
          intro n
          induction n with
          | zero =>
            intro g h h1
            refine e_L_findMust_148 hq ?_
            rw [if_pos ((n_lt (by omega) (by omega)).mpr (by omega))]
          | succ n ihn =>
            intro g h h1
            have hb := n_bit (m := L &&& mustD b (ways b k)) (d := g) (by omega) (by omega)
            refine e_L_findMust_148 hq ?_
            rw [if_neg (by rw [n_lt (by omega) (by omega)]; omega), n_add1]
            by_cases hgb : (L &&& mustD b (ways b k)).testBit g = true
            · have hgb2 := hgb
              rw [Nat.testBit_and, Bool.and_eq_true] at hgb2
              obtain ⟨hm0, hd0⟩ := hbit g hgb2.1
              have hno : ∀ i, i < cgN b k → (cgMs b k i).testBit g = true → ¬ 0 < b (40 + cgC b k i) → popc (cgMs b k i) ≤ 1 := fun i hi hib hiu => must_one hN hk hi hgb2.2 fun j hj hji => by
                cases hjb : (b (112 + cgC b k j)).testBit g with
                | false => rfl
                | true =>
                  exfalso
                  obtain ⟨_, p2, p3⟩ := omd_bit (b := b) (k := k) (x := g) (cgN b k)
                  by_cases hjd : 0 < b (40 + cgC b k j)
                  · have := p2 j hj hjd hjb
                    rw [hd0] at this; cases this
                  · rcases Nat.lt_or_gt_of_ne hji with hlt | hlt
                    · have := p3 j i hlt hi hjd hiu hjb hib
                      rw [hm0] at this; cases this
                    · have := p3 i j hlt hj hiu hjd hib hjb
                      rw [hm0] at this; cases this
              rw [if_pos (hb.mpr hgb), q_findHolder (d := d + 8) hq hW hD hB2 hk (by omega) hno, zC1_some, if_pos rfl]
              exact ihn (g + 1) (by omega) (by omega)
            · rw [if_neg (fun w => hgb (hb.mp w))]
              exact ihn (g + 1) (by omega) (by omega)
        refine ⟨M2, e_L_findMust_11 hq ?_, hI2, f2⟩
        rw [if_pos ((n_zin (by omega)).mpr h12), n_clamp (by omega), (hB.2.2.2 k hk).1.2.1, if_neg (by rw [n_lt (by omega) (by omega)]; omega), hlone, if_neg (by rw [n_eq (by omega) (by omega)]; exact h0), a1, zC3_some, if_pos (rsk_L.2 k h12), b1, zC0_some, hIA, zC1_some, zLr, n_and]
        exact l148 7 1 (by omega) (by omega)
    | succ n ih =>
      intro i h
      have hi : i < cgN b k := by omega
      have hO := (hW.2.2.2.2.2 k hk).2.2.1 i hi
      have hc := cgC_lt hW hk hi
      obtain ⟨M', a1, a2⟩ := ih (i + 1) (by omega)
      refine ⟨M', e_L_findMust_11 hq ?_, a2⟩
      unfold omd at a1
      rw [if_pos ((n_zin (by omega)).mpr h12), n_clamp (by omega), (hB.2.2.2 k hk).1.2.1, if_pos ((n_lt (by omega) (by omega)).mpr hi), if_pos ((n_zin (by omega)).mpr (by omega)), n_clamp (by omega), zLr, (hB.2.2.2 k hk).2 i hi, q_isDone (d := d + 9) hq hB.sc hW.wk hD, zC1_some, doI_n hW hc hO, n_add1]
      by_cases hd : 0 < b (40 + cgC b k i)
      · rw [decide_eq_true hd, cond_true] at a1
        rw [decide_eq_true hd, if_neg (show ¬ nB true = nI 0 by decide), if_pos ((n_zin (by omega)).mpr hc), n_clamp (by omega), hB.2.2.1 _ hc, n_or]
        exact a1
      · rw [decide_eq_false hd, cond_false] at a1
        rw [decide_eq_false hd, if_pos (show nB false = nI 0 from rfl), if_pos ((n_zin (by omega)).mpr hc), n_clamp (by omega), hB.2.2.1 _ hc, n_or, n_and, n_or]
        exact a1
  obtain ⟨M', a1, a2⟩ := loop (cgN b k) 0 (by omega)
  exact ⟨M', e_L_findMust hq a1, a2⟩
theorem q_elsewhere (hq : zkd q = (10, 0)) (hW : Wf b) {M : ZM} (hB : BRep b q M) {k i j : Nat} (hk : k < b 3) (hi : i < cgN b k) (hj : j < cgN b k) (hno : ∀ l, l < cgN b k → l ≠ i → l ≠ j → b (112 + cgC b k l) &&& b (112 + cgC b k i) = 0) : zEv (d + 1) zmL_isMarkedElsewhere [.ref 262, .ref q, .int (nI k), .int (nI (cgC b k i)), .int (nI (cgC b k j))] M = some (some (.int (nI 0)), M) := by
  have h12 := cg_12 hW hk
  have h6 := cgN_le hW hk
  have hci := cgC_lt hW hk hi
  have hcj := cgC_lt hW hk hj
  have : ∀ n l, l + n = cgN b k → h_L_isMarkedElsewhere_3 d q (nI k) (nI (cgC b k i)) (nI (cgC b k j)) (nI l) M = some (some (.int (nI 0)), M) := by
    intro n
    induction n with
    | zero =>
      intro l h
      refine e_L_isMarkedElsewhere_3 hq ?_
      rw [if_pos ((n_zin (by omega)).mpr h12), n_clamp (by omega), (hB.2.2.2 k hk).1.2.1, if_neg (by rw [n_lt (by omega) (by omega)]; omega)]
    | succ n ih =>
      intro l h
      have hl : l < cgN b k := by omega
      have hc := cgC_lt hW hk hl
      refine e_L_isMarkedElsewhere_3 hq ?_
      rw [if_pos ((n_zin (by omega)).mpr h12), n_clamp (by omega), (hB.2.2.2 k hk).1.2.1, if_pos ((n_lt (by omega) (by omega)).mpr hl), if_pos ((n_zin (by omega)).mpr (by omega)), n_clamp (by omega), zLr, (hB.2.2.2 k hk).2 l hl, n_add1]
      by_cases e1 : cgC b k l = cgC b k i
      · rw [if_pos (by rw [e1])]
        exact ih (l + 1) (by omega)
      · rw [if_neg (by rw [n_eq (by omega) (by omega)]; exact e1)]
        by_cases e2 : cgC b k l = cgC b k j
        · rw [if_pos (by rw [e2])]
          exact ih (l + 1) (by omega)
        · rw [if_neg (by rw [n_eq (by omega) (by omega)]; exact e2), if_pos ((n_zin (by omega)).mpr hc), if_pos ((n_zin (by omega)).mpr hci), n_clamp (by omega), n_clamp (by omega), hB.2.2.1 _ hc, hB.2.2.1 _ hci, n_and, hno l hl (fun z => e1 (by rw [z])) (fun z => e2 (by rw [z])), if_pos rfl]
          exact ih (l + 1) (by omega)
  exact e_L_isMarkedElsewhere hq (this (cgN b k) 0 (by omega))
theorem q_findTwins (hq : zkd q = (10, 0)) (hW : Wf b) (hD : WfD b) {M : ZM} (hB : BRep b q M) (hN : fdW b = none) {k : Nat} (hk : k < b 3) (hU : cgU b k = true) : zEv (d + 4) zmL_findTwins [.ref 262, .ref q, .int (nI k)] M = some (some (.int (nI 0)), M) := by
  have h12 := cg_12 hW hk
  have h6 := cgN_le hW hk
  have l53 : ∀ i, i < cgN b k → popc (b (112 + cgC b k i)) = 2 → h_L_findTwins_2 (d + 3) q (nI k) (nI (i + 1)) M = some (some (.int (nI 0)), M) → ∀ n j, j + n = cgN b k → i < j → h_L_findTwins_53 (d + 3) q (nI k) (nI i) (nI (cgC b k i)) (nI j) M = some (some (.int (nI 0)), M) := by
    intro i hi hp hout n
    have hci := cgC_lt hW hk hi
    have hmi := mk_lt hW hci
    induction n with
    | zero =>
      intro j h hij
      refine e_L_findTwins_53 hq ?_
      rw [if_pos ((n_zin (by omega)).mpr h12), n_clamp (by omega), (hB.2.2.2 k hk).1.2.1, if_neg (by rw [n_lt (by omega) (by omega)]; omega), n_add1]
      exact hout
    | succ n ih =>
      intro j h hij
      have hj : j < cgN b k := by omega
      have hc := cgC_lt hW hk hj
      have hm := mk_lt hW hc
      have hO := (hW.2.2.2.2.2 k hk).2.2.1 j hj
      refine e_L_findTwins_53 hq ?_
      rw [if_pos ((n_zin (by omega)).mpr h12), n_clamp (by omega), (hB.2.2.2 k hk).1.2.1, if_pos ((n_lt (by omega) (by omega)).mpr hj), if_pos ((n_zin (by omega)).mpr (by omega)), n_clamp (by omega), zLr, (hB.2.2.2 k hk).2 j hj, q_isDone (d := d) hq hB.sc hW.wk hD, zC1_some, doI_n hW hc hO, n_add1]
      by_cases hd : 0 < b (40 + cgC b k j)
      · rw [decide_eq_true hd, if_neg (show ¬ nB true = nI 0 by decide)]
        exact ih (j + 1) (by omega) (by omega)
      · rw [decide_eq_false hd, if_pos (show nB false = nI 0 from rfl), if_pos ((n_zin (by omega)).mpr hc), if_pos ((n_zin (by omega)).mpr hci), n_clamp (by omega), n_clamp (by omega), hB.2.2.1 _ hc, hB.2.2.1 _ hci]
        by_cases he : b (112 + cgC b k j) = b (112 + cgC b k i)
        · rw [if_pos (by rw [he]), q_elsewhere (d := d + 2) hq hW hB hk hi hj fun l hl hli hlj => twin_none hW hN hk hi hj hl hU (by omega) hli hlj hp he.symm, zC1_some, if_pos rfl]
          exact ih (j + 1) (by omega) (by omega)
        · rw [if_neg (by rw [n_eq (by omega) (by omega)]; exact he)]
          exact ih (j + 1) (by omega) (by omega)
  have : ∀ n i, i + n = cgN b k → h_L_findTwins_2 (d + 3) q (nI k) (nI i) M = some (some (.int (nI 0)), M) := by
    intro n
    induction n with
    | zero =>
      intro i h
      refine e_L_findTwins_2 hq ?_
      rw [if_pos ((n_zin (by omega)).mpr h12), n_clamp (by omega), (hB.2.2.2 k hk).1.2.1, if_neg (by rw [n_lt (by omega) (by omega)]; omega)]
    | succ n ih =>
      intro i h
      have hi : i < cgN b k := by omega
      have hc := cgC_lt hW hk hi
      have hm := mk_lt hW hc
      have hpl := popc_le (b (112 + cgC b k i))
      have hO := (hW.2.2.2.2.2 k hk).2.2.1 i hi
      refine e_L_findTwins_2 hq ?_
      rw [if_pos ((n_zin (by omega)).mpr h12), n_clamp (by omega), (hB.2.2.2 k hk).1.2.1, if_pos ((n_lt (by omega) (by omega)).mpr hi), if_pos ((n_zin (by omega)).mpr (by omega)), n_clamp (by omega), zLr, (hB.2.2.2 k hk).2 i hi, q_isDone (d := d) hq hB.sc hW.wk hD, zC1_some, doI_n hW hc hO, n_add1]
      by_cases hd : 0 < b (40 + cgC b k i)
      · rw [decide_eq_true hd, if_neg (show ¬ nB true = nI 0 by decide)]
        exact ih (i + 1) (by omega)
      · rw [decide_eq_false hd, if_pos (show nB false = nI 0 from rfl), if_pos ((n_zin (by omega)).mpr hc), n_clamp (by omega), hB.2.2.1 _ hc, q_bitI (d := d + 2) (by omega), zC1_some]
        by_cases hp : popc (b (112 + cgC b k i)) = 2
        · rw [if_pos (by rw [hp])]
          exact l53 i hi hp (ih (i + 1) (by omega)) n (i + 1) (by omega) (by omega)
        · rw [if_neg (by rw [n_eq (by omega) (by omega)]; exact hp)]
          exact ih (i + 1) (by omega)
  exact e_L_findTwins hq (this (cgN b k) 0 (by omega))
end QL3
