/-! THE CLASS, 55: counts, combos, steps foreseen, broken -/
theorem cntN_sum {b : Nat → Nat} {w : Nat} : ∀ n, cntN b w n = sumF (fun c => if isO b c = true then cntG b w c else 0) n
  | 0 => rfl
  | n + 1 => by
    show cntN b w n + _ = sumF _ n + _
    rw [cntN_sum n]
theorem cntO_36 {b : Nat → Nat} (hN : b 0 * b 1 ≤ 36) {w : Nat} : cntO b w = sumF (fun c => if isO b c = true then cntG b w c else 0) 36 := by
  unfold cntO
  rw [cntN_sum]
  have := sumF_cut (f := fun c => if isO b c = true then cntG b w c else 0) (m := b 0 * b 1) (36 - b 0 * b 1) fun p h1 _ => if_neg (by unfold isO; rw [decide_eq_false (by omega), Bool.false_and]; decide)
  rw [← this, show b 0 * b 1 + (36 - b 0 * b 1) = 36 by omega]
theorem cnt_open {b : Nat → Nat} (hN : b 0 * b 1 ≤ 36) : cntO b 3 = openN b := by
  rw [cntO_36 hN, show openN b = sumF (fun x => if isO b x = true then 1 else 0) 36 from (sumF_filter (isO b) 36).symm]
  exact sumF_congr fun c _ => by
    by_cases h : isO b c = true
    · rw [if_pos h, if_pos h]; rfl
    · rw [if_neg h, if_neg h]
theorem cnt_given {b : Nat → Nat} (hW : Wf b) : cntO b 5 = ((List.range 36).filter fun c => decide (b (76 + c) = 1)).length := by
  rw [cntO_36 hW.n36, ← sumF_filter]
  exact sumF_congr fun c hc => by
    have hwc := hW.2.2.2.1 c hc
    by_cases h : isO b c = true
    · rw [if_pos h]
      show b (76 + c) = _
      by_cases e : b (76 + c) = 1
      · rw [if_pos (decide_eq_true e), e]
      · rw [if_neg (by rw [decide_eq_false e]; decide)]; have := hwc.1.2; omega
    · rw [Bool.not_eq_true] at h
      rw [if_neg (by rw [h]; decide), (hwc.2.2 h).2.2, if_neg (by decide)]
theorem cnt_done {b : Nat → Nat} (hW : Wf b) : cntO b 6 = ((List.range 36).filter fun c => decide (0 < b (40 + c))).length := by
  rw [cntO_36 hW.n36, ← sumF_filter]
  exact sumF_congr fun c hc => by
    have hwc := hW.2.2.2.1 c hc
    by_cases h : isO b c = true
    · rw [if_pos h]
      show (if 0 < b (40 + c) then 1 else 0) = _
      by_cases e : 0 < b (40 + c)
      · rw [if_pos e, if_pos (decide_eq_true e)]
      · rw [if_neg e, if_neg (by rw [decide_eq_false e]; decide)]
    · rw [Bool.not_eq_true] at h
      rw [if_neg (by rw [h]; decide), (hwc.2.2 h).2.1, if_neg (by decide)]
theorem gp_or {b : Nat → Nat} (hD : WfD b) : gM b ||| pM b = msk 36 fun c => decide (0 < b (40 + c)) := by
  unfold gM pM
  rw [msk_or]
  refine msk_congr fun c hc => ?_
  by_cases e : b (76 + c) = 1
  · rw [decide_eq_true e, decide_eq_true ((hD c hc).1 e)]; rfl
  · rw [decide_eq_false e, decide_eq_true (show b (76 + c) ≠ 1 from e), Bool.false_or, Bool.and_true]
theorem told_eq {b : Nat → Nat} (hW : Wf b) : decide (0 < b 0) = decide (0 < b 2) := by
  by_cases h : 0 < b 2
  · have := (hW.2.2.1 h).1
    rw [decide_eq_true h, decide_eq_true (by omega)]
  · have := (hW.2.1 (by omega)).1
    rw [decide_eq_false h, decide_eq_false (by omega)]
theorem comb_k : ∀ e, e < 128 → ∀ s, s < 3 → kTot s e = tot s (digs (2 * e)) := by decide +kernel
theorem stp_0 {b : Nat → Nat} (h : (stp b).1 = 0) : stp b = stp0 := by
  unfold stp at h ⊢
  cases hb : brk b with
  | true => rfl
  | false =>
    rw [hb, cond_false] at h
    rw [cond_false]
    cases hA : fdA b with
    | some c => rw [hA] at h; cases h
    | none =>
      rw [hA] at h
      cases hF : fdW b with
      | some k => rw [hF] at h; cases h
      | none => rfl
theorem iI_if {x : Int32} {n : Nat} : iI x n = true ↔ 0 ≤ x.toInt ∧ x.toInt < (n : Int) := by
  unfold iI
  rw [Bool.and_eq_true, decide_eq_true_iff, decide_eq_true_iff]
section QX2
variable {d n : Nat} {b : Nat → Nat} {M : ZM}
theorem c_count (hB : BRep b 86 M) (hW : Wf b) (hD : WfD b) {u : Nat} {tp : List Nat} {k0 k1 : Bool} (hu : M.1 64 5 = nI u) (ht : CTp tp M) (hk : M.1 64 7 = nI ((bif k0 then 1 else 0) + (bif k1 then 2 else 0))) (x : Int32) : zEv (d + 4) zmC_count [.ref 64, .int x] M = some (some (.int (spCount b u (nI tp.length) k0 k1 x)), M) := by
  unfold spCount
  have hmm := q_manyMarks (d := d) zk86 hB hW.wk
  have e7 : cntO b 7 = sumF (fun c => if isO b c = true then popc (b (112 + c)) else 0) 36 := by
    rw [cntO_36 hW.n36]
    rfl
  refine e_C_count ?_
  rw [hB.1.1.1, hB.1.1.2, hB.1.2.1, hB.1.2.2, hB.2.1.1.1, hB.2.1.1.2, hB.2.1.2.1, l_or, gp_or hD, hu, hk]
  unfold oM gM
  rw [q_bitL (Nat.lt_trans (msk36 _) (by omega)), q_bitL (Nat.lt_trans (msk36 _) (by omega)), q_bitL (Nat.lt_trans (msk36 _) (by omega)), zC1_some, zC1_some, zC1_some, cnt_msk, cnt_msk, cnt_msk, hmm, zC1_some, cnt_open hW.n36, cnt_given hW, cnt_done hW, e7]
  have hl : zEv (d + 3) zmT_length [.ref 65] M = some (some (.int (nI tp.length)), M) := by
    have := e_T_length (d := d + 2) (M := M) rfl
    rw [ht.1.1] at this
    exact this
  rw [hl, zC1_some]
  by_cases h0 : x = nI 0
  · rw [if_pos h0, if_pos h0]
  rw [if_neg h0, if_neg h0]
  by_cases h1 : x = nI 1
  · rw [if_pos h1, if_pos h1]
  rw [if_neg h1, if_neg h1]
  by_cases h2 : x = nI 2
  · rw [if_pos h2, if_pos h2]
  rw [if_neg h2, if_neg h2]
  by_cases h3 : x = nI 3
  · rw [if_pos h3, if_pos h3]
    rfl
  rw [if_neg h3, if_neg h3]
  by_cases h4 : x = nI 4
  · rw [if_pos h4, if_pos h4]
  rw [if_neg h4, if_neg h4]
  by_cases h5 : x = nI 5
  · rw [if_pos h5, if_pos h5]
  rw [if_neg h5, if_neg h5]
  by_cases h6 : x = nI 6
  · rw [if_pos h6, if_pos h6]
  rw [if_neg h6, if_neg h6]
  by_cases h7 : x = nI 7
  · rw [if_pos h7, if_pos h7]
  rw [if_neg h7, if_neg h7]
  by_cases h8 : x = nI 8
  · rw [if_pos h8, if_pos h8]
  rw [if_neg h8, if_neg h8]
  by_cases h9 : x = nI 9
  · rw [if_pos h9, if_pos h9]
  rw [if_neg h9, if_neg h9]
  by_cases h10 : x = nI 10
  · rw [if_pos h10, if_pos h10]
  rw [if_neg h10, if_neg h10]
theorem c_combos_38 (hB : BRep b 86 M) (hW : Wf b) {s m : Nat} (hs : s < 3) (hm : m ≤ 6) (z : Int32) : ∀ j e acc, e + j = 2 ^ b 2 → 1 ≤ e → h_C_combos_38 (d + 1) (nI s) (nI m) z (nI acc) (nI (2 * e)) M = some (some (.int (nI (acc + (List.range' e j).countP fun e => combT s m z (2 * e)))), M) := by
  have h27 := hW.1.2.2.1
  have hp7 : 2 ^ b 2 ≤ 2 ^ 7 := Nat.pow_le_pow_right (by omega) h27
  have hall : allM b = 2 * 2 ^ b 2 - 2 := by unfold allM; rw [Nat.pow_succ, Nat.mul_comm]
  intro j
  induction j with
  | zero =>
    intro e acc h h1
    refine e_C_combos_38 ?_
    rw [q_allDigits zk86 hB.1.2.1 hW.wk, zC1_some, hall, if_pos ((n_lt (by omega) (by omega)).mpr (by omega))]
    rfl
  | succ j ih =>
    intro e acc h h1
    have he : e < 128 := by omega
    have hpl := popc_le (2 * e)
    have ih0 := fun acc => ih (e + 1) acc (by omega) (by omega)
    rw [show 2 * (e + 1) = 2 * e + 2 by omega] at ih0
    refine e_C_combos_38 ?_
    rw [q_allDigits zk86 hB.1.2.1 hW.wk, zC1_some, hall, if_neg (by rw [n_lt (by omega) (by omega)]; omega), q_bitI (by omega), zC1_some, q_totalOfSet (by omega) h1 he, zC1_some, n_add, n_add, List.range'_succ, List.countP_cons]
    have hc : combT s m z (2 * e) = (decide (popc (2 * e) = m) && decide (nI (kTot s e) = z)) := by unfold combT; rw [comb_k e he s hs]
    rw [hc]
    by_cases h2 : popc (2 * e) = m
    · rw [if_pos (by rw [h2]), decide_eq_true h2, Bool.true_and]
      by_cases h3 : nI (kTot s e) = z
      · rw [if_pos h3, decide_eq_true h3, if_pos rfl, ih0, Nat.add_assoc, Nat.add_comm 1]
      · rw [if_neg h3, decide_eq_false h3, if_neg (by decide), ih0]
        rfl
    · rw [if_neg (by rw [n_eq (by omega) (by omega)]; exact h2), decide_eq_false h2, Bool.false_and, if_neg (by decide), ih0]
      rfl
theorem c_combos (hB : BRep b 86 M) (hW : Wf b) (x y z : Int32) : zEv (d + 2) zmC_combos [.ref 64, .int x, .int y, .int z] M = some (some (.int (spCombos b x y z)), M) := by
  unfold spCombos
  refine e_C_combos ?_
  rw [q_isTold zk86 hB.sc hW.wk, told_eq hW, zC1_some]
  cases ht : decide (0 < b 2) with
  | false => rw [if_pos (show nB false = nI 0 from rfl)]; rfl
  | true =>
    rw [if_neg (show ¬ nB true = nI 0 by decide), Bool.true_and]
    cases hx : iI x 3 with
    | false =>
      have hx' : ¬ iI x 3 = true := by rw [hx]; decide
      rw [iI_if] at hx'
      rw [Bool.false_and, cond_false]
      by_cases h0 : x < nI 0
      · rw [if_pos h0]
      · rw [if_neg h0, if_pos]
        rw [Int32.lt_iff_toInt_lt, n_toInt (by omega)] at h0 ⊢
        omega
    | true =>
      obtain ⟨s, hs, rfl⟩ := iI_ex (by omega) hx
      rw [if_neg (by rw [n_lt (by omega) (by omega)]; omega), if_neg (by rw [n_lt (by omega) (by omega)]; omega), Bool.true_and]
      cases hy : iD y 6 with
      | false =>
        have hy' : ¬ (1 ≤ y.toInt ∧ y.toInt ≤ 6) := fun w => by
          have : iD y 6 = true := by unfold iD; rw [decide_eq_true w.1, decide_eq_true (show y.toInt ≤ ((6 : Nat) : Int) from w.2)]; rfl
          rw [hy] at this; cases this
        rw [cond_false]
        by_cases h0 : y < nI 1
        · rw [if_pos h0]
        · rw [if_neg h0, if_pos]
          rw [Int32.lt_iff_toInt_lt, n_toInt (by omega)] at h0 ⊢
          omega
      | true =>
        obtain ⟨m, m1, m2, rfl⟩ := iD_ex (by omega) hy
        have hp2 : 1 ≤ 2 ^ b 2 := Nat.one_le_two_pow
        rw [if_neg (by rw [n_lt (by omega) (by omega)]; omega), if_neg (by rw [n_lt (by omega) (by omega)]; omega), cond_true, n_toInt (by omega), n_toInt (by omega), Int.toNat_natCast, Int.toNat_natCast]
        have := c_combos_38 (d := d) hB hW hs m2 z (2 ^ b 2 - 1) 1 0 (by omega) (Nat.le_refl 1)
        rw [Nat.zero_add] at this
        exact this
theorem fr_L {M' : ZM} (f : fr pLg pLg M M') : fr pQy pQy M M' := f.mono (fun a x z => by unfold pLg at z; unfold pQy; omega) fun a x z => by unfold pLg at z; unfold pQy; omega
theorem Sv.lg {M' : ZM} (h : Sv n M) (f : fr pLg pLg M M') (hI : RSI 263 M') : Sv n M' := by
  obtain ⟨L, h1, ⟨h2, h3⟩, h4⟩ := h
  exact ⟨L, h1, ⟨rsi_out h2 f (fun a k z => by unfold pLg at z; omega) fun a k z => by unfold pLg at z; omega, hI⟩, sgl_out h4 f (fun a k z => by unfold pLg at z; omega) fun a k z => by unfold pLg at z; omega⟩
theorem c_next (hB : BRep b 86 M) (hW : Wf b) (hD : WfD b) (hS : Sv n M) (x : Int32) : ∃ M', zEv (d + 15) zmC_next [.ref 64, .int x] M = some (some (.int (spNext b x)), M') ∧ Sv n M' ∧ fr pQy pQy M M' := by
  unfold spNext
  have hI : RSI 263 M := by obtain ⟨L, _, ⟨_, h3⟩, _⟩ := hS; exact h3
  obtain ⟨M1, a1, ⟨a2, a3⟩, a4, a5⟩ := q_find (d := d) zk86 (by omega) hW hD hB hI
  have head : ∀ rr, (if nB (decide (0 < b 2)) = nI 0 then some (some (.int (-1 : Int32)), M) else (if x < nI 0 then some (some (.int (-1 : Int32)), M) else (if nI 3 < x then some (some (.int (-1 : Int32)), M) else (if x = (nI 0) then some (some (.int (M1.1 262 5)), M1) else (if (M1.1 262 5) = (nI 0) then some (some (.int (-2 : Int32)), M1) else (if x = (nI 1) then some (some (.int (M1.1 262 6)), M1) else (if x = (nI 2) then some (some (.int (M1.1 262 7)), M1) else some (some (.int (M1.1 262 8)), M1)))))))) = some rr → zEv (d + 15) zmC_next [.ref 64, .int x] M = some rr := fun rr hrr => by
    refine e_C_next ?_
    rw [q_isTold zk86 hB.sc hW.wk, told_eq hW, zC1_some, a1, zC0_some]
    exact hrr
  cases ht : decide (0 < b 2) with
  | false =>
    refine ⟨M, head _ ?_, hS, fr.refl⟩
    rw [ht, if_pos (show nB false = nI 0 from rfl)]
    rfl
  | true =>
    rw [ht, if_neg (show ¬ nB true = nI 0 by decide)] at head
    rw [Bool.true_and]
    cases hx : iI x 4 with
    | false =>
      have hx' : ¬ iI x 4 = true := by rw [hx]; decide
      rw [iI_if] at hx'
      refine ⟨M, head _ ?_, hS, fr.refl⟩
      rw [cond_false]
      by_cases h0 : x < nI 0
      · rw [if_pos h0]
      · rw [if_neg h0, if_pos]
        rw [Int32.lt_iff_toInt_lt, n_toInt (by omega)] at h0 ⊢
        omega
    | true =>
      obtain ⟨v, hv, rfl⟩ := iI_ex (by omega) hx
      have hk2 := stp_kd b
      refine ⟨M1, head _ ?_, hS.lg a5 a4, fr_L a5⟩
      rw [if_neg (by rw [n_lt (by omega) (by omega)]; omega), if_neg (by rw [n_lt (by omega) (by omega)]; omega), cond_true, a3.1]
      by_cases h0 : nI v = nI 0
      · rw [if_pos h0, if_pos h0]
      · rw [if_neg h0, if_neg h0]
        by_cases hz : (stp b).1 = 0
        · rw [hz, if_pos rfl, stp_0 hz]
          by_cases h1 : nI v = nI 1
          · rw [if_pos h1]; rfl
          · rw [if_neg h1]
            by_cases h2 : nI v = nI 2
            · rw [if_pos h2]; rfl
            · rw [if_neg h2]; rfl
        · obtain ⟨⟨g1, g2⟩, g3⟩ := a3.2 hz
          rw [if_neg (by rw [n_eq (by omega) (by omega)]; exact hz), g1, g2, g3]
          by_cases h1 : nI v = nI 1
          · rw [if_pos h1, if_pos h1]
          · rw [if_neg h1, if_neg h1]
            by_cases h2 : nI v = nI 2
            · rw [if_pos h2, if_pos h2]
            · rw [if_neg h2, if_neg h2]
theorem c_broken (hB : BRep b 86 M) (hW : Wf b) (hS : Sv n M) (x : Int32) : ∃ M', zEv (d + 7) zmC_broken [.ref 64, .int x] M = some (some (.int (spBroken b x)), M') ∧ Sv n M' ∧ fr pQy pQy M M' := by
  unfold spBroken
  have hI : RSI 263 M := by obtain ⟨L, _, ⟨_, h3⟩, _⟩ := hS; exact h3
  obtain ⟨M1, a1, a2, a4, a5⟩ := q_study (d := d) zk86 (by omega) hW hB hI
  have head : ∀ rr, (if nB (decide (0 < b 2)) = nI 0 then some (some (.int (-1 : Int32)), M) else (if x < nI 0 then some (some (.int (-1 : Int32)), M) else (if nI 2 < x then some (some (.int (-1 : Int32)), M) else (if x = (nI 0) then (if nB (brk b) = nI 0 then some (some (.int (nI 0)), M1) else some (some (.int (nI 1)), M1)) else (if x = (nI 1) then some (some (.int (pO (cgWo b))), M1) else some (some (.int (pO (clWo b))), M1)))))) = some rr → zEv (d + 7) zmC_broken [.ref 64, .int x] M = some rr := fun rr hrr => by
    refine e_C_broken ?_
    rw [q_isTold zk86 hB.sc hW.wk, told_eq hW, zC1_some, a1, zC0_some, q_LisBroken a2 hW, zC1_some, a2.1.1, a2.1.2]
    exact hrr
  cases ht : decide (0 < b 2) with
  | false =>
    refine ⟨M, head _ ?_, hS, fr.refl⟩
    rw [ht, if_pos (show nB false = nI 0 from rfl)]
    rfl
  | true =>
    rw [ht, if_neg (show ¬ nB true = nI 0 by decide)] at head
    rw [Bool.true_and]
    cases hx : iI x 3 with
    | false =>
      have hx' : ¬ iI x 3 = true := by rw [hx]; decide
      rw [iI_if] at hx'
      refine ⟨M, head _ ?_, hS, fr.refl⟩
      rw [cond_false]
      by_cases h0 : x < nI 0
      · rw [if_pos h0]
      · rw [if_neg h0, if_pos]
        rw [Int32.lt_iff_toInt_lt, n_toInt (by omega)] at h0 ⊢
        omega
    | true =>
      obtain ⟨v, hv, rfl⟩ := iI_ex (by omega) hx
      refine ⟨M1, head _ ?_, hS.lg a5 a4, fr_L a5⟩
      rw [if_neg (by rw [n_lt (by omega) (by omega)]; omega), if_neg (by rw [n_lt (by omega) (by omega)]; omega), cond_true]
      by_cases h0 : nI v = nI 0
      · rw [if_pos h0, if_pos h0]
        cases brk b with
        | false => rw [if_pos (show nB false = nI 0 from rfl)]; rfl
        | true => rw [if_neg (show ¬ nB true = nI 0 by decide)]; rfl
      · rw [if_neg h0, if_neg h0]
        by_cases h1 : nI v = nI 1
        · rw [if_pos h1, if_pos h1]
        · rw [if_neg h1, if_neg h1]
end QX2
