/-! THE CLASS, 54: what is asked of cells and cages -/
def pQy : Nat → Nat → Prop := fun a _ => 105 ≤ a ∧ a ≤ 637
def Sv (n : Nat) (M : ZM) : Prop := ∃ L, L ≤ n ∧ (RSI 127 M ∧ RSI 263 M) ∧ SGl L M
theorem rsi_out {r : Nat} {p p2 : Nat → Nat → Prop} {M M' : ZM} (h : RSI r M) (hf : fr p p2 M M') (hp : ∀ a k, p a k → a < r + 2 ∨ r + 131 < a) (hp2 : ∀ a k, p2 a k → a < r + 2 ∨ r + 131 < a) : RSI r M' :=
  ⟨fun k hk => (h.1 k hk).fr hf (fun a x h1 h2 h3 z => by have := hp a x z; omega) fun a x h1 h2 h3 z => by have := hp2 a x z; omega, h.2.fr hf (fun a x h1 h2 h3 z => by have := hp a x z; omega) fun a x h1 h2 h3 z => by have := hp2 a x z; omega⟩
theorem sgl_out {L : Nat} {p p2 : Nat → Nat → Prop} {M M' : ZM} (h : SGl L M) (hf : fr p p2 M M') (hp : ∀ a k, p a k → a < 411 ∨ 629 < a) (hp2 : ∀ a k, p2 a k → a < 411 ∨ 629 < a) : SGl L M' :=
  ⟨⟨rsi_out h.1.1 hf (fun a k z => by have := hp a k z; omega) fun a k z => by have := hp2 a k z; omega, (hf.2 411 11 fun z => by have := hp2 _ _ z; omega).trans h.1.2⟩, fun s hs => by
    obtain ⟨l, g, g1, g2⟩ := h.2 s hs
    exact ⟨l, g, by rw [hf.2 628 s fun z => by have := hp2 _ _ z; omega, hf.2 629 s fun z => by have := hp2 _ _ z; omega]; exact g1, g2⟩⟩
theorem Sv.out {n : Nat} {p p2 : Nat → Nat → Prop} {M M' : ZM} (h : Sv n M) (hf : fr p p2 M M') (hp : ∀ a k, p a k → a < 127 ∨ (258 < a ∧ a < 262) ∨ (394 < a ∧ a < 411) ∨ 629 < a) (hp2 : ∀ a k, p2 a k → a < 127 ∨ (258 < a ∧ a < 262) ∨ (394 < a ∧ a < 411) ∨ 629 < a) : Sv n M' := by
  obtain ⟨L, h1, ⟨h2, h3⟩, h4⟩ := h
  exact ⟨L, h1, ⟨rsi_out h2 hf (fun a k z => by have := hp a k z; omega) fun a k z => by have := hp2 a k z; omega, rsi_out h3 hf (fun a k z => by have := hp a k z; omega) fun a k z => by have := hp2 a k z; omega⟩, sgl_out h4 hf (fun a k z => by have := hp a k z; omega) fun a k z => by have := hp2 a k z; omega⟩
theorem Sv.le {n m : Nat} {M : ZM} (h : Sv n M) (hm : n ≤ m) : Sv m M := by
  obtain ⟨L, h1, h2⟩ := h
  exact ⟨L, Nat.le_trans h1 hm, h2⟩
theorem zk87 : zkd 87 = (1, 36) := zf_0_8 (q := 86) zk86
theorem zk93 {k : Nat} (hk : k < 12) : zkd (93 + k) = (1, 6) := qcl (q := 86) zk86 hk
section QX
variable {d n : Nat} {b : Nat → Nat} {M : ZM}
theorem c_tally (hB : BRep b 86 M) (hW : Wf b) {k : Nat} (hk : k < b 3) (hS : Sv n M) : ∃ M', zEv (d + 13) zmC_tallyNow [.ref 64, .int (nI k)] M = some (none, M') ∧ BY 259 (kC (ways b k)) M' ∧ Sv n M' ∧ fr pQy pQy M M' := by
  have h12 := cg_12 hW hk
  have hg := hW.2.2.2.2.2 k hk
  obtain ⟨L, s1, ⟨s2, s3⟩, s4⟩ := hS
  obtain ⟨M1, a1, a2, a3, a4⟩ := q_ready (d := d + 8) rsk_C zk86 hB hW hk s2
  have hB1 := hB.fr a4 hW.1.2.2.2 (fun a x z => by unfold pRu at z; omega) fun a x z => by unfold pRu at z; omega
  obtain ⟨M2, b1, b2, b3⟩ := q_tally (d := d) (y := 259) (show zkd 259 = (17, 0) by decide +kernel) (rsk_C.2 k h12) zk87 (zk93 h12) hg.1.1 hg.2.1.1 a2 (msr_B hB1 hW hk) (by omega) (by omega) (by omega)
  have eW : (wds ((List.range (cgN b k)).map (cgMs b k))).filter (accF (rl (b (148 + 10 * k)) (!cgU b k) (b (149 + 10 * k)) (cgN b k)) 0) = ways b k := (ways_wds hW hk).symm
  rw [eW] at b2
  have f1 : fr pQy pQy M M1 := a4.mono (fun a x z => by unfold pRu at z; unfold pQy; omega) fun a x z => by unfold pRu at z; unfold pQy; omega
  have f2 : fr pQy pQy M1 M2 := b3.mono (fun a x z => by unfold pY12 at z; unfold pQy; omega) fun a x z => by unfold pWg at z; unfold pQy; omega
  refine ⟨M2, e_C_tallyNow ?_, b2, ⟨L, s1, ⟨⟨fun k' hk' => (a3.1 k' hk').fr b3 (fun a x h1 h2 h3 => by unfold pY12; omega) fun a x h1 h2 h3 => by unfold pWg; omega, a3.2.fr b3 (fun a x h1 h2 h3 => by unfold pY12; omega) fun a x h1 h2 h3 => by unfold pWg; omega⟩, rsi_out (rsi_out s3 a4 (fun a x z => by unfold pRu at z; omega) fun a x z => by unfold pRu at z; omega) b3 (fun a x z => by unfold pY12 at z; omega) fun a x z => by unfold pWg at z; omega⟩, sgl_out (sgl_out s4 a4 (fun a x z => by unfold pRu at z; omega) fun a x z => by unfold pRu at z; omega) b3 (fun a x z => by unfold pY12 at z; omega) fun a x z => by unfold pWg at z; omega⟩, f1.trans f2⟩
  rw [a1, zC3_some, if_pos (rsk_C.2 k h12), if_pos ((n_zin (by omega)).mpr h12), n_clamp (by omega), b1, zC0_some]
theorem c_cell (hB : BRep b 86 M) (hW : Wf b) (hD : WfD b) (x y : Int32) : zEv (d + 5) zmC_cell [.ref 64, .int x, .int y] M = some (some (.int (spCell b x y)), M) := by
  unfold spCell
  refine e_C_cell ?_
  rw [q_isCell zk86 hB.sc hW.wk, zC1_some]
  cases hi : iI x (b 0 * b 1) with
  | false => rw [if_pos (show nB false = nI 0 from rfl)]; rfl
  | true =>
    have h36 := hW.n36
    obtain ⟨c, hc, rfl⟩ := iI_ex (by omega) hi
    have hc36 : c < 36 := by omega
    have hwc := hW.2.2.2.1 c hc36
    rw [if_neg (show ¬ nB true = nI 0 by decide), Bool.not_true, cond_false, n_toInt (by omega), Int.toNat_natCast]
    by_cases h0 : y = nI 0
    · rw [if_pos h0, if_pos h0, q_isOpen zk86 hB.sc hW.wk, zC1_some, oI_n (by omega)]
      have e : nI (1 - b (4 + c)) = nB (isO b c) := by
        unfold isO
        rw [decide_eq_true hc, Bool.true_and]
        by_cases e : b (4 + c) = 0
        · rw [e, decide_eq_true rfl]; rfl
        · rw [decide_eq_false e, show b (4 + c) = 1 by have := hwc.1.1; omega]; rfl
      rw [e]
      cases isO b c with
      | false => rw [if_pos (show nB false = nI 0 from rfl)]; rfl
      | true => rw [if_neg (show ¬ nB true = nI 0 by decide)]; rfl
    · rw [if_neg h0, if_neg h0]
      by_cases h1 : y = nI 1
      · rw [if_pos h1, if_pos h1, q_isDone zk86 hB.sc hW.wk hD, zC1_some]
        have e : doI b (nI c) = decide (0 < b (40 + c)) := by unfold doI; rw [hi, n_toInt (by omega), Int.toNat_natCast, Bool.true_and]
        rw [e]
        by_cases hd : 0 < b (40 + c)
        · rw [decide_eq_true hd, if_neg (show ¬ nB true = nI 0 by decide), q_digitOf zk86 hB hW.wk hc, zC1_some, (hD c hc36).2 hd, lst_pow _ (by omega) (by have := hwc.2.1.1; have := hW.1.2.2.1; omega)]
        · rw [decide_eq_false hd, if_pos (show nB false = nI 0 from rfl), show b (40 + c) = 0 by omega]
      · rw [if_neg h1, if_neg h1]
        by_cases h2 : y = nI 2
        · rw [if_pos h2, if_pos h2, q_isGiven zk86 hB.sc hW.wk, zC1_some]
          have e : gI b (nI c) = decide (b (76 + c) = 1) := by unfold gI; rw [hi, n_toInt (by omega), Int.toNat_natCast, Bool.true_and]
          rw [e]
          by_cases hg : b (76 + c) = 1
          · rw [decide_eq_true hg, if_neg (show ¬ nB true = nI 0 by decide), hg]
          · rw [decide_eq_false hg, if_pos (show nB false = nI 0 from rfl), show b (76 + c) = 0 by have := hwc.1.2; omega]
        · rw [if_neg h2, if_neg h2]
          by_cases h3 : y = nI 3
          · rw [if_pos h3, if_pos h3, if_pos ((n_zin (by omega)).mpr hc36), n_clamp (by omega), hB.2.2.1 c hc36]
          · rw [if_neg h3, if_neg h3]
            by_cases h4 : y = nI 4
            · rw [if_pos h4, if_pos h4, q_cagesOf zk86 hB hW.wk hc, zC1_some]
            · rw [if_neg h4, if_neg h4]
theorem ways_lt (hW : Wf b) {k : Nat} (hk : k < b 3) : (ways b k).length < 2147483648 := by have := ways_len hW hk; omega
theorem c_cage (hB : BRep b 86 M) (hW : Wf b) (hD : WfD b) (hS : Sv n M) (x y : Int32) : ∃ M', zEv (d + 14) zmC_cage [.ref 64, .int x, .int y] M = some (some (.int (spCage b x y)), M') ∧ Sv n M' ∧ fr pQy pQy M M' := by
  unfold spCage
  have h12 := hW.1.2.2.2
  cases hi : iI x (b 3) with
  | false =>
    refine ⟨M, e_C_cage ?_, hS, fr.refl⟩
    rw [q_isCage zk86 hB.sc hW.wk, hi, zC1_some, if_pos (show nB false = nI 0 from rfl)]
    rfl
  | true =>
    obtain ⟨k, hk, rfl⟩ := iI_ex (by omega) hi
    have hBk := (hB.2.2.2 k hk).1
    have h6 := cgN_le hW hk
    rw [Bool.not_true, cond_false, n_toInt (by omega), Int.toNat_natCast]
    have head : ∀ rr, (if y = (nI 0) then some (some (.int (nI (b (148 + 10 * k)))), M) else (if y = (nI 1) then some (some (.int (nI (b (149 + 10 * k)))), M) else (if y = (nI 2) then some (some (.int (nI (cgN b k))), M) else (if y = (nI 3) then (if nB (!cgU b k) = nI 0 then some (some (.int (nI 1)), M) else some (some (.int (nI 0)), M)) else (if y = (nI 4) then some (some (.int (nI (doneN b k))), M) else (if y = (nI 5) then zC0 (zEv (d + 13) zmC_tallyNow [.ref 64, .int (nI k)] M) (fun M22 => zC1 (zEv (d + 13) zmY_many [.ref 259] M22) (fun v25 M24 => some (some (.int v25), M24))) else (if y < (nI 10) then some (some (.int (-1 : Int32)), M) else (if (y - (nI 10)) < nI (cgN b k) then (if zin (y - (nI 10)) 6 = true then some (some (.int (M.1 (93 + k) (Int32.toNatClampNeg (y - (nI 10))))), M) else none) else some (some (.int (-1 : Int32)), M))))))))) = some rr → zEv (d + 14) zmC_cage [.ref 64, .int (nI k), .int y] M = some rr := fun rr hrr => by
      refine e_C_cage ?_
      rw [q_isCage zk86 hB.sc hW.wk, hi, zC1_some, if_neg (show ¬ nB true = nI 0 by decide), if_pos ((n_zin (by omega)).mpr (by omega)), n_clamp (by omega), if_pos ((n_zin (by omega)).mpr (by omega)), if_pos ((n_zin (by omega)).mpr (by omega)), if_pos ((n_zin (by omega)).mpr (by omega)), hBk.1.1, hBk.1.2, hBk.2.1, q_isAlike zk86 hB.sc hW.wk hk, zC1_some, q_doneIn zk86 hB hW hD hk, zC1_some]
      exact hrr
    by_cases h0 : y = nI 0
    · exact ⟨M, head _ (by rw [if_pos h0, if_pos h0]), hS, fr.refl⟩
    · rw [if_neg h0]
      by_cases h1 : y = nI 1
      · exact ⟨M, head _ (by rw [if_neg h0, if_pos h1, if_pos h1]), hS, fr.refl⟩
      · rw [if_neg h1]
        by_cases h2 : y = nI 2
        · exact ⟨M, head _ (by rw [if_neg h0, if_neg h1, if_pos h2, if_pos h2]), hS, fr.refl⟩
        · rw [if_neg h2]
          by_cases h3 : y = nI 3
          · refine ⟨M, head _ ?_, hS, fr.refl⟩
            rw [if_neg h0, if_neg h1, if_neg h2, if_pos h3, if_pos h3]
            have hu := (hW.2.2.2.2.2 k hk).1.2.2
            unfold cgU
            by_cases e : b (150 + 10 * k) = 1
            · rw [decide_eq_true e, if_pos (show nB (!true) = nI 0 by decide), e]
            · rw [decide_eq_false e, if_neg (show ¬ nB (!false) = nI 0 by decide), show b (150 + 10 * k) = 0 by omega]
          · rw [if_neg h3]
            by_cases h4 : y = nI 4
            · exact ⟨M, head _ (by rw [if_neg h0, if_neg h1, if_neg h2, if_neg h3, if_pos h4, if_pos h4]), hS, fr.refl⟩
            · rw [if_neg h4]
              by_cases h5 : y = nI 5
              · obtain ⟨M1, a1, a2, a3, a4⟩ := c_tally (d := d) hB hW hk hS
                refine ⟨M1, head _ ?_, a3, a4⟩
                rw [if_neg h0, if_neg h1, if_neg h2, if_neg h3, if_neg h4, if_pos h5, if_pos h5, a1, zC0_some, q_many (show zkd 259 = (17, 0) by decide +kernel) a2, zC1_some, kc_len (ways_dig hW hk)]
              · rw [if_neg h5]
                refine ⟨M, head _ ?_, hS, fr.refl⟩
                rw [if_neg h0, if_neg h1, if_neg h2, if_neg h3, if_neg h4, if_neg h5]
                by_cases h10 : y < nI 10
                · have h10' := h10
                  rw [Int32.lt_iff_toInt_lt, n_toInt (by omega)] at h10'
                  rw [if_pos h10, if_neg (by omega)]
                · have h10' := h10
                  rw [Int32.lt_iff_toInt_lt, n_toInt (by omega)] at h10'
                  rw [if_neg h10]
                  obtain ⟨v, hv, rfl⟩ : ∃ v, v < 2147483648 ∧ y = nI v := by
                    rcases n_ex y with z | z
                    · exact z
                    · omega
                  rw [n_toInt hv] at h10' ⊢
                  rw [n_sub (by omega), Int.toNat_natCast]
                  by_cases hl : v - 10 < cgN b k
                  · rw [if_pos ((n_lt (by omega) (by omega)).mpr hl), if_pos ((n_zin (by omega)).mpr (by omega)), n_clamp (by omega), (hB.2.2.2 k hk).2 (v - 10) hl, if_pos (by omega)]
                  · rw [if_neg (by rw [n_lt (by omega) (by omega)]; exact hl), if_neg (by omega)]
theorem c_has (hB : BRep b 86 M) (hW : Wf b) (hS : Sv n M) (x y : Int32) : ∃ M', zEv (d + 14) zmC_has [.ref 64, .int x, .int y] M = some (some (.int (spHas b x y)), M') ∧ Sv n M' ∧ fr pQy pQy M M' := by
  unfold spHas
  have h12 := hW.1.2.2.2
  have h27 := hW.1.2.2.1
  cases hi : iI x (b 3) with
  | false =>
    refine ⟨M, e_C_has ?_, hS, fr.refl⟩
    rw [q_isCage zk86 hB.sc hW.wk, hi, zC1_some, if_pos (show nB false = nI 0 from rfl)]
    rfl
  | true =>
    cases hj : iD y (b 2) with
    | false =>
      refine ⟨M, e_C_has ?_, hS, fr.refl⟩
      rw [q_isCage zk86 hB.sc hW.wk, hi, zC1_some, if_neg (show ¬ nB true = nI 0 by decide), q_isDigit zk86 hB.sc hW.wk, hj, zC1_some, if_pos (show nB false = nI 0 from rfl)]
      rfl
    | true =>
      obtain ⟨k, hk, rfl⟩ := iI_ex (by omega) hi
      obtain ⟨g, g1, g2, rfl⟩ := iD_ex (by omega) hj
      obtain ⟨M1, a1, a2, a3, a4⟩ := c_tally (d := d) hB hW hk hS
      refine ⟨M1, e_C_has ?_, a3, a4⟩
      rw [q_isCage zk86 hB.sc hW.wk, hi, zC1_some, if_neg (show ¬ nB true = nI 0 by decide), q_isDigit zk86 hB.sc hW.wk, hj, zC1_some, if_neg (show ¬ nB true = nI 0 by decide), a1, zC0_some, q_manyWith (show zkd 259 = (17, 0) by decide +kernel) a2 (by omega), zC1_some, kc_has (ways_dig hW hk) (by omega), Bool.true_and, cond_true, n_toInt (by omega), Int.toNat_natCast, n_toInt (by omega), Int.toNat_natCast]
theorem c_must (hB : BRep b 86 M) (hW : Wf b) (hS : Sv n M) (x : Int32) : ∃ M', zEv (d + 14) zmC_must [.ref 64, .int x] M = some (some (.int (spMust b x)), M') ∧ Sv n M' ∧ fr pQy pQy M M' := by
  unfold spMust
  have h12 := hW.1.2.2.2
  cases hi : iI x (b 3) with
  | false =>
    refine ⟨M, e_C_must ?_, hS, fr.refl⟩
    rw [q_isCage zk86 hB.sc hW.wk, hi, zC1_some, if_pos (show nB false = nI 0 from rfl)]
    rfl
  | true =>
    obtain ⟨k, hk, rfl⟩ := iI_ex (by omega) hi
    obtain ⟨M1, a1, a2, a3, a4⟩ := c_tally (d := d) hB hW hk hS
    have hIA := q_inAll (d := d + 12) (show zkd 259 = (17, 0) by decide +kernel) a2 fun s _ => kc_lt hW hk s
    rw [kc_must hW.1.2.2.1 (ways_top hW hk)] at hIA
    refine ⟨M1, e_C_must ?_, a3, a4⟩
    rw [q_isCage zk86 hB.sc hW.wk, hi, zC1_some, if_neg (show ¬ nB true = nI 0 by decide), a1, zC0_some, hIA, zC1_some, cond_true, n_toInt (by omega), Int.toNat_natCast]
theorem c_sets (hB : BRep b 86 M) (hW : Wf b) (hS : Sv n M) (x y : Int32) : ∃ M', zEv (d + 14) zmC_sets [.ref 64, .int x, .int y] M = some (some (.int (spSets b x y)), M') ∧ Sv n M' ∧ fr pQy pQy M M' := by
  unfold spSets
  have h12 := hW.1.2.2.2
  have em1 : (-1 : Int32).toInt = -1 := rfl
  cases hi : iI x (b 3) with
  | false =>
    refine ⟨M, e_C_sets ?_, hS, fr.refl⟩
    rw [q_isCage zk86 hB.sc hW.wk, hi, zC1_some, if_pos (show nB false = nI 0 from rfl)]
    rfl
  | true =>
    obtain ⟨k, hk, rfl⟩ := iI_ex (by omega) hi
    rw [Bool.not_true, cond_false, n_toInt (by omega), Int.toNat_natCast]
    by_cases h1 : y.toInt < -1
    · refine ⟨M, e_C_sets ?_, hS, fr.refl⟩
      rw [q_isCage zk86 hB.sc hW.wk, hi, zC1_some, if_neg (show ¬ nB true = nI 0 by decide), if_pos (by rw [Int32.lt_iff_toInt_lt, em1]; exact h1), if_pos h1]
    · obtain ⟨M1, a1, a2, a3, a4⟩ := c_tally (d := d) hB hW hk hS
      have hlt : ∀ s, s < 128 → kC (ways b k) s < 2147483648 := fun s _ => kc_lt hW hk s
      have hz : zkd 259 = (17, 0) := by decide +kernel
      have eS := kc_sets2 (ways_dig hW hk)
      have head : ∀ rr, (if y = (-1 : Int32) then zC1 (zEv (d + 13) zmY_manySets [.ref 259] M1) (fun v11 M10 => some (some (.int v11), M10)) else zC1 (zEv (d + 13) zmY_setAt [.ref 259, .int y] M1) (fun v14 M13 => some (some (.int v14), M13))) = some rr → zEv (d + 14) zmC_sets [.ref 64, .int (nI k), .int y] M = some rr := fun rr hrr => by
        refine e_C_sets ?_
        rw [q_isCage zk86 hB.sc hW.wk, hi, zC1_some, if_neg (show ¬ nB true = nI 0 by decide), if_neg (by rw [Int32.lt_iff_toInt_lt, em1]; exact h1), a1, zC0_some]
        exact hrr
      rw [if_neg h1]
      by_cases h2 : y = -1
      · refine ⟨M1, head _ ?_, a3, a4⟩
        rw [if_pos h2, if_pos h2, q_manySets hz a2 hlt, zC1_some, eS, List.length_map]
      · have h3 : ¬ y.toInt < 0 := fun z => h2 (by rw [← Int32.toInt_inj, em1]; omega)
        obtain ⟨v, hv, rfl⟩ : ∃ v, v < 2147483648 ∧ y = nI v := by
          rcases n_ex y with z | z
          · exact z
          · exact absurd z h3
        refine ⟨M1, head _ ?_, a3, a4⟩
        rw [if_neg h2, if_neg h2, q_setAt hz a2 hlt hv, zC1_some, eS, n_toInt hv, Int.toNat_natCast, List.getElem?_map]
        cases ((List.range 128).filter fun s => decide (0 < kC (ways b k) s))[v]? <;> rfl
theorem c_could (hB : BRep b 86 M) (hW : Wf b) (hS : Sv n M) (x y : Int32) : ∃ M', zEv (d + 14) zmC_could [.ref 64, .int x, .int y] M = some (some (.int (spCould b x y)), M') ∧ Sv n M' ∧ fr pQy pQy M M' := by
  unfold spCould
  have h12' := hW.1.2.2.2
  cases hi : iI x (b 3) with
  | false =>
    refine ⟨M, e_C_could ?_, hS, fr.refl⟩
    rw [q_isCage zk86 hB.sc hW.wk, hi, zC1_some, if_pos (show nB false = nI 0 from rfl)]
    rfl
  | true =>
    obtain ⟨k, hk, rfl⟩ := iI_ex (by omega) hi
    have h12 := cg_12 hW hk
    rw [cond_true, n_toInt (by omega), Int.toNat_natCast]
    have hpl := q_placeIn (d := d + 11) zk86 hB hW hk y
    cases hp : plI b k y with
    | none =>
      rw [hp] at hpl
      refine ⟨M, e_C_could ?_, hS, fr.refl⟩
      rw [q_isCage zk86 hB.sc hW.wk, hi, zC1_some, if_neg (show ¬ nB true = nI 0 by decide), hpl, zC1_some, if_pos (show pI none = -1 from rfl)]
    | some i =>
      rw [hp] at hpl
      have hlt := plI_lt hp
      obtain ⟨hy, hpc⟩ : 0 ≤ y.toInt ∧ plc b k y.toInt.toNat = some i := by
        unfold plI at hp
        by_cases z : 0 ≤ y.toInt
        · rw [if_pos z] at hp; exact ⟨z, hp⟩
        · rw [if_neg z] at hp; cases hp
      obtain ⟨h1, h2⟩ := plc_lt hpc
      have h6 := cgN_le hW hk
      have hc := cgC_lt hW hk h1
      have hyc : y = nI (cgC b k i) := by rw [← Int32.toInt_inj, n_toInt (by omega), h2]; omega
      have hg := hW.2.2.2.2.2 k hk
      obtain ⟨L, s1, ⟨s2, s3⟩, s4⟩ := hS
      obtain ⟨M1, a1, a2, a3, a4⟩ := q_ready (d := d + 9) rsk_C zk86 hB hW hk s2
      have hB1 := hB.fr a4 h12' (fun a x z => by unfold pRu at z; omega) fun a x z => by unfold pRu at z; omega
      obtain ⟨M2, b1, b2, b3⟩ := q_weigh (d := d + 10) (rsk_C.2 k h12) zk87 (zk93 h12) (cgD_ok b k) hg.2.1.1 a2.2 (msr_B hB1 hW hk)
      have hR2 : RRep (cgD b k) (cgN b k) (127 + 12 + 10 * k) M2 := RRep.fr a2.2 b2 fun _ _ z => z
      obtain ⟨M3, c1, c2, c3, c4⟩ := q_digitsAt (d := d + 11) (rsk_C.2 k h12) (cgD_ok b k) hR2 b3 h1 (show cgMs b k i < 256 from mk_lt hW hc)
      rw [dcg_digits (cgD_ok b k) hW hk h1 (cgD_cg hW hk)] at c1
      have hm2 : M2.1 87 (cgC b k i) = nI (cgMs b k i) := by
        rw [b2.1 87 _ (fun z => z), a4.1 87 _ (by unfold pRu; omega)]
        exact hB.2.2.1 _ hc
      have f1 : fr pQy pQy M M1 := a4.mono (fun a x z => by unfold pRu at z; unfold pQy; omega) fun a x z => by unfold pRu at z; unfold pQy; omega
      have f2 : fr pQy pQy M1 M2 := b2.mono (fun _ _ z => z.elim) fun a x z => by unfold pWg at z; unfold pQy; omega
      have f3 : fr pQy pQy M2 M3 := c2.mono (fun _ _ z => z.elim) fun a x z => by unfold pLd at z; unfold pQy; omega
      refine ⟨M3, e_C_could ?_, ⟨L, s1, ⟨⟨fun k' hk' => ((a3.1 k' hk').fr b2 (fun a x h1 h2 h3 z => z.elim) fun a x h1 h2 h3 => by unfold pWg; omega).fr c2 (fun a x h1 h2 h3 z => z.elim) fun a x h1 h2 h3 => by unfold pLd; omega, (a3.2.fr b2 (fun a x h1 h2 h3 z => z.elim) fun a x h1 h2 h3 => by unfold pWg; omega).fr c2 (fun a x h1 h2 h3 z => z.elim) fun a x h1 h2 h3 => by unfold pLd; omega⟩, rsi_out (rsi_out (rsi_out s3 a4 (fun a x z => by unfold pRu at z; omega) fun a x z => by unfold pRu at z; omega) b2 (fun a x z => z.elim) fun a x z => by unfold pWg at z; omega) c2 (fun a x z => z.elim) fun a x z => by unfold pLd at z; omega⟩, sgl_out (sgl_out (sgl_out s4 a4 (fun a x z => by unfold pRu at z; omega) fun a x z => by unfold pRu at z; omega) b2 (fun a x z => z.elim) fun a x z => by unfold pWg at z; omega) c2 (fun a x z => z.elim) fun a x z => by unfold pLd at z; omega⟩, (f1.trans f2).trans f3⟩
      rw [q_isCage zk86 hB.sc hW.wk, hi, zC1_some, if_neg (show ¬ nB true = nI 0 by decide), hpl, pI_some, zC1_some, if_neg (n_nem1 (by omega)), a1, zC3_some, if_pos (rsk_C.2 k h12), if_pos ((n_zin (by omega)).mpr h12), n_clamp (by omega), b1, zC1_some, hyc, if_pos ((n_zin (by omega)).mpr hc), n_clamp (by omega), hm2, c1, zC1_some]
theorem c_shared (hB : BRep b 86 M) (hW : Wf b) (x y : Int32) : zEv (d + 3) zmC_shared [.ref 64, .int x, .int y] M = some (some (.long (spShared b x y)), M) := by
  unfold spShared
  have h12 := hW.1.2.2.2
  refine e_C_shared ?_
  rw [q_isCage zk86 hB.sc hW.wk, zC1_some]
  cases hi : iI x (b 3) with
  | false => rw [if_pos (show nB false = nI 0 from rfl)]; rfl
  | true =>
    rw [if_neg (show ¬ nB true = nI 0 by decide), q_isCage zk86 hB.sc hW.wk, zC1_some]
    cases hj : iI y (b 3) with
    | false => rw [if_pos (show nB false = nI 0 from rfl)]; rfl
    | true =>
      obtain ⟨k, hk, rfl⟩ := iI_ex (by omega) hi
      obtain ⟨l, hl, rfl⟩ := iI_ex (by omega) hj
      rw [if_neg (show ¬ nB true = nI 0 by decide), Bool.and_true, cond_true]
      by_cases e : nI k = nI l
      · rw [if_pos e, if_pos e]
      · rw [if_neg e, if_neg e, if_pos ((n_zin (by omega)).mpr (by omega)), if_pos ((n_zin (by omega)).mpr (by omega)), n_clamp (by omega), n_clamp (by omega), (hB.2.2.2 k hk).1.2.2, (hB.2.2.2 l hl).1.2.2, l_and, n_toInt (by omega), n_toInt (by omega), Int.toNat_natCast, Int.toNat_natCast]
        have em : iM b k &&& iM b l = msk 36 fun c => inC b k c && inC b l c := by
          apply Nat.eq_of_testBit_eq
          intro z
          unfold iM
          rw [Nat.testBit_and, msk_bit, msk_bit, msk_bit]
          cases decide (z < 36) <;> cases inC b k z <;> cases inC b l z <;> rfl
        rw [em]
end QX
