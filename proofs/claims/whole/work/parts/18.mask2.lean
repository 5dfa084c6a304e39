/-! THE MODEL, 7: has, could, must, sets, shared -/
theorem pI_some {i : Nat} : pI (some i) = nI i := rfl
section MQ2
variable {d : Nat} {M : ZM} {b : Nat → Nat}
theorem s_has (hR : MR b M) (hW : Wf b) (x y : Int32) : ∃ M', zEv (d + 13) zmM_has [.ref 866, .int x, .int y] M = some (some (.int (spHas b x y)), M') ∧ frI pS M M' := by
  unfold spHas
  cases hi : iI x (b 3) with
  | false =>
    refine ⟨M, ?_, fr.refl⟩
    refine e_M_has ?_
    simp only [s_isCage hR hW, zC1_some, nB0, hi, if_true]
    rfl
  | true =>
    have h12 := hW.1.2.2.2
    obtain ⟨k, hk, rfl⟩ := iI_ex (by omega) hi
    cases hd : iD y (b 2) with
    | false =>
      refine ⟨M, ?_, fr.refl⟩
      refine e_M_has ?_
      simp only [s_isCage hR hW, s_isDigit hR hW, zC1_some, nB0, hi, hd, if_true]
      rw [if_neg (by simp)]
      rfl
    | true =>
      have ht := hW.1.2.2.1
      obtain ⟨c, hc1, hc2, rfl⟩ := iD_ex (by omega) hd
      obtain ⟨Mw, hw1, hw2, hw3⟩ := s_laysWays (d := d + 1) hR hW hk
      refine ⟨Mw, ?_, frW_S hw3⟩
      refine e_M_has ?_
      simp only [s_isCage hR hW, s_isDigit hR hW, zC1_some, zC0_some, nB0, hi, hd, hw1, n_zin (show c < 2147483648 by omega), n_clamp (show c < 2147483648 by omega), hw2.2.1 c (by omega), n_toInt (show k < 2147483648 by omega), n_toInt (show c < 2147483648 by omega), Int.toNat_natCast, if_pos (show c < 8 by omega)]
      simp
theorem s_could (hR : MR b M) (hW : Wf b) (x y : Int32) : ∃ M', zEv (d + 13) zmM_could [.ref 866, .int x, .int y] M = some (some (.int (spCould b x y)), M') ∧ frI pS M M' := by
  unfold spCould
  cases hi : iI x (b 3) with
  | false =>
    refine ⟨M, ?_, fr.refl⟩
    refine e_M_could ?_
    simp only [s_isCage hR hW, zC1_some, nB0, hi, if_true]
    rfl
  | true =>
    have h12 := hW.1.2.2.2
    obtain ⟨k, hk, rfl⟩ := iI_ex (by omega) hi
    have h6 := cgN_le hW hk
    rw [cond_true, n_toInt (by omega), Int.toNat_natCast]
    have hp := pI_m1 (o := plI b k y) fun i h => by have := plI_lt h; omega
    cases hq : plI b k y with
    | none =>
      rw [hq] at hp
      refine ⟨M, ?_, fr.refl⟩
      refine e_M_could ?_
      simp only [s_isCage hR hW, zC1_some, nB0, hi, s_placeInI hR hW hk, hq]
      rw [if_neg (by simp), if_pos (hp.mpr rfl)]
    | some i =>
      rw [hq] at hp
      have hi6 := plI_lt hq
      obtain ⟨Mw, hw1, hw2, hw3⟩ := s_laysWays (d := d + 1) hR hW hk
      refine ⟨Mw, ?_, frW_S hw3⟩
      refine e_M_could ?_
      simp only [s_isCage hR hW, zC1_some, zC0_some, nB0, hi, s_placeInI hR hW hk, hq, hw1, s_placeInI (hR.frW hw3) hW hk]
      rw [if_neg (by simp), if_neg (fun z => by cases hp.mp z), pI_some, if_pos (by rw [n_zin (by omega)]; omega), n_clamp (by omega), hw2.2.2.1 i (by omega)]
theorem s_must (hR : MR b M) (hW : Wf b) (x : Int32) : ∃ M', zEv (d + 13) zmM_must [.ref 866, .int x] M = some (some (.int (spMust b x)), M') ∧ frI pS M M' := by
  unfold spMust
  cases hi : iI x (b 3) with
  | false =>
    refine ⟨M, ?_, fr.refl⟩
    refine e_M_must ?_
    simp only [s_isCage hR hW, zC1_some, nB0, hi, if_true]
    rfl
  | true =>
    have h12 := hW.1.2.2.2
    obtain ⟨k, hk, rfl⟩ := iI_ex (by omega) hi
    obtain ⟨Mw, hw1, hw2, hw3⟩ := s_laysWays (d := d + 1) hR hW hk
    refine ⟨Mw, ?_, frW_S hw3⟩
    refine e_M_must ?_
    simp only [s_isCage hR hW, zC1_some, zC0_some, nB0, hi, hw1, hw2.2.2.2.1, n_toInt (show k < 2147483648 by omega), Int.toNat_natCast]
    simp
/-- the sets met up to a number, and behind it -/
theorem s_sets_l {Wl : List (List Nat)} (hS : ∀ s, s < 256 → M.1 875 s = nB (Wl.any fun w => setOf w == s)) {y : Int32} (hy : ¬ y.toInt < -1) : ∀ j i n, i + j = 256 → n ≤ i → (∀ c : Nat, y = nI c → c < 2147483648 → n ≤ c) →
    h_M_sets_25 d y (nI n) (nI i) M = some (some (.int (if y = -1 then nI (n + ((List.range' i j).filter fun s => Wl.any fun w => setOf w == s).length) else match ((List.range' i j).filter fun s => Wl.any fun w => setOf w == s)[y.toInt.toNat - n]? with | some s => nI s | none => -2)), M) := by
  intro j
  induction j with
  | zero =>
    intro i n h hn hc
    refine e_M_sets_25 ?_
    rw [if_neg (by rw [n_lt (by omega) (by omega)]; omega)]
    by_cases hm : y = -1
    · rw [if_pos hm, if_pos hm]; rfl
    · rw [if_neg hm, if_neg hm]; rfl
  | succ j ih =>
    intro i n h hn hc
    refine e_M_sets_25 ?_
    rw [if_pos (by rw [n_lt (by omega) (by omega)]; omega), if_pos (by rw [n_zin (by omega)]; omega), n_clamp (by omega), hS i (by omega), List.range'_succ, List.filter_cons]
    simp only [nB0, n_add1]
    cases hb : (Wl.any fun w => setOf w == i) with
    | false =>
      rw [if_pos rfl, ih (i + 1) n (by omega) (by omega) hc]
      simp
    | true =>
      rw [if_neg (by simp)]
      by_cases hk : nI n = y
      · rw [if_pos hk]
        have hm : ¬ y = -1 := by rw [← hk]; exact n_nem1 (by omega)
        rw [if_neg hm, ← hk, n_toInt (by omega), Int.toNat_natCast, Nat.sub_self]
        simp
      · rw [if_neg hk, ih (i + 1) (n + 1) (by omega) (by omega) (fun c hc1 hc2 => by
          have := hc c hc1 hc2
          rcases Nat.lt_or_ge n c with q | q
          · omega
          · exact absurd (by rw [hc1]; congr 1; omega) hk)]
        by_cases hm : y = -1
        · rw [if_pos hm, if_pos hm]
          simp
          congr 1
          omega
        · rw [if_neg hm, if_neg hm]
          have hpos : n + 1 ≤ y.toInt.toNat := by
            rcases n_ex y with ⟨c, hc1, rfl⟩ | hneg
            · have := hc c rfl hc1
              rw [n_toInt hc1, Int.toNat_natCast]
              rcases Nat.lt_or_ge n c with q | q
              · omega
              · exact absurd (by congr 1; omega) hk
            · refine absurd ?_ hm
              rw [← Int32.toInt_inj]
              show y.toInt = -1
              omega
          rw [show y.toInt.toNat - n = (y.toInt.toNat - (n + 1)) + 1 by omega]
          simp
theorem s_sets (hR : MR b M) (hW : Wf b) (x y : Int32) : ∃ M', zEv (d + 13) zmM_sets [.ref 866, .int x, .int y] M = some (some (.int (spSets b x y)), M') ∧ frI pS M M' := by
  unfold spSets
  cases hi : iI x (b 3) with
  | false =>
    refine ⟨M, ?_, fr.refl⟩
    refine e_M_sets ?_
    simp only [s_isCage hR hW, zC1_some, nB0, hi, if_true]
    rfl
  | true =>
    have h12 := hW.1.2.2.2
    obtain ⟨k, hk, rfl⟩ := iI_ex (by omega) hi
    rw [Bool.not_true, cond_false, n_toInt (by omega), Int.toNat_natCast]
    have hlt : (y < (-1 : Int32)) ↔ y.toInt < -1 := Int32.lt_iff_toInt_lt
    by_cases hy : y.toInt < -1
    · refine ⟨M, ?_, fr.refl⟩
      refine e_M_sets ?_
      simp only [s_isCage hR hW, zC1_some, nB0, hi, hlt]
      rw [if_neg (by simp), if_pos hy, if_pos hy]
    · obtain ⟨Mw, hw1, hw2, hw3⟩ := s_laysWays (d := d + 1) hR hW hk
      refine ⟨Mw, ?_, frW_S hw3⟩
      refine e_M_sets ?_
      simp only [s_isCage hR hW, zC1_some, zC0_some, nB0, hi, hlt, hw1]
      rw [if_neg (by simp), if_neg hy, if_neg hy, s_sets_l hw2.2.2.2.2 hy 256 0 0 (by omega) (by omega) (fun _ _ _ => Nat.zero_le _)]
      unfold setsL
      rw [List.range_eq_range', Nat.zero_add, Nat.sub_zero]
      rfl
theorem msk_or {n : Nat} {p q : Nat → Bool} : msk n p ||| msk n q = msk n fun i => p i || q i := by
  apply Nat.eq_of_testBit_eq
  intro i
  rw [Nat.testBit_or, msk_bit, msk_bit, msk_bit]
  cases decide (i < n) <;> rfl
theorem s_shared_l (hR : MR b M) (hW : Wf b) {k1 k2 : Nat} (hk1 : k1 < b 3) (hk2 : k2 < b 3) : ∀ j i, i + j = cgN b k1 → h_M_shared_30 (d + 3) (nI k1) (nI k2) (nJ (msk 36 fun c => ((List.range i).any fun i => cgC b k1 i == c) && inC b k2 c)) (nI i) M = some (some (.long (nJ (msk 36 fun c => inC b k1 c && inC b k2 c))), M) := by
  have h1 := cg_12 hW hk1
  have h6 := cgN_le hW hk1
  intro j
  induction j with
  | zero =>
    intro i h
    refine e_M_shared_30 ?_
    simp only [s_ofN hR h1, zC1_some, n_lt (show i < 2147483648 by omega) (show cgN b k1 < 2147483648 by omega)]
    rw [if_neg (by omega)]
    obtain rfl : i = cgN b k1 := by omega
    congr 5
    refine msk_congr fun c _ => ?_
    congr 1
    rw [Bool.eq_iff_iff, inC_iff hW, List.any_eq_true]
    constructor
    · rintro ⟨i, h1, h2⟩; exact ⟨i, List.mem_range.mp h1, beq_iff_eq.mp h2⟩
    · rintro ⟨i, h1, h2⟩; exact ⟨i, List.mem_range.mpr h1, beq_iff_eq.mpr h2⟩
  | succ j ih =>
    intro i h
    refine e_M_shared_30 ?_
    have h36 := cgC_lt hW hk1 (show i < cgN b k1 by omega)
    have hp := pI_m1 (o := plc b k2 (cgC b k1 i)) fun i' e => by
      have := (plc_lt e).1
      have := cgN_le hW hk2
      omega
    have ih' := ih (i + 1) (by omega)
    simp only [s_ofN hR h1, zC1_some, n_lt (show i < 2147483648 by omega) (show cgN b k1 < 2147483648 by omega), s_cellOf hR h1 (show i < 6 by omega), s_placeIn hR hW hk2 (show cgC b k1 i < 2147483648 by omega), hp, n_add1, l_shl (show cgC b k1 i < 64 by omega), l_or, Nat.one_shiftLeft]
    rw [if_pos (by omega)]
    have hin : inC b k2 (cgC b k1 i) = (plc b k2 (cgC b k1 i)).isSome := rfl
    cases hq : plc b k2 (cgC b k1 i) with
    | none =>
      rw [if_pos rfl]
      rw [hq] at hin
      have e : (msk 36 fun c => ((List.range (i + 1)).any fun i => cgC b k1 i == c) && inC b k2 c) = msk 36 fun c => ((List.range i).any fun i => cgC b k1 i == c) && inC b k2 c := by
        refine msk_congr fun c _ => ?_
        rw [List.range_succ, List.any_append, List.any_cons, List.any_nil]
        by_cases hc : cgC b k1 i = c
        · rw [← hc, hin]; simp
        · rw [beq_eq_false_iff_ne.mpr hc]; simp
      rw [e] at ih'
      exact ih'
    | some z =>
      rw [if_neg (by simp)]
      rw [hq] at hin
      have e : (msk 36 fun c => ((List.range (i + 1)).any fun i => cgC b k1 i == c) && inC b k2 c) = (msk 36 fun c => ((List.range i).any fun i => cgC b k1 i == c) && inC b k2 c) ||| 2 ^ cgC b k1 i := by
        apply Nat.eq_of_testBit_eq
        intro c
        rw [Nat.testBit_or, msk_bit, msk_bit, Nat.testBit_two_pow, List.range_succ, List.any_append, List.any_cons, List.any_nil]
        by_cases hc : cgC b k1 i = c
        · subst hc
          rw [hin, decide_eq_true h36]
          simp
        · rw [beq_eq_false_iff_ne.mpr hc, decide_eq_false hc]
          simp
      rw [e] at ih'
      exact ih'
theorem s_shared (hR : MR b M) (hW : Wf b) (x y : Int32) : zEv (d + 4) zmM_shared [.ref 866, .int x, .int y] M = some (some (.long (spShared b x y)), M) := by
  refine e_M_shared ?_
  unfold spShared
  have h12 := hW.1.2.2.2
  cases hi : iI x (b 3) with
  | false =>
    simp only [s_isCage hR hW, zC1_some, nB0, hi, if_true]
    rfl
  | true =>
    cases hj : iI y (b 3) with
    | false =>
      simp only [s_isCage hR hW, zC1_some, nB0, hi, hj, if_true]
      rw [if_neg (by simp)]
      rfl
    | true =>
      obtain ⟨k1, hk1, rfl⟩ := iI_ex (by omega) hi
      obtain ⟨k2, hk2, rfl⟩ := iI_ex (by omega) hj
      simp only [s_isCage hR hW, zC1_some, nB0, hi, hj]
      rw [if_neg (by simp), if_neg (by simp), Bool.and_self, cond_true]
      by_cases he : nI k1 = nI k2
      · rw [if_pos he, if_pos he]
      · rw [if_neg he, if_neg he, n_toInt (by omega), n_toInt (by omega), Int.toNat_natCast, Int.toNat_natCast]
        have := s_shared_l (d := d) hR hW hk1 hk2 (cgN b k1) 0 (by omega)
        have e0 : (msk 36 fun c => ((List.range 0).any fun i => cgC b k1 i == c) && inC b k2 c) = 0 := by
          apply Nat.eq_of_testBit_eq
          intro i
          rw [msk_bit]
          simp
        rw [e0] at this
        exact this
end MQ2
