/-! THE MODEL, 14: wrong, idle -/
def pVR : Nat → Nat → Prop := fun a k => pV a k ∨ pR a k
theorem frV_VR {M M' : ZM} (h : frI pV M M') : frI pVR M M' := h.mono (fun _ _ z => Or.inl z) (fun _ _ z => z)
theorem frR_VR {M M' : ZM} (h : frI pR M M') : frI pVR M M' := h.mono (fun _ _ z => Or.inr z) (fun _ _ z => z)
theorem aside_back {b : Nat → Nat} {M M1 M2 M3 : ZM} (hR : MR b M) (f1 : frI pA M M1) (e1 : ∀ x, x < 268 → M1.1 871 x = M.1 867 x) (f2 : frI pVR M1 M2) (f3 : frI pR M2 M3) (e3 : ∀ x, x < 268 → M3.1 867 x = M2.1 871 x) : MR b M3 ∧ frI pS M M3 := by
  have r : MR b M3 := fun k hk => by
    rw [e3 k hk, f2.1 871 k (fun z => by unfold pVR pV pR at z; omega), e1 k hk]
    exact hR k hk
  refine ⟨r, fun a k h => ?_, fun a k h => ?_⟩
  · by_cases e : a = 867 ∧ k < 268
    · rw [e.1, r k e.2, hR k e.2]
    · rw [f3.1 a k (fun z => e z), f2.1 a k (fun z => by unfold pVR pV pR at z; unfold pS at h; omega), f1.1 a k (fun z => by unfold pA at z; unfold pS at h; omega)]
  · rw [f3.2 a k h, f2.2 a k h, f1.2 a k h]
theorem lst_lt (m : Nat) : lst m < 8 := by
  unfold lst
  cases h : (List.range' 1 7).find? fun i => m.testBit i with
  | none => show 0 < 8; omega
  | some i =>
    have := List.mem_of_find?_eq_some h
    rw [List.mem_range'_1] at this
    show i < 8
    omega
theorem dgt_lt (b : Nat → Nat) (x : Nat) : dgt b x < 8 := by
  unfold dgt
  split
  · omega
  · exact lst_lt _
/-- cells that don't go with what is given -/
def wrP (b s : Nat → Nat) (c : Nat) : Bool := isO b c && !(b (112 + c)).testBit (dgt s c)
def wrR (b s : Nat → Nat) (x : Int32) : Int32 := if x = nI 0 then nI ((List.range (b 0 * b 1)).filter (wrP b s)).length else pO ((List.range (b 0 * b 1)).filter (wrP b s)).head?
def spWrong (b : Nat → Nat) (x : Int32) : Int32 := bif decide (0 < b 2) && iI x 2 then (if (slv (clr b)).length = 1 then wrR b ((slv (clr b)).getD 0 fun _ => 0) x else -2) else -1
def idP (b : Nat → Nat) (c : Nat) : Bool := !decide (b (76 + c) = 0) && decide ((slv (setK (clr b) c (allM b))).length = 1)
def spIdle (b : Nat → Nat) : Int64 := bif decide (0 < b 2) then nJ (msk (b 0 * b 1) (idP b)) else -1
section MW
variable {d : Nat} {M : ZM} {b : Nat → Nat}
theorem s_wrong_l (hR : MR b M) (hW : Wf b) (x : Int32) {s : Nat → Nat} (hS : ∀ c, c < b 0 * b 1 → M.1 876 c = nI (dgt s c)) : ∀ j c, c + j = b 0 * b 1 → h_M_wrong_62 (d + 3) x (nI ((List.range c).filter (wrP b s)).length) (pO ((List.range c).filter (wrP b s)).head?) (nI c) M = some (some (.int (wrR b s x)), M) := by
  have h36 := hW.n36
  intro j
  induction j with
  | zero =>
    intro c h
    refine e_M_wrong_62 ?_
    simp only [s_cells hR, zC1_some, n_lt (show c < 2147483648 by omega) (show b 0 * b 1 < 2147483648 by omega)]
    rw [if_neg (by omega)]
    obtain rfl : c = b 0 * b 1 := by omega
    unfold wrR
    by_cases e : x = nI 0
    · rw [if_pos e, if_pos e]
    · rw [if_neg e, if_neg e]
  | succ j ih =>
    intro c h
    have hc : c < 36 := by omega
    have hmk := mk_lt hW hc
    have ih' := ih (c + 1) (by omega)
    rw [List.range_succ, List.filter_append] at ih'
    have hdg := dgt_lt s c
    have hS' := hS c (by omega)
    cases hO : isO b c with
    | false =>
      have hP : wrP b s c = false := by unfold wrP; rw [hO]; rfl
      rw [List.filter_cons_of_neg (by rw [hP]; simp), List.filter_nil, List.append_nil] at ih'
      refine e_M_wrong_62 ?_
      simp only [s_cells hR, zC1_some, n_lt (show c < 2147483648 by omega) (show b 0 * b 1 < 2147483648 by omega), s_isOpen hR hW (show c < 2147483648 by omega), hO, nB0, if_true, n_add1, ih']
      rw [if_pos (by omega)]
    | true =>
      cases hB : (b (112 + c)).testBit (dgt s c) with
      | true =>
        have hP : wrP b s c = false := by unfold wrP; rw [hB, Bool.not_true, Bool.and_false]
        rw [List.filter_cons_of_neg (by rw [hP]; simp), List.filter_nil, List.append_nil] at ih'
        refine e_M_wrong_62 ?_
        simp only [s_cells hR, zC1_some, n_lt (show c < 2147483648 by omega) (show b 0 * b 1 < 2147483648 by omega), s_isOpen hR hW (show c < 2147483648 by omega), hO, nB0, s_marks hR hc, n_zin (show c < 2147483648 by omega), n_clamp (show c < 2147483648 by omega), hS', s_holds (show b (112 + c) < 2147483648 by omega) (show dgt s c < 32 by omega), hB, n_add1, ih']
        simp only [if_pos (show c < b 0 * b 1 by omega), if_pos (show c < 1800 by omega)]
        rfl
      | false =>
        have hP : wrP b s c = true := by unfold wrP; rw [hO, hB]; rfl
        rw [List.filter_cons_of_pos (by rw [hP]), List.filter_nil] at ih'
        have e2 := pO_m2 (o := ((List.range c).filter (wrP b s)).head?) fun i h => by
          have h1 := List.mem_of_mem_head? h
          have h2 := List.mem_range.mp (List.mem_filter.mp h1).1
          omega
        refine e_M_wrong_62 ?_
        simp only [s_cells hR, zC1_some, n_lt (show c < 2147483648 by omega) (show b 0 * b 1 < 2147483648 by omega), s_isOpen hR hW (show c < 2147483648 by omega), hO, nB0, s_marks hR hc, n_zin (show c < 2147483648 by omega), n_clamp (show c < 2147483648 by omega), hS', s_holds (show b (112 + c) < 2147483648 by omega) (show dgt s c < 32 by omega), hB, n_add1, e2, if_true]
        simp only [if_pos (show c < b 0 * b 1 by omega), if_pos (show c < 1800 by omega)]
        rw [if_neg (show ¬ (true = false) by simp)]
        rw [List.length_append] at ih'
        cases hL : (List.range c).filter (wrP b s) with
        | nil =>
          rw [hL] at ih'
          exact ih'
        | cons y l =>
          rw [hL] at ih'
          exact ih'
theorem s_wrong (hR : MR b M) (hW : Wf b) (hV : WfV b) (x : Int32) : ∃ M', zEv (d + 50) zmM_wrong [.ref 866, .int x] M = some (some (.int (spWrong b x)), M') ∧ frI pS M M' := by
  unfold spWrong
  cases h2 : decide (0 < b 2) with
  | false =>
    refine ⟨M, ?_, fr.refl⟩
    refine e_M_wrong ?_
    simp only [s_isBoard hR hW, zC1_some, nB0, h2, if_true]
    rfl
  | true =>
    cases hx : iI x 2 with
    | false =>
      refine ⟨M, ?_, fr.refl⟩
      refine e_M_wrong ?_
      simp only [s_isBoard hR hW, zC1_some, nB0, h2, s_inI x (show 1 < 2147483648 by omega), hx, if_true]
      rfl
    | true =>
      obtain ⟨hWc, hVc⟩ := clr_w hW hV
      obtain ⟨M1, a1, a2, a3⟩ := s_putsAside (d := d + 48) M
      have r1 : MR b M1 := hR.fr a2 fun k _ z => by unfold pA at z; omega
      obtain ⟨M2, b1, b2, b3⟩ := s_clears (d := d + 45) r1 hW hV
      obtain ⟨M3, c1, c2, c3⟩ := s_solves (d := d) b3 hWc (m := 2) (by omega) (by omega)
      obtain ⟨M4, d1, d2, d3⟩ := s_takesBack (d := d + 48) M3
      obtain ⟨r4, f4⟩ := aside_back hR a2 a3 ((frR_VR b2).trans (frV_VR c2)) d2 d3
      refine ⟨M4, ?_, f4⟩
      have e1 : (nI (min 2 (slv (clr b)).length) = nI 1) ↔ (slv (clr b)).length = 1 := by
        rw [n_eq (by omega) (by omega)]
        omega
      refine e_M_wrong ?_
      simp only [s_isBoard hR hW, zC1_some, nB0, h2, s_inI x (show 1 < 2147483648 by omega), hx, a1, zC0_some, b1, c1, e1, d1]
      rw [if_neg (show ¬ (true = false) by simp), if_neg (show ¬ (true = false) by simp)]
      by_cases e : (slv (clr b)).length = 1
      · rw [if_pos e, Bool.and_true, cond_true, if_pos e]
        have hn : clr b 0 * clr b 1 = b 0 * b 1 := by rw [clr_ne hW (by omega), clr_ne hW (by omega)]
        exact s_wrong_l (d := d + 46) r4 hW x (s := (slv (clr b)).getD 0 fun _ => 0) (fun c hc => by
          rw [d2.1 876 c (fun z => by unfold pR at z; omega)]
          have := c3 0 (by omega) c (by rw [hn]; exact hc)
          rw [Nat.mul_zero, Nat.zero_add] at this
          exact this) (b 0 * b 1) 0 (by omega)
      · rw [if_neg e, Bool.and_true, cond_true, if_neg e]
theorem s_idle_l {B : Nat → Nat} (hW : Wf b) (hB : B = clr b) (hWB : Wf B) {M0 M1 : ZM} (hR0 : MR b M0) (f1 : frI pA M0 M1) (e1 : ∀ x, x < 268 → M1.1 871 x = M0.1 867 x) : ∀ j c (M : ZM), c + j = b 0 * b 1 → MR B M → frI pVR M1 M → ∃ M', h_M_idle_23 (d + 49) (nJ (msk c (idP b))) (nI c) M = some (some (.long (nJ (msk (b 0 * b 1) (idP b)))), M') ∧ frI pS M0 M' := by
  have h36 := hW.n36
  have hn : B 0 * B 1 = b 0 * b 1 := by rw [hB, clr_ne hW (by omega), clr_ne hW (by omega)]
  have hA : allM B = allM b := by unfold allM; rw [hB, clr_ne hW (by omega)]
  intro j
  induction j with
  | zero =>
    intro c M h hR hF
    obtain ⟨M4, d1, d2, d3⟩ := s_takesBack (d := d + 48) M
    obtain ⟨r4, f4⟩ := aside_back hR0 f1 e1 hF d2 d3
    refine ⟨M4, ?_, f4⟩
    refine e_M_idle_23 ?_
    simp only [s_cells hR, zC1_some, hn, n_lt (show c < 2147483648 by omega) (show b 0 * b 1 < 2147483648 by omega), d1, zC0_some]
    rw [if_neg (by omega)]
    obtain rfl : c = b 0 * b 1 := by omega
    rfl
  | succ j ih =>
    intro c M h hR hF
    have hc : c < 36 := by omega
    have eg : B (76 + c) = b (76 + c) := by rw [hB, clr_ne hW (by omega)]
    have hWC := hW.2.2.2.1 c hc
    have hg1 := hWC.1.2
    by_cases hg : b (76 + c) = 0
    · have hP : idP b c = false := by unfold idP; rw [decide_eq_true hg]; rfl
      obtain ⟨M', a1, a2⟩ := ih (c + 1) M (by omega) hR hF
      rw [msk_succ, hP, cond_false, Nat.or_zero] at a1
      refine ⟨M', ?_, a2⟩
      refine e_M_idle_23 ?_
      simp only [s_cells hR, zC1_some, hn, n_lt (show c < 2147483648 by omega) (show b 0 * b 1 < 2147483648 by omega), n_add, n_zin (show 76 + c < 2147483648 by omega), n_clamp (show 76 + c < 2147483648 by omega), hR (76 + c) (by omega), eg, hg, if_true, a1]
      rw [if_pos (by omega), if_pos (by omega)]
    · have hO : isO b c = true := by
        cases h0 : isO b c with
        | true => rfl
        | false => exact absurd (hWC.2.2 h0).2.2 hg
      have hOB : isO B c = true := by rw [hB, clr_isO hW]; exact hO
      have hpw : allM B < 2 ^ (B 2 + 1) := by
        have := Nat.one_le_two_pow (n := B 2 + 1)
        unfold allM
        omega
      have hpt : (allM B).testBit 0 = false := by
        have h3 : 2 ^ (B 2 + 1) = 2 * 2 ^ B 2 := by rw [Nat.pow_succ, Nat.mul_comm]
        unfold allM
        rw [Nat.testBit_zero]
        exact decide_eq_false (by omega)
      have r1 := mr_setK hR (c := c) (m := allM B)
      obtain ⟨M3, c1, c2, c3⟩ := s_solves (d := d) r1 (wf_setK hWB hOB hpw hpt) (m := 2) (by omega) (by omega)
      have r3 := mr_setK (r1.frS (frV_S c2)) (c := c) (m := B (112 + c))
      rw [setK_set, setK_self] at r3
      have ft : frI pVR M1 (zpi M3 867 (112 + c) (nI (B (112 + c)))) := ((hF.pi (show pVR 867 (112 + c) from Or.inr ⟨rfl, by omega⟩)).trans (frV_VR c2)).pi (Or.inr ⟨rfl, by omega⟩)
      obtain ⟨M', a1, a2⟩ := ih (c + 1) _ (by omega) r3 ft
      have e2 : (nI (min 2 (slv (setK B c (allM B))).length) = nI 1) ↔ (slv (setK B c (allM B))).length = 1 := by
        rw [n_eq (by omega) (by omega)]
        omega
      have ePl : (1 : Nat) <<< c = 2 ^ c := by rw [Nat.shiftLeft_eq, Nat.one_mul]
      have hPe : idP b c = decide ((slv (setK B c (allM B))).length = 1) := by
        unfold idP
        rw [decide_eq_false hg, hA, hB]
        rfl
      rw [msk_succ, hPe] at a1
      refine ⟨M', ?_, a2⟩
      refine e_M_idle_23 ?_
      simp only [s_cells hR, zC1_some, hn, n_lt (show c < 2147483648 by omega) (show b 0 * b 1 < 2147483648 by omega), n_add, n_zin (show 76 + c < 2147483648 by omega), n_clamp (show 76 + c < 2147483648 by omega), hR (76 + c) (by omega), eg, n_eq (show b (76 + c) < 2147483648 by omega) (show 0 < 2147483648 by omega), s_marks hR hc, s_allMarks hR hWB, n_zin (show 112 + c < 2147483648 by omega), n_clamp (show 112 + c < 2147483648 by omega), c1, e2, l_shl (show c < 64 by omega), ePl, l_or]
      simp only [if_pos (show c < b 0 * b 1 by omega), if_pos (show 76 + c < 268 by omega), if_neg hg, if_pos (show 112 + c < 268 by omega)]
      by_cases e : (slv (setK B c (allM B))).length = 1
      · rw [if_pos e]
        rw [decide_eq_true e, cond_true] at a1
        exact a1
      · rw [if_neg e]
        rw [decide_eq_false e, cond_false] at a1
        exact a1
theorem s_idle (hR : MR b M) (hW : Wf b) (hV : WfV b) : ∃ M', zEv (d + 50) zmM_idle [.ref 866] M = some (some (.long (spIdle b)), M') ∧ frI pS M M' := by
  unfold spIdle
  cases h2 : decide (0 < b 2) with
  | false =>
    refine ⟨M, ?_, fr.refl⟩
    refine e_M_idle ?_
    simp only [s_isBoard hR hW, zC1_some, nB0, h2, if_true]
    rfl
  | true =>
    obtain ⟨hWc, hVc⟩ := clr_w hW hV
    obtain ⟨M1, a1, a2, a3⟩ := s_putsAside (d := d + 48) M
    have r1 : MR b M1 := hR.fr a2 fun k _ z => by unfold pA at z; omega
    obtain ⟨M2, b1, b2, b3⟩ := s_clears (d := d + 45) r1 hW hV
    obtain ⟨M', c1, c2⟩ := s_idle_l (d := d) hW rfl hWc hR a2 a3 (b 0 * b 1) 0 M2 (by omega) b3 (frR_VR b2)
    refine ⟨M', ?_, c2⟩
    refine e_M_idle ?_
    simp only [s_isBoard hR hW, zC1_some, nB0, h2, a1, zC0_some, b1]
    exact c1
end MW
