/-! THE MODEL, 13: by what is given alone -/
/-- a given cell has its digit -/
def WfV (b : Nat → Nat) : Prop := ∀ c, c < 36 → b (76 + c) = 1 → 0 < b (40 + c)
theorem wfV_of {b : Nat → Nat} (h : WfD b) : WfV b := fun c hc => (h c hc).1
/-- one cell is cleared -/
def clrS (b : Nat → Nat) (c : Nat) : Nat → Nat := fun k =>
  if isO b c = true then (if k = 112 + c then (if b (76 + c) = 0 then allM b else 2 ^ b (40 + c)) else if k = 40 + c ∧ b (76 + c) = 0 then 0 else b k) else b k
def clrN (b : Nat → Nat) : Nat → Nat → Nat
  | 0 => b
  | c + 1 => clrS (clrN b c) c
def clr (b : Nat → Nat) : Nat → Nat := clrN b (b 0 * b 1)
theorem clrS_ne {b : Nat → Nat} {c k : Nat} (h1 : k ≠ 112 + c) (h2 : k ≠ 40 + c) : clrS b c k = b k := by
  unfold clrS
  by_cases h : isO b c = true
  · rw [if_pos h, if_neg h1, if_neg (fun z => h2 z.1)]
  · rw [if_neg h]
theorem clrS_isO {b : Nat → Nat} {c : Nat} (hN : b 0 * b 1 ≤ 36) (hc : c < 36) : isO (clrS b c) = isO b := funext fun x => by
  unfold isO
  rw [clrS_ne (k := 0) (by omega) (by omega), clrS_ne (k := 1) (by omega) (by omega)]
  by_cases h : x < b 0 * b 1
  · rw [clrS_ne (k := 4 + x) (by omega) (by omega)]
  · rw [decide_eq_false h, Bool.false_and, Bool.false_and]
theorem clrS_w {b : Nat → Nat} (h : Wf b) (hV : WfV b) {c : Nat} (hc : c < 36) : Wf (clrS b c) ∧ WfV (clrS b c) := by
  have eO := clrS_isO (c := c) h.n36 hc
  have h27 := h.1.2.2.1
  have g76 : ∀ x, x < 36 → clrS b c (76 + x) = b (76 + x) := fun x hx => clrS_ne (by omega) (by omega)
  cases hO : isO b c with
  | false =>
    have e : clrS b c = b := funext fun k => by
      unfold clrS
      rw [hO]
      exact if_neg (by simp)
    rw [e]
    exact ⟨h, hV⟩
  | true =>
    have e112 : clrS b c (112 + c) = if b (76 + c) = 0 then allM b else 2 ^ b (40 + c) := by
      unfold clrS
      rw [if_pos hO, if_pos rfl]
    have e40 : clrS b c (40 + c) = if b (76 + c) = 0 then 0 else b (40 + c) := by
      unfold clrS
      rw [if_pos hO, if_neg (by omega)]
      by_cases e : b (76 + c) = 0
      · rw [if_pos ⟨rfl, e⟩, if_pos e]
      · rw [if_neg (fun z => e z.2), if_neg e]
    have hg := (h.2.2.2.1 c hc).1.2
    have hd := (h.2.2.2.1 c hc).2.1.1
    have hv := hV c hc
    have hpow : ∀ y, y ≤ b 2 → 2 ^ y < 2 ^ (b 2 + 1) := fun y hy => (Nat.pow_lt_pow_iff_right (by omega)).mpr (by omega)
    refine ⟨?_, fun x hx hg2 => ?_⟩
    · unfold Wf
      rw [clrS_ne (k := 0) (by omega) (by omega), clrS_ne (k := 1) (by omega) (by omega), clrS_ne (k := 2) (by omega) (by omega), clrS_ne (k := 3) (by omega) (by omega)]
      refine ⟨h.1, h.2.1, h.2.2.1, fun x hx => ?_, ?_, fun k hk => ?_⟩
      · have g := h.2.2.2.1 x hx
        unfold WfC at g ⊢
        rw [eO, clrS_ne (k := 4 + x) (by omega) (by omega), g76 x hx, clrS_ne (k := 2) (by omega) (by omega)]
        by_cases e : x = c
        · subst e
          rw [e112, e40]
          refine ⟨g.1, ⟨?_, ?_, ?_⟩, fun z => by rw [hO] at z; cases z⟩
          · split <;> omega
          · split
            · unfold allM
              have := Nat.one_le_two_pow (n := b 2 + 1)
              omega
            · exact hpow _ hd
          · split
            · have h3 : 2 ^ (b 2 + 1) = 2 * 2 ^ b 2 := by rw [Nat.pow_succ, Nat.mul_comm]
              unfold allM
              rw [Nat.testBit_zero]
              exact decide_eq_false (by omega)
            · rw [Nat.testBit_two_pow]
              exact decide_eq_false (by omega)
        · rw [clrS_ne (k := 112 + x) (by omega) (by omega), clrS_ne (k := 40 + x) (by omega) (by omega)]
          exact g
      · unfold openN
        rw [eO]
        exact h.2.2.2.2.1
      · have g := h.2.2.2.2.2 k hk
        have eN : cgN (clrS b c) k = cgN b k := clrS_ne (by omega) (by omega)
        have eC : cgC (clrS b c) k = cgC b k := funext fun i => clrS_ne (by omega) (by omega)
        unfold WfG at g ⊢
        rw [eO, eN, eC, clrS_ne (k := 148 + 10 * k) (by omega) (by omega), clrS_ne (k := 149 + 10 * k) (by omega) (by omega), clrS_ne (k := 150 + 10 * k) (by omega) (by omega)]
        exact g
    · rw [g76 x hx] at hg2
      by_cases e : x = c
      · subst e
        rw [e40, if_neg (by omega)]
        exact hV x hx hg2
      · rw [clrS_ne (by omega) (by omega)]
        exact hV x hx hg2
theorem clrN_ne {b : Nat → Nat} : ∀ {c k : Nat}, c ≤ 36 → (k < 40 ∨ (76 ≤ k ∧ k < 112) ∨ 148 ≤ k) → clrN b c k = b k
  | 0, _, _, _ => rfl
  | c + 1, k, hc, h => by
    show clrS (clrN b c) c k = b k
    rw [clrS_ne (by omega) (by omega)]
    exact clrN_ne (by omega) h
theorem clrN_w {b : Nat → Nat} (h : Wf b) (hV : WfV b) : ∀ {c : Nat}, c ≤ 36 → Wf (clrN b c) ∧ WfV (clrN b c)
  | 0, _ => ⟨h, hV⟩
  | c + 1, hc => by
    have g := clrN_w h hV (c := c) (by omega)
    exact clrS_w g.1 g.2 (by omega)
theorem clr_w {b : Nat → Nat} (h : Wf b) (hV : WfV b) : Wf (clr b) ∧ WfV (clr b) := clrN_w h hV h.n36
theorem clr_ne {b : Nat → Nat} (h : Wf b) {k : Nat} (hk : k < 40 ∨ (76 ≤ k ∧ k < 112) ∨ 148 ≤ k) : clr b k = b k := clrN_ne h.n36 hk
theorem clr_isO {b : Nat → Nat} (h : Wf b) : isO (clr b) = isO b := funext fun x => by
  have := h.n36
  unfold isO
  rw [clr_ne h (k := 0) (by omega), clr_ne h (k := 1) (by omega)]
  by_cases hx : x < b 0 * b 1
  · rw [clr_ne h (k := 4 + x) (by omega)]
  · rw [decide_eq_false hx, Bool.false_and, Bool.false_and]
/-- the row is written -/
def pR : Nat → Nat → Prop := fun a k => a = 867 ∧ k < 268
def pA : Nat → Nat → Prop := fun a _ => a = 871
section MC
variable {d : Nat} {b : Nat → Nat}
theorem s_putsAside_l : ∀ j k (M : ZM), k + j = 268 → ∃ M', h_M_putsAside_2 d (nI k) M = some (none, M') ∧ frI pA M M' ∧ (∀ x, x < k → M'.1 871 x = M.1 871 x) ∧ ∀ x, k ≤ x → x < 268 → M'.1 871 x = M.1 867 x := by
  intro j
  induction j with
  | zero =>
    intro k M h
    refine ⟨M, ?_, fr.refl, fun _ _ => rfl, fun x h1 h2 => by omega⟩
    refine e_M_putsAside_2 ?_
    rw [if_neg (by rw [n_lt (by omega) (by omega)]; omega)]
  | succ j ih =>
    intro k M h
    obtain ⟨M', a1, a2, a3, a4⟩ := ih (k + 1) (zpi M 871 k (M.1 867 k)) (by omega)
    refine ⟨M', ?_, (fr.refl.pi (show pA 871 k from rfl)).trans a2, fun x hx => ?_, fun x h1 h2 => ?_⟩
    · refine e_M_putsAside_2 ?_
      simp only [n_lt (show k < 2147483648 by omega) (show 268 < 2147483648 by omega), n_zin (show k < 2147483648 by omega), n_clamp (show k < 2147483648 by omega), n_add1, a1]
      rw [if_pos (by omega), if_pos (by omega)]
    · rw [a3 x (by omega), m_pi, if_neg (by omega)]
    · by_cases e : x = k
      · rw [e, a3 k (by omega), m_pi, if_pos ⟨rfl, rfl⟩]
      · rw [a4 x (by omega) h2, m_pi, if_neg (by omega)]
theorem s_putsAside (M : ZM) : ∃ M', zEv (d + 1) zmM_putsAside [.ref 866] M = some (none, M') ∧ frI pA M M' ∧ ∀ x, x < 268 → M'.1 871 x = M.1 867 x := by
  obtain ⟨M', a1, a2, a3, a4⟩ := s_putsAside_l (d := d) 268 0 M (by omega)
  exact ⟨M', e_M_putsAside a1, a2, fun x hx => a4 x (by omega) hx⟩
theorem s_takesBack_l : ∀ j k (M : ZM), k + j = 268 → ∃ M', h_M_takesBack_2 d (nI k) M = some (none, M') ∧ frI pR M M' ∧ (∀ x, x < k → M'.1 867 x = M.1 867 x) ∧ ∀ x, k ≤ x → x < 268 → M'.1 867 x = M.1 871 x := by
  intro j
  induction j with
  | zero =>
    intro k M h
    refine ⟨M, ?_, fr.refl, fun _ _ => rfl, fun x h1 h2 => by omega⟩
    refine e_M_takesBack_2 ?_
    rw [if_neg (by rw [n_lt (by omega) (by omega)]; omega)]
  | succ j ih =>
    intro k M h
    obtain ⟨M', a1, a2, a3, a4⟩ := ih (k + 1) (zpi M 867 k (M.1 871 k)) (by omega)
    refine ⟨M', ?_, (fr.refl.pi (show pR 867 k from ⟨rfl, by omega⟩)).trans a2, fun x hx => ?_, fun x h1 h2 => ?_⟩
    · refine e_M_takesBack_2 ?_
      simp only [n_lt (show k < 2147483648 by omega) (show 268 < 2147483648 by omega), n_zin (show k < 2147483648 by omega), n_clamp (show k < 2147483648 by omega), n_add1, a1]
      rw [if_pos (by omega), if_pos (by omega)]
    · rw [a3 x (by omega), m_pi, if_neg (by omega)]
    · by_cases e : x = k
      · rw [e, a3 k (by omega), m_pi, if_pos ⟨rfl, rfl⟩]
      · rw [a4 x (by omega) h2, m_pi, if_neg (by omega)]
theorem s_takesBack (M : ZM) : ∃ M', zEv (d + 1) zmM_takesBack [.ref 866] M = some (none, M') ∧ frI pR M M' ∧ ∀ x, x < 268 → M'.1 867 x = M.1 871 x := by
  obtain ⟨M', a1, a2, a3, a4⟩ := s_takesBack_l (d := d) 268 0 M (by omega)
  exact ⟨M', e_M_takesBack a1, a2, fun x hx => a4 x (by omega) hx⟩
/-- what was aside is back -/
theorem back_MR {M M1 M2 M3 : ZM} (hR : MR b M) (h1 : ∀ x, x < 268 → M1.1 871 x = M.1 867 x) (h2 : ∀ x, M2.1 871 x = M1.1 871 x) (h3 : ∀ x, x < 268 → M3.1 867 x = M2.1 871 x) : MR b M3 := fun k hk => by rw [h3 k hk, h2, h1 k hk]; exact hR k hk
theorem s_clears_l : ∀ j c (b : Nat → Nat) (M : ZM), c + j = b 0 * b 1 → Wf b → WfV b → MR (clrN b c) M → ∃ M', h_M_clears_2 (d + 3) (nI c) M = some (none, M') ∧ frI pR M M' ∧ MR (clr b) M' := by
  intro j
  induction j with
  | zero =>
    intro c b M h hW hV hR
    have h36 := hW.n36
    have hc0 : clrN b c 0 * clrN b c 1 = b 0 * b 1 := by rw [clrN_ne (by omega) (by omega), clrN_ne (by omega) (by omega)]
    refine ⟨M, ?_, fr.refl, ?_⟩
    · refine e_M_clears_2 ?_
      simp only [s_cells hR, zC1_some, hc0, n_lt (show c < 2147483648 by omega) (show b 0 * b 1 < 2147483648 by omega)]
      rw [if_neg (by omega)]
    · obtain rfl : c = b 0 * b 1 := by omega
      exact hR
  | succ j ih =>
    intro c b M h hW hV hR
    have h36 := hW.n36
    have hc : c < 36 := by omega
    have hc0 : clrN b c 0 * clrN b c 1 = b 0 * b 1 := by rw [clrN_ne (by omega) (by omega), clrN_ne (by omega) (by omega)]
    obtain ⟨hWc, hVc⟩ := clrN_w hW hV (c := c) (by omega)
    have ih' := ih (c + 1) b
    generalize hB : clrN b c = B at hR hWc hVc hc0
    have eN : clrN b (c + 1) = clrS B c := by rw [← hB]; rfl
    rw [eN] at ih'
    have h27 := hWc.1.2.2.1
    have hWC := hWc.2.2.2.1 c hc
    cases hO : isO B c with
    | false =>
      have e : clrS B c = B := funext fun k => by
        unfold clrS
        rw [hO]
        exact if_neg (by simp)
      rw [e] at ih'
      obtain ⟨M', a1, a2, a3⟩ := ih' M (by omega) hW hV hR
      refine ⟨M', ?_, a2, a3⟩
      refine e_M_clears_2 ?_
      simp only [s_cells hR, zC1_some, hc0, n_lt (show c < 2147483648 by omega) (show b 0 * b 1 < 2147483648 by omega), s_isOpen hR hWc (show c < 2147483648 by omega), hO, nB0, if_true, n_add1, a1]
      rw [if_pos (by omega)]
    | true =>
      by_cases hg : B (76 + c) = 0
      · have hR1 : MR (fun k => if k = 40 + c then 0 else B k) (zpi M 867 (40 + c) (nI 0)) := fun k hk => by
          rw [m_pi]
          by_cases e : k = 40 + c
          · rw [if_pos ⟨rfl, e⟩]; dsimp only; rw [if_pos e]
          · rw [if_neg (fun z => e z.2)]; dsimp only; rw [if_neg e]; exact hR k hk
        have hR2 : MR (clrS B c) (zpi (zpi M 867 (40 + c) (nI 0)) 867 (112 + c) (nI (allM B))) := fun k hk => by
          unfold clrS
          rw [m_pi, if_pos hO]
          by_cases e : k = 112 + c
          · rw [if_pos ⟨rfl, e⟩, if_pos e, if_pos hg]
          · rw [if_neg (fun z => e z.2), if_neg e, hR1 k hk]
            dsimp only
            by_cases e2 : k = 40 + c
            · rw [if_pos e2, if_pos ⟨e2, hg⟩]
            · rw [if_neg e2, if_neg (fun z => e2 z.1)]
        obtain ⟨M', a1, a2, a3⟩ := ih' _ (by omega) hW hV hR2
        refine ⟨M', ?_, ((fr.refl.pi (show pR 867 (40 + c) from ⟨rfl, by omega⟩)).pi (show pR 867 (112 + c) from ⟨rfl, by omega⟩)).trans a2, a3⟩
        have e43 : h_M_clears_43 (d + 3) (nI c) (zpi M 867 (40 + c) (nI 0)) = some (none, M') := by
          have hq : (zpi M 867 (40 + c) (nI 0)).1 867 (76 + c) = nI 0 := by rw [m_pi, if_neg (by omega), hR _ (by omega), hg]
          have hAll : zEv (d + 3) zmM_allMarks [.ref 866] (zpi M 867 (40 + c) (nI 0)) = some (some (.int (nI (allM B))), zpi M 867 (40 + c) (nI 0)) := by
            refine e_M_allMarks ?_
            have ht : zEv (d + 2) zmM_top [.ref 866] (zpi M 867 (40 + c) (nI 0)) = some (some (.int (nI (B 2))), zpi M 867 (40 + c) (nI 0)) := by
              have := s_top (d := d + 1) hR1
              rw [if_neg (by omega)] at this
              exact this
            simp only [ht, zC1_some, n_shl (show B 2 < 32 by omega)]
            have h2 : 2 <<< B 2 = 2 ^ (B 2 + 1) := by rw [Nat.shiftLeft_eq, Nat.pow_succ, Nat.mul_comm]
            have h3 : 2 ≤ 2 ^ (B 2 + 1) := by
              have := Nat.one_le_two_pow (n := B 2)
              rw [Nat.pow_succ]; omega
            rw [h2, n_sub h3]
            rfl
          refine e_M_clears_43 ?_
          simp only [n_add, n_zin (show 76 + c < 2147483648 by omega), n_clamp (show 76 + c < 2147483648 by omega), hq, if_true, hAll, zC1_some, n_zin (show 112 + c < 2147483648 by omega), n_clamp (show 112 + c < 2147483648 by omega), a1]
          simp only [if_pos (show 76 + c < 268 by omega), if_pos (show 112 + c < 268 by omega)]
        refine e_M_clears_2 ?_
        simp only [s_cells hR, zC1_some, hc0, n_lt (show c < 2147483648 by omega) (show b 0 * b 1 < 2147483648 by omega), s_isOpen hR hWc (show c < 2147483648 by omega), hO, nB0, n_add, n_zin (show 76 + c < 2147483648 by omega), n_clamp (show 76 + c < 2147483648 by omega), hR (76 + c) (by omega), hg, n_zin (show 40 + c < 2147483648 by omega), n_clamp (show 40 + c < 2147483648 by omega), if_true, e43]
        simp only [if_pos (show c < b 0 * b 1 by omega), if_pos (show 76 + c < 268 by omega), if_pos (show 40 + c < 268 by omega)]
        rfl
      · have hR2 : MR (clrS B c) (zpi M 867 (112 + c) (nI (2 ^ B (40 + c)))) := fun k hk => by
          unfold clrS
          rw [m_pi, if_pos hO]
          by_cases e : k = 112 + c
          · rw [if_pos ⟨rfl, e⟩, if_pos e, if_neg hg]
          · rw [if_neg (fun z => e z.2), if_neg e, if_neg (fun z => hg z.2)]
            exact hR k hk
        obtain ⟨M', a1, a2, a3⟩ := ih' _ (by omega) hW hV hR2
        have hd := hWC.2.1.1
        have hg1 := hWC.1.2
        have ePl : (1 : Nat) <<< B (40 + c) = 2 ^ B (40 + c) := by rw [Nat.shiftLeft_eq, Nat.one_mul]
        refine ⟨M', ?_, (fr.refl.pi (show pR 867 (112 + c) from ⟨rfl, by omega⟩)).trans a2, a3⟩
        have e43 : h_M_clears_43 (d + 3) (nI c) M = some (none, M') := by
          refine e_M_clears_43 ?_
          simp only [n_add, n_zin (show 76 + c < 2147483648 by omega), n_clamp (show 76 + c < 2147483648 by omega), hR (76 + c) (by omega), n_eq (show B (76 + c) < 2147483648 by omega) (show 0 < 2147483648 by omega), n_zin (show 40 + c < 2147483648 by omega), n_clamp (show 40 + c < 2147483648 by omega), hR (40 + c) (by omega), n_shl (show B (40 + c) < 32 by omega), ePl, n_zin (show 112 + c < 2147483648 by omega), n_clamp (show 112 + c < 2147483648 by omega), a1]
          simp only [if_pos (show 76 + c < 268 by omega), if_pos (show 112 + c < 268 by omega), if_pos (show 40 + c < 268 by omega), if_neg hg]
        refine e_M_clears_2 ?_
        simp only [s_cells hR, zC1_some, hc0, n_lt (show c < 2147483648 by omega) (show b 0 * b 1 < 2147483648 by omega), s_isOpen hR hWc (show c < 2147483648 by omega), hO, nB0, n_add, n_zin (show 76 + c < 2147483648 by omega), n_clamp (show 76 + c < 2147483648 by omega), hR (76 + c) (by omega), n_eq (show B (76 + c) < 2147483648 by omega) (show 0 < 2147483648 by omega), e43]
        simp only [if_pos (show c < b 0 * b 1 by omega), if_pos (show 76 + c < 268 by omega), if_neg hg]
        rfl
theorem s_clears {M : ZM} (hR : MR b M) (hW : Wf b) (hV : WfV b) : ∃ M', zEv (d + 4) zmM_clears [.ref 866] M = some (none, M') ∧ frI pR M M' ∧ MR (clr b) M' := by
  obtain ⟨M', a1, a2⟩ := s_clears_l (d := d) (b 0 * b 1) 0 b M (by omega) hW hV hR
  exact ⟨M', e_M_clears a1, a2⟩
end MC
