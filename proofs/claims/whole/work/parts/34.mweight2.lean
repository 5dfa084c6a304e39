/-! THE MODEL, 23: broken, weight -/
def spBroken (b : Nat → Nat) (x : Int32) : Int32 := bif decide (0 < b 2) && iI x 3 then (if x = nI 0 then nB (brk b) else if x = nI 1 then pO (cgWo b) else pO (clWo b)) else -1
section MY
variable {d : Nat} {M : ZM} {b : Nat → Nat}
theorem nBif {t : Bool} {M : ZM} : (if nB t = nI 0 then some (some (Value.int (nI 0)), M) else some (some (Value.int (nI 1)), M)) = some (some (Value.int (nB t)), M) := by
  cases t with
  | true => rw [if_neg (by decide)]; rfl
  | false => rw [if_pos (show nB false = nI 0 from rfl)]; rfl
theorem s_broken (hR : MR b M) (hW : Wf b) (x : Int32) : ∃ M', zEv (d + 13) zmM_broken [.ref 866, .int x] M = some (some (.int (spBroken b x)), M') ∧ frI pS M M' := by
  unfold spBroken
  cases h2 : decide (0 < b 2) with
  | false =>
    refine ⟨M, ?_, fr.refl⟩
    refine e_M_broken ?_
    simp only [s_isBoard hR hW, zC1_some, nB0, h2, if_true]
    rfl
  | true =>
    cases hx : iI x 3 with
    | false =>
      refine ⟨M, ?_, fr.refl⟩
      refine e_M_broken ?_
      simp only [s_isBoard hR hW, zC1_some, nB0, h2, s_inI x (show 2 < 2147483648 by omega), hx, if_true]
      rfl
    | true =>
      rw [Bool.and_true, cond_true]
      by_cases e0 : x = nI 0
      · obtain ⟨M', a1, a2⟩ := s_isBroken (d := d) hR hW
        refine ⟨M', ?_, frL_S a2⟩
        refine e_M_broken ?_
        rw [s_isBoard (d := d + 10) hR hW, zC1_some, h2, s_inI x (show 2 < 2147483648 by omega), if_neg (by decide), zC1_some, hx, if_neg (by decide), if_pos e0, if_pos e0, a1, zC1_some]
        exact nBif
      · by_cases e1 : x = nI 1
        · obtain ⟨M', a1, a2⟩ := s_cageWithout (d := d + 1) hR hW
          refine ⟨M', ?_, frL_S a2⟩
          refine e_M_broken ?_
          rw [s_isBoard (d := d + 10) hR hW, zC1_some, h2, s_inI x (show 2 < 2147483648 by omega), if_neg (by decide), zC1_some, hx, if_neg (by decide), if_neg e0, if_neg e0, if_pos e1, if_pos e1, a1, zC1_some]
        · refine ⟨M, ?_, fr.refl⟩
          refine e_M_broken ?_
          rw [s_isBoard (d := d + 10) hR hW, zC1_some, h2, s_inI x (show 2 < 2147483648 by omega), if_neg (by decide), zC1_some, hx, if_neg (by decide), if_neg e0, if_neg e0, if_neg e1, if_neg e1, s_cellWithout (d := d + 8) hR hW, zC1_some]
theorem s_notDone_l (hR : MR b M) (hW : Wf b) : ∀ j c, c + j = b 0 * b 1 → h_M_notDone_4 (d + 3) (nI (ndN b c)) (nI c) M = some (some (.int (nI (ndN b (b 0 * b 1)))), M) := by
  have h36 := hW.n36
  intro j
  induction j with
  | zero =>
    intro c h
    refine e_M_notDone_4 ?_
    simp only [s_cells hR, zC1_some, n_lt (show c < 2147483648 by omega) (show b 0 * b 1 < 2147483648 by omega)]
    rw [if_neg (by omega)]
    obtain rfl : c = b 0 * b 1 := by omega
    rfl
  | succ j ih =>
    intro c h
    have hc : c < 36 := by omega
    have ih' := ih (c + 1) (by omega)
    rw [show ndN b (c + 1) = ndN b c + (if isO b c = true ∧ b (40 + c) = 0 then 1 else 0) from rfl] at ih'
    refine e_M_notDone_4 ?_
    cases hO : isO b c with
    | false =>
      rw [hO, if_neg (by simp)] at ih'
      simp only [s_cells hR, zC1_some, n_lt (show c < 2147483648 by omega) (show b 0 * b 1 < 2147483648 by omega), s_isOpen hR hW (show c < 2147483648 by omega), hO, nB0, if_true, n_add]
      rw [if_pos (by omega)]
      exact ih'
    | true =>
      rw [hO] at ih'
      simp only [s_cells hR, zC1_some, n_lt (show c < 2147483648 by omega) (show b 0 * b 1 < 2147483648 by omega), s_isOpen hR hW (show c < 2147483648 by omega), hO, nB0, s_isDone hR hW hc, n_add]
      rw [if_pos (show c < b 0 * b 1 by omega), if_neg (show ¬ (true = false) by simp)]
      by_cases e : b (40 + c) = 0
      · rw [if_pos ⟨rfl, e⟩] at ih'
        rw [decide_eq_false (by omega), if_pos rfl]
        exact ih'
      · rw [if_neg (fun z => e z.2)] at ih'
        rw [decide_eq_true (by omega), if_neg (show ¬ (true = false) by simp)]
        exact ih'
theorem s_notDone (hR : MR b M) (hW : Wf b) : zEv (d + 4) zmM_notDone [.ref 866] M = some (some (.int (nI (ndN b (b 0 * b 1)))), M) := e_M_notDone (s_notDone_l (d := d) hR hW (b 0 * b 1) 0 (by omega))
theorem s_weighed {g : (Nat → Nat) × Nat × Nat} (hR : MR g.1 M) (hW : Wf g.1) (h17 : M.1 866 17 = nI g.2.1) (h18 : M.1 866 18 = nI g.2.2) (x : Int32) : ∃ M', zEv (d + 13) zmM_weighed [.ref 866, .int x] M = some (some (.int (spWeighed g x)), M') ∧ frI (pL 0) M M' := by
  unfold spWeighed
  by_cases e0 : x = nI 0
  · refine ⟨M, e_M_weighed ?_, fr.refl⟩
    rw [if_pos e0, if_pos e0, h17]
  by_cases e1 : x = nI 1
  · refine ⟨M, e_M_weighed ?_, fr.refl⟩
    rw [if_neg e0, if_neg e0, if_pos e1, if_pos e1, h18]
  by_cases e2 : x = nI 2
  · refine ⟨M, e_M_weighed ?_, fr.refl⟩
    rw [if_neg e0, if_neg e0, if_neg e1, if_neg e1, if_pos e2, if_pos e2, s_notDone (d := d + 8) hR hW, zC1_some]
  by_cases e3 : x = nI 3
  · obtain ⟨M', a1, a2⟩ := s_isBroken (d := d) hR hW
    refine ⟨M', e_M_weighed ?_, a2⟩
    rw [if_neg e0, if_neg e0, if_neg e1, if_neg e1, if_neg e2, if_neg e2, if_pos e3, if_pos e3, a1, zC1_some]
    exact nBif
  refine ⟨M, e_M_weighed ?_, fr.refl⟩
  rw [if_neg e0, if_neg e0, if_neg e1, if_neg e1, if_neg e2, if_neg e2, if_neg e3, if_neg e3, s_isOpenI (d := d + 9) hR hW, zC1_some]
  cases hO : oI g.1 (x - nI 10) with
  | false => rfl
  | true =>
    obtain ⟨c, hc, h1, e⟩ := oI_ex hW hO
    rw [if_neg (by decide), e, s_marks (d := d + 11) hR hc, zC1_some, n_toInt (show c < 2147483648 by omega), Int.toNat_natCast]
    rfl
theorem s_weight (hR : MR b M) (hW : Wf b) (hD : WfD b) (x : Int32) : ∃ M', zEv (d + 15) zmM_weight [.ref 866, .int x] M = some (some (.int (spWeight b x)), M') ∧ frI pS M M' := by
  unfold spWeight
  cases h2 : decide (0 < b 2) with
  | false =>
    refine ⟨M, e_M_weight ?_, fr.refl⟩
    rw [s_isBoard (d := d + 12) hR hW, zC1_some, h2, if_pos (show nB false = nI 0 from rfl)]
    rfl
  | true =>
    obtain ⟨M1, a1, a2, a3⟩ := s_putsAside (d := d + 13) M
    have r1 : MR b M1 := hR.fr a2 fun k _ z => by unfold pA at z; omega
    obtain ⟨M2, b1, b2, b3, b4, b5, b6, b7, b8⟩ := s_goesAll (d := d) r1 hW hD
    obtain ⟨M3, c1, c2⟩ := s_weighed (d := d + 1) b3 b6 b4 b5 x
    obtain ⟨M4, d1, d2, d3⟩ := s_takesBack (d := d + 13) M3
    obtain ⟨r4, f4⟩ := aside_back2 (p := pX) (fun a k z => by
      unfold pX pN pR at z
      unfold pS pR
      omega) hR a2 a3 (b2.trans (c2.mono (fun a k z => by unfold pL at z; unfold pX pN; omega) (fun _ _ z => z))) d2 d3
    have body : zC0 (zEv (d + 14) zmM_putsAside [.ref 866] M) (fun M23 => zC0 (zEv (d + 14) zmM_goesAll [.ref 866] M23) (fun M25 => zC1 (zEv (d + 14) zmM_weighed [.ref 866, .int x] M25) (fun v28 M27 => zC0 (zEv (d + 14) zmM_takesBack [.ref 866] M27) (fun M30 => some (some (.int v28), M30))))) = some (some (.int (spWeighed (goB b) x)), M4) := by
      rw [a1, zC0_some, b1, zC0_some, c1, zC1_some, d1, zC0_some]
    cases hx : iI x 4 with
    | true =>
      refine ⟨M4, e_M_weight ?_, f4⟩
      rw [s_isBoard (d := d + 12) hR hW, zC1_some, h2, if_neg (by decide), s_inI x (show 3 < 2147483648 by omega), zC1_some, hx, if_neg (by decide)]
      exact body
    | false =>
      cases hy : iI (x - nI 10) (b 0 * b 1) with
      | true =>
        refine ⟨M4, e_M_weight ?_, f4⟩
        rw [s_isBoard (d := d + 12) hR hW, zC1_some, h2, if_neg (by decide), s_inI x (show 3 < 2147483648 by omega), zC1_some, hx, if_pos (show nB false = nI 0 from rfl), s_isCell (d := d + 12) hR hW, zC1_some, hy, if_neg (by decide)]
        exact body
      | false =>
        refine ⟨M, e_M_weight ?_, fr.refl⟩
        rw [s_isBoard (d := d + 12) hR hW, zC1_some, h2, if_neg (by decide), s_inI x (show 3 < 2147483648 by omega), zC1_some, hx, if_pos (show nB false = nI 0 from rfl), s_isCell (d := d + 12) hR hW, zC1_some, hy, if_pos (show nB false = nI 0 from rfl)]
        rfl
end MY
