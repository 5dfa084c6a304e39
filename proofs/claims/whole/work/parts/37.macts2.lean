/-! THE MODEL, 26: lift, give -/
def lftR (b : Nat → Nat) (c : Nat) : Nat → Nat := fun k => if k = 112 + c then allM b else if k = 40 + c then 0 else b k
def givR (b : Nat → Nat) (c x : Nat) : Nat → Nat := fun k => if k = 76 + c then 1 else putR b c x k
def spLift (b : Nat → Nat) (x : Int32) : Int32 × Option (Nat → Nat) :=
  if oI b x = false then (-1, none) else
  if b (40 + x.toInt.toNat) = 0 ∨ b (76 + x.toInt.toNat) = 1 then (-2, none) else (nI (b (40 + x.toInt.toNat)), some (lftR b x.toInt.toNat))
def spGive (b : Nat → Nat) (x y : Int32) : Int32 × Option (Nat → Nat) :=
  if oI b x = false ∨ iD y (b 2) = false then (-1, none) else
  if b (76 + x.toInt.toNat) = 1 ∧ b (40 + x.toInt.toNat) = y.toInt.toNat then (-2, none) else (nI 1, some (givR b x.toInt.toNat y.toInt.toNat))
section MB2
variable {d : Nat} {M : ZM} {b : Nat → Nat} {U : List (Nat → Nat)}
theorem s_allMarks2 {M : ZM} {t : Nat} (h : M.1 867 2 = nI t) (ht : t ≤ 7) : zEv (d + 2) zmM_allMarks [.ref 866] M = some (some (.int (nI (2 ^ (t + 1) - 2))), M) := by
  have hT : zEv (d + 1) zmM_top [.ref 866] M = some (some (.int (nI t)), M) := by
    refine e_M_top ?_
    rw [h]
  refine e_M_allMarks ?_
  rw [hT, zC1_some, n_shl (show t < 32 by omega)]
  have h2 : 2 <<< t = 2 ^ (t + 1) := by rw [Nat.shiftLeft_eq, Nat.pow_succ, Nat.mul_comm]
  have h3 : 2 ≤ 2 ^ (t + 1) := by
    have := Nat.one_le_two_pow (n := t)
    rw [Nat.pow_succ]; omega
  rw [h2, n_sub h3]
theorem s_lift (hR : MR b M) (hW : Wf b) (hU : UR U M) (x : Int32) : ∃ M', zEv (d + 4) zmM_lift [.ref 866, .int x] M = some (some (.int (spLift b x).1), M') ∧ ActR b U M M' (spLift b x).2 := by
  unfold spLift
  have h27 := hW.1.2.2.1
  cases hx : oI b x with
  | false =>
    refine ⟨M, e_M_lift ?_, ?_⟩
    · rw [s_isOpenI hR hW, zC1_some, hx, if_pos (show nB false = nI 0 from rfl), if_pos rfl]
    · rw [if_pos rfl]; rfl
  | true =>
    obtain ⟨c, hc, hO, rfl⟩ := oI_ex hW hx
    have hWC := hW.2.2.2.1 c hc
    have hg1 := hWC.1.2
    have hd1 := hWC.2.1.1
    rw [n_toInt (show c < 2147483648 by omega), Int.toNat_natCast, if_neg (show ¬ (true = false) by simp)]
    by_cases hD : b (40 + c) = 0
    · refine ⟨M, e_M_lift ?_, ?_⟩
      · rw [s_isOpenI hR hW, zC1_some, hx, if_neg (by decide), s_isDone (d := d + 2) hR hW hc, zC1_some, decide_eq_false (by omega), if_pos (show nB false = nI 0 from rfl), if_pos (Or.inl hD)]
      · rw [if_pos (Or.inl hD)]; rfl
    · have run : ∀ r, (if b (76 + c) = 1 then some (some (.int (-2 : Int32)), M) else zC0 (zEv (d + 3) zmM_keepsAct [.ref 866] M) (fun M12 => zC1 (zEv (d + 3) zmM_allMarks [.ref 866] (zpi M12 867 (40 + c) (nI 0))) (fun v16 M15 => some (some (.int (M12.1 867 (40 + c))), (zpi M15 867 (112 + c) v16))))) = some r → zEv (d + 4) zmM_lift [.ref 866, .int (nI c)] M = some r := by
        intro r hr
        refine e_M_lift ?_
        rw [s_isOpenI hR hW, zC1_some, hx, if_neg (by decide), s_isDone (d := d + 2) hR hW hc, zC1_some, decide_eq_true (by omega), if_neg (by decide)]
        simp only [n_add, n_zin (show 76 + c < 2147483648 by omega), n_clamp (show 76 + c < 2147483648 by omega), hR (76 + c) (by omega), n_eq (show b (76 + c) < 2147483648 by omega) (show 1 < 2147483648 by omega), n_zin (show 40 + c < 2147483648 by omega), n_clamp (show 40 + c < 2147483648 by omega), n_zin (show 112 + c < 2147483648 by omega), n_clamp (show 112 + c < 2147483648 by omega)]
        simp only [if_pos (show 76 + c < 268 by omega), if_pos (show 40 + c < 268 by omega), if_pos (show 112 + c < 268 by omega)]
        exact hr
      by_cases hG : b (76 + c) = 1
      · refine ⟨M, run _ ?_, ?_⟩
        · rw [if_pos hG, if_pos (Or.inr hG)]
        · rw [if_pos (Or.inr hG)]; rfl
      · have hno : ¬ (b (40 + c) = 0 ∨ b (76 + c) = 1) := by omega
        obtain ⟨M1, a1, a2, a3, a4⟩ := s_keepsAct (d := d + 1) hR hU
        have hA := s_allMarks2 (d := d + 1) (M := zpi M1 867 (40 + c) (nI 0)) (t := b 2) (by rw [m_pi, if_neg (by omega)]; exact a4 2 (by omega)) h27
        refine ⟨zpi (zpi M1 867 (40 + c) (nI 0)) 867 (112 + c) (nI (allM b)), run _ ?_, ?_⟩
        · rw [if_neg hG, a1, zC0_some, hA, zC1_some, a4 (40 + c) (by omega), if_neg hno]
          rfl
        · rw [if_neg hno]
          refine ⟨fun k hk => ?_, ur_pi (ur_pi a3), ((a2.mono (fun _ _ z => Or.inl z) (fun _ _ z => z)).pi (show pUR 867 (40 + c) from Or.inr ⟨rfl, by omega⟩)).pi (show pUR 867 (112 + c) from Or.inr ⟨rfl, by omega⟩)⟩
          unfold lftR
          rw [m_pi]
          by_cases e : k = 112 + c
          · rw [if_pos ⟨rfl, e⟩, if_pos e]
          · rw [if_neg (fun z => e z.2), if_neg e, m_pi]
            by_cases e2 : k = 40 + c
            · rw [if_pos ⟨rfl, e2⟩, if_pos e2]
            · rw [if_neg (fun z => e2 z.2), if_neg e2]
              exact a4 k hk
theorem s_give (hR : MR b M) (hW : Wf b) (hU : UR U M) (x y : Int32) : ∃ M', zEv (d + 4) zmM_give [.ref 866, .int x, .int y] M = some (some (.int (spGive b x y).1), M') ∧ ActR b U M M' (spGive b x y).2 := by
  unfold spGive
  have h27 := hW.1.2.2.1
  cases hx : oI b x with
  | false =>
    refine ⟨M, e_M_give ?_, ?_⟩
    · rw [s_isOpenI hR hW, zC1_some, hx, if_pos (show nB false = nI 0 from rfl), if_pos (Or.inl rfl)]
    · rw [if_pos (Or.inl rfl)]; rfl
  | true =>
    cases hy : iD y (b 2) with
    | false =>
      refine ⟨M, e_M_give ?_, ?_⟩
      · rw [s_isOpenI hR hW, zC1_some, hx, if_neg (by decide), s_isDigit (d := d + 1) hR hW, zC1_some, hy, if_pos (show nB false = nI 0 from rfl), if_pos (Or.inr rfl)]
      · rw [if_pos (Or.inr rfl)]; rfl
    | true =>
      obtain ⟨c, hc, hO, rfl⟩ := oI_ex hW hx
      obtain ⟨z, hz1, hz2, rfl⟩ := iD_ex (by omega) hy
      have hWC := hW.2.2.2.1 c hc
      have hg1 := hWC.1.2
      have hd1 := hWC.2.1.1
      rw [n_toInt (show c < 2147483648 by omega), n_toInt (show z < 2147483648 by omega), Int.toNat_natCast, Int.toNat_natCast, if_neg (show ¬ (true = false ∨ true = false) by simp)]
      obtain ⟨M1, a1, a2, a3, a4⟩ := s_keepsAct (d := d + 1) hR hU
      obtain ⟨p1, p2⟩ := s_puts (d := d + 2) a4 hc (show z < 8 by omega)
      have run : ∀ r, (if b (76 + c) = 1 ∧ b (40 + c) = z then some (some (.int (-2 : Int32)), M) else some (some (.int (nI 1)), zpi (zpi (zpi M1 867 (40 + c) (nI z)) 867 (112 + c) (nI (2 ^ z))) 867 (76 + c) (nI 1))) = some r → zEv (d + 4) zmM_give [.ref 866, .int (nI c), .int (nI z)] M = some r := by
        intro r hr
        refine e_M_give ?_
        rw [s_isOpenI hR hW, zC1_some, hx, if_neg (by decide), s_isDigit (d := d + 1) hR hW, zC1_some, hy, if_neg (by decide)]
        simp only [n_add, n_zin (show 76 + c < 2147483648 by omega), n_clamp (show 76 + c < 2147483648 by omega), hR (76 + c) (by omega), n_eq (show b (76 + c) < 2147483648 by omega) (show 1 < 2147483648 by omega), n_zin (show 40 + c < 2147483648 by omega), n_clamp (show 40 + c < 2147483648 by omega), hR (40 + c) (by omega), n_eq (show b (40 + c) < 2147483648 by omega) (show z < 2147483648 by omega), a1, zC0_some, p1]
        simp only [if_pos (show 76 + c < 268 by omega), if_pos (show 40 + c < 268 by omega)]
        by_cases e1 : b (76 + c) = 1
        · rw [if_pos e1]
          by_cases e2 : b (40 + c) = z
          · rw [if_pos e2]; rw [if_pos ⟨e1, e2⟩] at hr; exact hr
          · rw [if_neg e2]; rw [if_neg (fun z => e2 z.2)] at hr; exact hr
        · rw [if_neg e1]; rw [if_neg (fun z => e1 z.1)] at hr; exact hr
      by_cases hG : b (76 + c) = 1 ∧ b (40 + c) = z
      · refine ⟨M, run _ ?_, ?_⟩
        · rw [if_pos hG, if_pos hG]
        · rw [if_pos hG]; rfl
      · refine ⟨zpi (zpi (zpi M1 867 (40 + c) (nI z)) 867 (112 + c) (nI (2 ^ z))) 867 (76 + c) (nI 1), run _ ?_, ?_⟩
        · rw [if_neg hG, if_neg hG]
        · rw [if_neg hG]
          refine ⟨fun k hk => ?_, ur_pi (ur_pi (ur_pi a3)), (((a2.mono (fun _ _ z => Or.inl z) (fun _ _ z => z)).pi (show pUR 867 (40 + c) from Or.inr ⟨rfl, by omega⟩)).pi (show pUR 867 (112 + c) from Or.inr ⟨rfl, by omega⟩)).pi (show pUR 867 (76 + c) from Or.inr ⟨rfl, by omega⟩)⟩
          unfold givR
          rw [m_pi]
          by_cases e : k = 76 + c
          · rw [if_pos ⟨rfl, e⟩, if_pos e]
          · rw [if_neg (fun z => e z.2), if_neg e]
            exact p2 k hk
end MB2
