/-! THE MODEL, 25: put, strike, lift, give -/
def pUR : Nat → Nat → Prop := fun a k => pU a k ∨ pR a k
/-- what an act leaves -/
def ActR (b : Nat → Nat) (U : List (Nat → Nat)) (M M' : ZM) : Option (Nat → Nat) → Prop
  | none => M' = M
  | some b' => MR b' M' ∧ UR (pushU U b) M' ∧ frI pUR M M'
def spPut (b : Nat → Nat) (x y : Int32) : Int32 × Option (Nat → Nat) :=
  if oI b x = false ∨ iD y (b 2) = false then (-1, none) else
  if 0 < b (40 + x.toInt.toNat) then (-2, none) else
  if (b (112 + x.toInt.toNat)).testBit y.toInt.toNat = false then (-3, none) else (nI 1, some (putR b x.toInt.toNat y.toInt.toNat))
def spStrike (b : Nat → Nat) (x y : Int32) : Int32 × Option (Nat → Nat) :=
  if oI b x = false ∨ iD y (b 2) = false then (-1, none) else
  if 0 < b (40 + x.toInt.toNat) then (-2, none) else
  if (b (112 + x.toInt.toNat)).testBit y.toInt.toNat = false then (-3, none) else (nI (popc (strR b x.toInt.toNat y.toInt.toNat (112 + x.toInt.toNat))), some (strR b x.toInt.toNat y.toInt.toNat))
section MA
variable {d : Nat} {M : ZM} {b : Nat → Nat} {U : List (Nat → Nat)}
theorem ur_pi {M : ZM} (h : UR U M) {k : Nat} {v : Int32} : UR U (zpi M 867 k v) := by
  refine ⟨⟨?_, h.1.2⟩, fun i hi y hy => ?_⟩
  · rw [m_pi, if_neg (by omega)]; exact h.1.1
  · rw [m_pi, if_neg (by omega)]; exact h.2 i hi y hy
theorem s_puts {M : ZM} (hR : MR b M) {c x : Nat} (hc : c < 36) (hx : x < 8) : zEv (d + 1) zmM_puts [.ref 866, .int (nI c), .int (nI x)] M = some (none, zpi (zpi M 867 (40 + c) (nI x)) 867 (112 + c) (nI (2 ^ x))) ∧ MR (putR b c x) (zpi (zpi M 867 (40 + c) (nI x)) 867 (112 + c) (nI (2 ^ x))) := by
  have ePl : (1 : Nat) <<< x = 2 ^ x := by rw [Nat.shiftLeft_eq, Nat.one_mul]
  refine ⟨e_M_puts ?_, fun k hk => ?_⟩
  · simp only [n_add, n_zin (show 40 + c < 2147483648 by omega), n_clamp (show 40 + c < 2147483648 by omega), n_zin (show 112 + c < 2147483648 by omega), n_clamp (show 112 + c < 2147483648 by omega), n_shl (show x < 32 by omega), ePl]
    rw [if_pos (by omega), if_pos (by omega)]
  · unfold putR
    rw [m_pi]
    by_cases e : k = 112 + c
    · rw [if_pos ⟨rfl, e⟩, if_pos e]
    · rw [if_neg (fun z => e z.2), if_neg e, m_pi]
      by_cases e2 : k = 40 + c
      · rw [if_pos ⟨rfl, e2⟩, if_pos e2]
      · rw [if_neg (fun z => e2 z.2), if_neg e2]
        exact hR k hk
theorem s_put (hR : MR b M) (hW : Wf b) (hU : UR U M) (x y : Int32) : ∃ M', zEv (d + 4) zmM_put [.ref 866, .int x, .int y] M = some (some (.int (spPut b x y).1), M') ∧ ActR b U M M' (spPut b x y).2 := by
  unfold spPut
  have h27 := hW.1.2.2.1
  cases hx : oI b x with
  | false =>
    refine ⟨M, e_M_put ?_, ?_⟩
    · rw [s_isOpenI hR hW, zC1_some, hx, if_pos (show nB false = nI 0 from rfl), if_pos (Or.inl rfl)]
    · rw [if_pos (Or.inl rfl)]; rfl
  | true =>
    cases hy : iD y (b 2) with
    | false =>
      refine ⟨M, e_M_put ?_, ?_⟩
      · rw [s_isOpenI hR hW, zC1_some, hx, if_neg (by decide), s_isDigit (d := d + 1) hR hW, zC1_some, hy, if_pos (show nB false = nI 0 from rfl), if_pos (Or.inr rfl)]
      · rw [if_pos (Or.inr rfl)]; rfl
    | true =>
      obtain ⟨c, hc, hO, rfl⟩ := oI_ex hW hx
      obtain ⟨z, hz1, hz2, rfl⟩ := iD_ex (by omega) hy
      have hmk := mk_lt hW hc
      rw [n_toInt (show c < 2147483648 by omega), n_toInt (show z < 2147483648 by omega), Int.toNat_natCast, Int.toNat_natCast]
      have hno : ¬ (true = false ∨ true = false) := by simp
      rw [if_neg hno]
      by_cases hD : 0 < b (40 + c)
      · refine ⟨M, e_M_put ?_, ?_⟩
        · rw [s_isOpenI hR hW, zC1_some, hx, if_neg (by decide), s_isDigit (d := d + 1) hR hW, zC1_some, hy, if_neg (by decide), s_isDone (d := d + 2) hR hW hc, zC1_some, decide_eq_true hD, if_neg (by decide), if_pos hD]
        · rw [if_pos hD]; rfl
      · rw [if_neg hD]
        cases hb : (b (112 + c)).testBit z with
        | false =>
          refine ⟨M, e_M_put ?_, ?_⟩
          · rw [s_isOpenI hR hW, zC1_some, hx, if_neg (by decide), s_isDigit (d := d + 1) hR hW, zC1_some, hy, if_neg (by decide), s_isDone (d := d + 2) hR hW hc, zC1_some, decide_eq_false hD, if_pos (show nB false = nI 0 from rfl), s_marks (d := d + 2) hR hc, zC1_some, s_holds (d := d + 2) (show b (112 + c) < 2147483648 by omega) (show z < 32 by omega), zC1_some, hb, if_pos (show nB false = nI 0 from rfl), if_pos rfl]
          · rw [if_pos rfl]; rfl
        | true =>
          obtain ⟨M1, a1, a2, a3, a4⟩ := s_keepsAct (d := d + 1) hR hU
          obtain ⟨p1, p2⟩ := s_puts (d := d + 2) a4 hc (show z < 8 by omega)
          refine ⟨zpi (zpi M1 867 (40 + c) (nI z)) 867 (112 + c) (nI (2 ^ z)), e_M_put ?_, ?_⟩
          · rw [s_isOpenI hR hW, zC1_some, hx, if_neg (by decide), s_isDigit (d := d + 1) hR hW, zC1_some, hy, if_neg (by decide), s_isDone (d := d + 2) hR hW hc, zC1_some, decide_eq_false hD, if_pos (show nB false = nI 0 from rfl), s_marks (d := d + 2) hR hc, zC1_some, s_holds (d := d + 2) (show b (112 + c) < 2147483648 by omega) (show z < 32 by omega), zC1_some, hb, if_neg (by decide), a1, zC0_some, p1, zC0_some, if_neg (by simp)]
          · rw [if_neg (by simp)]
            exact ⟨p2, ur_pi (ur_pi a3), ((a2.mono (fun _ _ z => Or.inl z) (fun _ _ z => z)).pi (show pUR 867 (40 + c) from Or.inr ⟨rfl, by omega⟩)).pi (show pUR 867 (112 + c) from Or.inr ⟨rfl, by omega⟩)⟩
theorem s_strike (hR : MR b M) (hW : Wf b) (hU : UR U M) (x y : Int32) : ∃ M', zEv (d + 4) zmM_strike [.ref 866, .int x, .int y] M = some (some (.int (spStrike b x y).1), M') ∧ ActR b U M M' (spStrike b x y).2 := by
  unfold spStrike
  have h27 := hW.1.2.2.1
  cases hx : oI b x with
  | false =>
    refine ⟨M, e_M_strike ?_, ?_⟩
    · rw [s_isOpenI hR hW, zC1_some, hx, if_pos (show nB false = nI 0 from rfl), if_pos (Or.inl rfl)]
    · rw [if_pos (Or.inl rfl)]; rfl
  | true =>
    cases hy : iD y (b 2) with
    | false =>
      refine ⟨M, e_M_strike ?_, ?_⟩
      · rw [s_isOpenI hR hW, zC1_some, hx, if_neg (by decide), s_isDigit (d := d + 1) hR hW, zC1_some, hy, if_pos (show nB false = nI 0 from rfl), if_pos (Or.inr rfl)]
      · rw [if_pos (Or.inr rfl)]; rfl
    | true =>
      obtain ⟨c, hc, hO, rfl⟩ := oI_ex hW hx
      obtain ⟨z, hz1, hz2, rfl⟩ := iD_ex (by omega) hy
      have hmk := mk_lt hW hc
      rw [n_toInt (show c < 2147483648 by omega), n_toInt (show z < 2147483648 by omega), Int.toNat_natCast, Int.toNat_natCast]
      have hno : ¬ (true = false ∨ true = false) := by simp
      rw [if_neg hno]
      by_cases hD : 0 < b (40 + c)
      · refine ⟨M, e_M_strike ?_, ?_⟩
        · rw [s_isOpenI hR hW, zC1_some, hx, if_neg (by decide), s_isDigit (d := d + 1) hR hW, zC1_some, hy, if_neg (by decide), s_isDone (d := d + 2) hR hW hc, zC1_some, decide_eq_true hD, if_neg (by decide), if_pos hD]
        · rw [if_pos hD]; rfl
      · rw [if_neg hD]
        cases hb : (b (112 + c)).testBit z with
        | false =>
          refine ⟨M, e_M_strike ?_, ?_⟩
          · rw [s_isOpenI hR hW, zC1_some, hx, if_neg (by decide), s_isDigit (d := d + 1) hR hW, zC1_some, hy, if_neg (by decide), s_isDone (d := d + 2) hR hW hc, zC1_some, decide_eq_false hD, if_pos (show nB false = nI 0 from rfl), s_marks (d := d + 2) hR hc, zC1_some, s_holds (d := d + 2) (show b (112 + c) < 2147483648 by omega) (show z < 32 by omega), zC1_some, hb, if_pos (show nB false = nI 0 from rfl), if_pos rfl]
          · rw [if_pos rfl]; rfl
        | true =>
          obtain ⟨M1, a1, a2, a3, a4⟩ := s_keepsAct (d := d + 1) hR hU
          have ePl : (1 : Nat) <<< z = 2 ^ z := by rw [Nat.shiftLeft_eq, Nat.one_mul]
          have r2 := mr_setK a4 (c := c) (m := b (112 + c) ^^^ (b (112 + c) &&& 2 ^ z))
          have r2' : MR (strR b c z) (zpi M1 867 (112 + c) (nI (b (112 + c) ^^^ (b (112 + c) &&& 2 ^ z)))) := r2
          have hle := clr_le (b (112 + c)) z
          have hst : strR b c z (112 + c) = b (112 + c) ^^^ (b (112 + c) &&& 2 ^ z) := setK_at
          refine ⟨zpi M1 867 (112 + c) (nI (b (112 + c) ^^^ (b (112 + c) &&& 2 ^ z))), e_M_strike ?_, ?_⟩
          · rw [s_isOpenI hR hW, zC1_some, hx, if_neg (by decide), s_isDigit (d := d + 1) hR hW, zC1_some, hy, if_neg (by decide), s_isDone (d := d + 2) hR hW hc, zC1_some, decide_eq_false hD, if_pos (show nB false = nI 0 from rfl), s_marks (d := d + 2) hR hc, zC1_some, s_holds (d := d + 2) (show b (112 + c) < 2147483648 by omega) (show z < 32 by omega), zC1_some, hb, if_neg (by decide), a1, zC0_some]
            simp only [n_add, n_zin (show 112 + c < 2147483648 by omega), n_clamp (show 112 + c < 2147483648 by omega), a4 (112 + c) (by omega), n_shl (show z < 32 by omega), ePl, n_clr, zL, s_marks r2' hc, zC1_some, hst, s_bits (show b (112 + c) ^^^ (b (112 + c) &&& 2 ^ z) < 2147483648 by omega)]
            rw [if_pos (by omega), if_neg (by simp)]
          · rw [if_neg (by simp)]
            exact ⟨r2', ur_pi a3, (a2.mono (fun _ _ z => Or.inl z) (fun _ _ z => z)).pi (show pUR 867 (112 + c) from Or.inr ⟨rfl, by omega⟩)⟩
end MA
