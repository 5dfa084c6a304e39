/-! THE CLASS, 29: ways counted by their sets -/
def BY (y : Nat) (c : Nat → Nat) (M : ZM) : Prop := ∀ s, s < 128 → M.1 (y + 1) s = nI (c s)
theorem kIn_or : ∀ σ, σ < 128 → ∀ g, g < 8 → 1 ≤ g → σ ||| 2 ^ (g - 1) = kIn σ g := by decide +kernel
theorem aft_lt {D : DF} (hD : DOk D) {s g s1 : Nat} (hs : s < 128) (h1 : 1 ≤ g) (h7 : g ≤ 7) (h : aft D s g = some s1) : s1 < 128 := by
  unfold aft at h
  by_cases c1 : D.1 g s = true
  · rw [if_pos c1] at h; injection h with h; omega
  · rw [if_neg c1] at h
    by_cases c2 : D.2.1 g s = true
    · rw [if_pos c2] at h; injection h with h; have := (hD g h1 h7).2 s hs c2; omega
    · rw [if_neg c2] at h; cases h
theorem accF_cons {D : DF} {s g : Nat} {v : List Nat} : accF D s (g :: v) = match aft D s g with | some s1 => accF D s1 v | none => false := by
  unfold accF
  show (match (match aft D s g with | some s1 => rnO D v s1 | none => none) with | some s' => D.2.2.2 s' | none => false) = _
  cases aft D s g with
  | none => rfl
  | some s1 => rfl
/-- the words that lead on to the goal from a place on -/
def Vs (D : DF) (ms : Nat → Nat) (z j s : Nat) : List (List Nat) := (wds ((List.range' (z - j) j).map ms)).filter (accF D s)
theorem range'_get {a n i : Nat} {ms : Nat → Nat} (h : i < n) : ((List.range' a n).map ms).getD i 0 = ms (a + i) := by
  rw [getD_el (by rw [List.length_map, List.length_range']; exact h), List.getElem_map, List.getElem_range', Nat.one_mul]
theorem vs_none {D : DF} (hd : Det D) {ms : Nat → Nat} {z j s : Nat} (hj : j ≤ z) (h : baJ D ms z j s = false) : Vs D ms z j s = [] := by
  unfold Vs
  rw [List.filter_eq_nil_iff]
  intro w hw ha
  obtain ⟨s', h1, h2⟩ := (accF_iff hd).mp ha
  obtain ⟨w1, w2⟩ := mem_wds.mp hw
  rw [List.length_map, List.length_range'] at w1
  have : baJ D ms z j s = true := (baJ_iff j s hj).mpr ⟨w, w1, (wo_get w (z - j)).mpr fun i hi => by
    have := w2 i hi
    rw [range'_get (by omega)] at this
    exact this, s', h1, h2⟩
  rw [this] at h
  cases h
theorem vs_succ {D : DF} {ms : Nat → Nat} {z j s : Nat} (hj : j + 1 ≤ z) : Vs D ms z (j + 1) s = (List.range' 1 7).flatMap fun g => if (ms (z - (j + 1))).testBit g then (match aft D s g with | some s1 => (Vs D ms z j s1).map (g :: ·) | none => []) else [] := by
  unfold Vs
  rw [List.range'_succ, List.map_cons, show z - (j + 1) + 1 = z - j by omega]
  show List.filter _ ((List.range' 1 7).flatMap fun g => if (ms (z - (j + 1))).testBit g then (wds ((List.range' (z - j) j).map ms)).map (g :: ·) else []) = _
  rw [List.filter_flatMap]
  refine flatMap_congr2 fun g _ => ?_
  by_cases hb : (ms (z - (j + 1))).testBit g = true
  · rw [if_pos hb, if_pos hb, List.filter_map]
    cases ha : aft D s g with
    | none =>
      dsimp only
      rw [List.map_eq_nil_iff, List.filter_eq_nil_iff]
      intro v _ h
      have h : accF D s (g :: v) = true := h
      rw [accF_cons, ha] at h
      cases h
    | some s1 =>
      dsimp only
      congr 1
      refine List.filter_congr fun v _ => ?_
      show accF D s (g :: v) = _
      rw [accF_cons, ha]
  · rw [if_neg hb, if_neg hb]; rfl
section QY
variable {d : Nat} {M : ZM} {D : DF} {z q e cz y : Nat} {ms : Nat → Nat}
def pY (y : Nat) : Nat → Nat → Prop := fun a _ => a = y + 1
/-- what a walk adds -/
def wAdd (D : DF) (ms : Nat → Nat) (z j s σ x g n : Nat) : Nat := ((List.range' g n).flatMap fun g => if (ms (z - (j + 1))).testBit g then (match aft D s g with | some s1 => (Vs D ms z j s1).map (g :: ·) | none => []) else []).countP fun v => kSet σ v == x
theorem q_walk (hy : zkd y = (17, 0)) (hq : zkd q = (13, 0)) (he : zkd e = (1, 36)) (hz : zkd cz = (1, 6)) (hD : DOk D) (hd : Det D) (hyq : y + 2 < q ∨ q + 9 < y) (hye : y + 1 ≠ e) (hyz : y + 1 ≠ cz) : ∀ j s σ (c : Nat → Nat) (M : ZM), j ≤ z → s < 128 → σ < 128 → RRep D z q M → WgR D ms z q M → MsR e cz z ms M → BY y c M → baJ D ms z j s = true → ∃ M', zEv (d + j + 3) zmY_walk [.ref y, .ref q, .ref e, .ref cz, .int (nI (z - j)), .int (nI s), .int (nI σ)] M = some (none, M') ∧ BY y (fun x => c x + (Vs D ms z j s).countP fun v => kSet σ v == x) M' ∧ fr (pY y) (fun _ _ => False) M M' := by
  intro j
  induction j with
  | zero =>
    intro s σ c M hj hs hσ hR hW hM hB hb
    have h6 := hR.1.2
    have hg : D.2.2.2 s = true := hb
    have hv : Vs D ms z 0 s = [[]] := by
      show List.filter (accF D s) [[]] = [[]]
      rw [List.filter_cons_of_pos (show accF D s [] = true from hg), List.filter_nil]
    refine ⟨zpi M (y + 1) σ (M.1 (y + 1) σ + nI 1), e_Y_walk hy hq he hz ?_, fun x hx => ?_, fr.refl.pi rfl⟩
    · rw [e_R_size hq rfl, zC1_some, hR.1.1, if_neg (by rw [n_lt (by omega) (by omega)]; omega), n_and, show (127 : Nat) = 2 ^ 7 - 1 from rfl, Nat.and_two_pow_sub_one_eq_mod, Nat.mod_eq_of_lt hσ, if_pos ((n_zin (by omega)).mpr hσ), n_clamp (by omega)]
    · rw [hv, m_pi, hB σ hσ]
      show _ = nI (c x + List.countP _ [[]])
      rw [List.countP_cons, List.countP_nil, Nat.zero_add]
      show _ = nI (c x + if (σ == x) = true then 1 else 0)
      by_cases ex : x = σ
      · rw [if_pos ⟨rfl, ex⟩, ex, if_pos (beq_self_eq_true σ), n_add]
      · rw [if_neg (fun w => ex w.2), if_neg (fun w => ex (beq_iff_eq.mp w).symm), Nat.add_zero]
        exact hB x hx
  | succ j ih =>
    intro s σ c M hj hs hσ hR hW hM hB hb
    have h6 := hR.1.2
    obtain ⟨ci, c1, c2, c3, c4⟩ := hM (z - (j + 1)) (by omega)
    have hRf : ∀ {M'}, fr (pY y) (fun _ _ => False) M M' → RRep D z q M' := fun {M'} h => by
      have e1 : ∀ a k, q ≤ a → a ≤ q + 9 → M'.1 a k = M.1 a k := fun a k x y' => h.1 a k (by unfold pY; omega)
      have e2 : ∀ a k, M'.2 a k = M.2 a k := fun a k => h.2 a k (fun w => w)
      unfold RRep
      rw [e1 q 3 (by omega) (by omega), e2, e2]
      refine ⟨hR.1, hR.2.1, fun g g1 g7 => ?_⟩
      rw [e2, e2, e2, e2, e1 (q + 5) g (by omega) (by omega)]
      exact hR.2.2 g g1 g7
    have hWf : ∀ {M'}, fr (pY y) (fun _ _ => False) M M' → WgR D ms z q M' := fun {M'} h i hi => by
      have e2 : ∀ a k, M'.2 a k = M.2 a k := fun a k => h.2 a k (fun w => w)
      rw [e2, e2, e2, e2]
      exact hW i hi
    have hMf : ∀ {M'}, fr (pY y) (fun _ _ => False) M M' → MsR e cz z ms M' := fun {M'} h i hi => by
      obtain ⟨c, u1, u2, u3, u4⟩ := hM i hi
      exact ⟨c, u1, (h.1 cz i (by unfold pY; omega)).trans u2, (h.1 e c (by unfold pY; omega)).trans u3, u4⟩
    have loop : ∀ n g (a : Nat → Nat) (M1 : ZM), g + n = 8 → 1 ≤ g → fr (pY y) (fun _ _ => False) M M1 → BY y a M1 → ∃ M', h_Y_walk_44 (d + j + 3) y q e cz (nI (z - (j + 1))) (nI s) (nI σ) (nI (ms (z - (j + 1)))) (nI g) M1 = some (none, M') ∧ BY y (fun x => a x + wAdd D ms z j s σ x g n) M' ∧ fr (pY y) (fun _ _ => False) M1 M' := by
      intro n
      induction n with
      | zero =>
        intro g a M1 hgn h1 hf hB1
        refine ⟨M1, e_Y_walk_44 hy hq he hz ?_, fun x hx => (hB1 x hx).trans rfl, fr.refl⟩
        rw [if_pos ((n_lt (by omega) (by omega)).mpr (by omega))]
      | succ n ihn =>
        intro g a M1 hgn h1 hf hB1
        have hbt := n_bit (m := ms (z - (j + 1))) (d := g) (by omega) (by omega)
        have hadd : ∀ x, wAdd D ms z j s σ x g (n + 1) = (if (ms (z - (j + 1))).testBit g then (match aft D s g with | some s1 => (Vs D ms z j s1).map (g :: ·) | none => []) else []).countP (fun v => kSet σ v == x) + wAdd D ms z j s σ x (g + 1) n := fun x => by
          unfold wAdd
          rw [List.range'_succ, List.flatMap_cons, List.countP_append]
        have skip : (∀ x, wAdd D ms z j s σ x g (n + 1) = wAdd D ms z j s σ x (g + 1) n) → ∃ M', h_Y_walk_44 (d + j + 3) y q e cz (nI (z - (j + 1))) (nI s) (nI σ) (nI (ms (z - (j + 1)))) (nI (g + 1)) M1 = some (none, M') ∧ BY y (fun x => a x + wAdd D ms z j s σ x g (n + 1)) M' ∧ fr (pY y) (fun _ _ => False) M1 M' := fun hx => by
          obtain ⟨M', a1, a2, a3⟩ := ihn (g + 1) a M1 (by omega) (by omega) hf hB1
          exact ⟨M', a1, fun x h => (a2 x h).trans (by dsimp only; rw [hx]), a3⟩
        by_cases hb2 : (ms (z - (j + 1))).testBit g = true
        · cases ha : aft D s g with
          | none =>
            obtain ⟨M', a1, a2⟩ := skip fun x => by rw [hadd, if_pos hb2, ha]; exact Nat.zero_add _
            refine ⟨M', e_Y_walk_44 hy hq he hz ?_, a2⟩
            rw [if_neg (by rw [n_lt (by omega) (by omega)]; omega), if_pos (hbt.mpr hb2), show d + j + 3 = (d + j + 2) + 1 from rfl, q_after hq (hRf hf) hs h1 (by omega), zC1_some, ha, n_add1, show d + j + 2 + 1 = (d + j + 1) + 2 from rfl, show pI none = (-1 : Int32) from rfl, q_canEnd_n hq (by omega), zC1_some, if_pos rfl, n_add1]
            exact a1
          | some s1 =>
            have hs1 := aft_lt hD hs h1 (by omega) ha
            have hce : zEv (d + j + 3) zmR_canEnd [.ref q, .int (nI (z - (j + 1)) + nI 1), .int (pI (some s1))] M1 = some (some (.int (nB (baJ D ms z j s1))), M1) := by
              have := q_canEnd (d := d + j + 1) hq (hRf hf) (hWf hf) (i := z - j) (s := s1) (by omega) hs1
              rw [show z - (z - j) = j by omega] at this
              rw [n_add1, show z - (j + 1) + 1 = z - j by omega]
              exact this
            cases hbj : baJ D ms z j s1 with
            | false =>
              rw [hbj] at hce
              obtain ⟨M', a1, a2⟩ := skip fun x => by rw [hadd, if_pos hb2, ha]; dsimp only; rw [vs_none hd (by omega) hbj]; exact Nat.zero_add _
              refine ⟨M', e_Y_walk_44 hy hq he hz ?_, a2⟩
              rw [if_neg (by rw [n_lt (by omega) (by omega)]; omega), if_pos (hbt.mpr hb2), show d + j + 3 = (d + j + 2) + 1 from rfl, q_after hq (hRf hf) hs h1 (by omega), zC1_some, ha, show d + j + 2 + 1 = d + j + 3 from rfl, hce, zC1_some, if_pos (show nB false = nI 0 from rfl), n_add1]
              exact a1
            | true =>
              rw [hbj] at hce
              obtain ⟨M2, b1, b2, b3⟩ := ih s1 (kIn σ g) a M1 (by omega) hs1 (k_in1 σ hσ g (by omega) h1).1 (hRf hf) (hWf hf) (hMf hf) hB1 hbj
              obtain ⟨M', a1, a2, a3⟩ := ihn (g + 1) _ M2 (by omega) (by omega) (hf.trans b3) b2
              refine ⟨M', e_Y_walk_44 hy hq he hz ?_, fun x hx => (a2 x hx).trans ?_, b3.trans a3⟩
              · rw [if_neg (by rw [n_lt (by omega) (by omega)]; omega), if_pos (hbt.mpr hb2), show d + j + 3 = (d + j + 2) + 1 from rfl, q_after hq (hRf hf) hs h1 (by omega), zC1_some, ha, show d + j + 2 + 1 = d + j + 3 from rfl, hce, zC1_some, if_neg (show ¬ nB true = nI 0 by decide), n_add1, n_sub h1, n_one (by omega), n_or, kIn_or σ hσ g (by omega) h1, show z - (j + 1) + 1 = z - j by omega, show pI (some s1) = nI s1 from rfl, b1, zC0_some, n_add1]
                exact a1
              · dsimp only
                rw [hadd, if_pos hb2, ha]
                dsimp only
                rw [List.countP_map, ← Nat.add_assoc]
                rfl
        · obtain ⟨M', a1, a2⟩ := skip fun x => by rw [hadd, if_neg hb2]; exact Nat.zero_add _
          refine ⟨M', e_Y_walk_44 hy hq he hz ?_, a2⟩
          rw [if_neg (by rw [n_lt (by omega) (by omega)]; omega), if_neg (fun w => hb2 (hbt.mp w)), n_add1]
          exact a1
    obtain ⟨M', a1, a2, a3⟩ := loop 7 1 c M (by omega) (by omega) fr.refl hB
    refine ⟨M', e_Y_walk (d := d + j + 3) hy hq he hz ?_, fun x hx => (a2 x hx).trans ?_, a3⟩
    · rw [e_R_size (d := d + j + 2) hq rfl, zC1_some, hR.1.1, if_pos ((n_lt (by omega) (by omega)).mpr (by omega)), if_pos ((n_lt (by omega) (by omega)).mpr (by omega)), if_pos ((n_zin (by omega)).mpr (by omega)), n_clamp (by omega), c2, q_marksAt (d := d + j + 2) he c1 c3, zC1_some]
      exact a1
    · rw [vs_succ hj]
      rfl
end QY
