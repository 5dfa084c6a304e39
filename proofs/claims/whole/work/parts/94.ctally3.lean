/-! THE CLASS, 31: tally, and what is read of it -/
/-- how many of these words have that set -/
def kC (W : List (List Nat)) (x : Nat) : Nat := W.countP fun w => kSet 0 w == x
theorem kc_sets {s t z : Nat} {al : Bool} {ms : Nat → Nat} {x : Nat} : kC ((wds ((List.range z).map ms)).filter (accF (rSet s al t z) 0)) x = if (foF (rSet s al t z) ms z x && (rSet s al t z).2.2.2 x) = false then 0 else cI (rSet s al t z) ms z x := by
  have hdet : Det (rSet s al t z) := fun g σ h => by
    have h : (al && σ.testBit (g - 1)) = true := h
    rw [Bool.and_eq_true] at h
    show (!σ.testBit (g - 1)) = false
    rw [h.2]; rfl
  unfold kC
  rw [List.countP_filter]
  have e : ∀ w ∈ wds ((List.range z).map ms), ((kSet 0 w == x && accF (rSet s al t z) 0 w) = true ↔ (rnO (rSet s al t z) w 0 == some x && (rSet s al t z).2.2.2 x) = true) := fun w hw => by
    have hd := wds_dig hw
    unfold accF
    cases hr : rnO (rSet s al t z) w 0 with
    | none =>
      dsimp only
      rw [Bool.and_false]
      exact ⟨fun z => (by cases z), fun h => (by simp at h)⟩
    | some s1 =>
      dsimp only
      have := ((rset_run w 0 s1 hd (by omega)).mp ((rnO_iff hdet w 0 s1).mp hr)).2
      rw [← this, Bool.and_eq_true, Bool.and_eq_true, beq_iff_eq, beq_iff_eq]
      constructor
      · rintro ⟨h1, h2⟩; rw [h1] at h2 ⊢; exact ⟨rfl, h2⟩
      · rintro ⟨h1, h2⟩; injection h1 with h1; rw [h1]; exact ⟨rfl, h2⟩
  rw [List.countP_congr e]
  cases hg : (rSet s al t z).2.2.2 x with
  | false =>
    rw [Bool.and_false, if_pos rfl, List.countP_eq_zero]
    intro w _ h
    rw [Bool.and_false] at h
    cases h
  | true =>
    rw [Bool.and_true]
    have e2 : (wds ((List.range z).map ms)).countP (fun w => rnO (rSet s al t z) w 0 == some x && true) = cI (rSet s al t z) ms z x := by
      unfold cI
      exact List.countP_congr fun w _ => by rw [Bool.and_true]
    rw [e2]
    cases hf : foF (rSet s al t z) ms z x with
    | true => rw [if_neg (by simp)]
    | false =>
      rw [if_pos rfl]
      unfold cI
      rw [List.countP_eq_zero]
      intro w hw h
      have h := beq_iff_eq.mp h
      obtain ⟨w1, w2⟩ := wds_wo.mp hw
      rw [(foF_iff z x).mpr ⟨w, w1, w2, (rnO_iff hdet w 0 x).mp h⟩] at hf
      cases hf
theorem vs_all {D : DF} {ms : Nat → Nat} {z : Nat} : Vs D ms z z 0 = (wds ((List.range z).map ms)).filter (accF D 0) := by
  unfold Vs
  rw [Nat.sub_self, ← List.range_eq_range']
section QY3
variable {d : Nat} {M : ZM} {z q e cz y : Nat} {ms : Nat → Nat}
theorem q_tally_0 (hy : zkd y = (17, 0)) (hq : zkd q = (13, 0)) (he : zkd e = (1, 36)) (hz : zkd cz = (1, 6)) {v : Int32} : ∀ n i (M : ZM), i + n = 128 → (∀ x, x < i → M.1 (y + 1) x = nI 0) → ∃ M', (∀ r, (if v = nI 0 then some (none, M') else zC1 (zEv d zmR_isOfSets [.ref q] M') (fun v6 M5 => (if v6 = (nI 0) then zC0 (zEv d zmY_walk [.ref y, .ref q, .ref e, .ref cz, .int (nI 0), .int (nI 0), .int (nI 0)] M5) (fun M9 => some (none, M9)) else zC0 (zEv d zmY_tallyBySets [.ref y, .ref q, .ref e, .ref cz] M5) (fun M11 => some (none, M11))))) = some r → h_Y_tally_11 d y q e cz v (nI i) M = some r) ∧ BY y (fun _ => 0) M' ∧ fr (pY y) (fun _ _ => False) M M' := by
  intro n
  induction n with
  | zero =>
    intro i M h hN
    refine ⟨M, fun r hr => e_Y_tally_11 hy hq he hz ?_, fun x hx => hN x (by omega), fr.refl⟩
    rw [if_neg (by rw [n_lt (by omega) (by omega)]; omega)]
    exact hr
  | succ n ih =>
    intro i M h hN
    obtain ⟨M', a1, a2, a3⟩ := ih (i + 1) (zpi M (y + 1) i (nI 0)) (by omega) fun x hx => by
      rw [m_pi]
      by_cases ex : x = i
      · rw [if_pos ⟨rfl, ex⟩]
      · rw [if_neg (fun w => ex w.2)]; exact hN x (by omega)
    refine ⟨M', fun r hr => e_Y_tally_11 hy hq he hz ?_, a2, fr.trans (fr.refl.pi rfl) a3⟩
    rw [if_pos ((n_lt (by omega) (by omega)).mpr (by omega)), if_pos ((n_zin (by omega)).mpr (by omega)), n_clamp (by omega), n_add1]
    exact a1 r hr
theorem q_tally (hy : zkd y = (17, 0)) (hq : zkd q = (13, 0)) (he : zkd e = (1, 36)) (hz : zkd cz = (1, 6)) {s t : Nat} {al : Bool} (hs : s ≤ 3) (h1z : 1 ≤ z) (hR : RC s al t z q M) (hM : MsR e cz z ms M) (hyq : y + 2 < q ∨ q + 9 < y) (hye : y + 2 < e ∨ e < y) (hyz : y + 2 < cz ∨ cz < y) : ∃ M', zEv (d + 12) zmY_tally [.ref y, .ref q, .ref e, .ref cz] M = some (none, M') ∧ BY y (kC ((wds ((List.range z).map ms)).filter (accF (rl s al t z) 0))) M' ∧ fr (pY12 y) (pWg q) M M' := by
  have h6 := hR.2.1.2
  have hD := rl_ok s al t z
  have hdt := rl_det s al t z
  obtain ⟨M1, a1, a2, a3⟩ := q_weigh (d := d + 8) hq he hz hD h1z hR.2 hM
  obtain ⟨M2, b1, b2, b3⟩ := q_tally_0 (d := d + 11) (v := nB (baJ (rl s al t z) ms z z 0)) hy hq he hz 128 0 M1 (by omega) fun x hx => absurd hx (Nat.not_lt_zero x)
  have hR1 : RRep (rl s al t z) z q M1 := hR.2.fr a2 fun _ _ w => w
  have hR2 : RRep (rl s al t z) z q M2 := rrep_fy hR1 b3 fun a k w => by unfold pY at w; omega
  have hW2 : WgR (rl s al t z) ms z q M2 := wgr_fy a3 b3
  have hF2 : HF s al t z q M2 := by
    have e1 : ∀ k, M2.1 q k = M.1 q k := fun k => (b3.1 q k (by unfold pY; omega)).trans (a2.1 q k fun w => w)
    unfold HF
    rw [e1, e1, e1, e1]
    exact hR.1
  have hM2 : MsR e cz z ms M2 := msr_fy (msr_fy hM a2 fun _ _ w => w.elim) b3 fun a k w => by unfold pY at w; omega
  have f2 : fr (pY12 y) (pWg q) M M2 := (a2.mono (fun _ _ w => w.elim) fun _ _ w => w).trans (b3.mono (fun a k w => Or.inl w) fun _ _ w => w.elim)
  cases hb : baJ (rl s al t z) ms z z 0 with
  | false =>
    refine ⟨M2, e_Y_tally (d := d + 11) hy hq he hz ?_, fun x hx => (b2 x hx).trans ?_, f2⟩
    · rw [a1, zC1_some]
      refine b1 _ ?_
      rw [hb, if_pos (show nB false = nI 0 from rfl)]
    · rw [← vs_all, vs_none hdt (Nat.le_refl z) hb]
      rfl
  | true =>
    have head : ∀ r, zC1 (zEv (d + 11) zmR_isOfSets [.ref q] M2) (fun v6 M5 => (if v6 = (nI 0) then zC0 (zEv (d + 11) zmY_walk [.ref y, .ref q, .ref e, .ref cz, .int (nI 0), .int (nI 0), .int (nI 0)] M5) (fun M9 => some (none, M9)) else zC0 (zEv (d + 11) zmY_tallyBySets [.ref y, .ref q, .ref e, .ref cz] M5) (fun M11 => some (none, M11)))) = some r → zEv (d + 12) zmY_tally [.ref y, .ref q, .ref e, .ref cz] M = some r := fun r hr => by
      refine e_Y_tally (d := d + 11) hy hq he hz ?_
      rw [a1, zC1_some]
      refine b1 _ ?_
      rw [hb, if_neg (show ¬ nB true = nI 0 by decide)]
      exact hr
    cases ho : ofS s al with
    | true =>
      have hrl : rl s al t z = rSet s al t z := by unfold rl; rw [ho, cond_true]
      have hB3 : BY y (cI (rl s al t z) ms 0) (zpi M2 (y + 1) 0 (nI 1)) := fun x hx => by
        have e0 : cI (rl s al t z) ms 0 x = if x = 0 then 1 else 0 := by
          show List.countP (fun w => rnO (rl s al t z) w 0 == some x) [[]] = _
          rw [List.countP_cons, List.countP_nil, Nat.zero_add]
          show (if (some 0 == some x) = true then 1 else 0) = _
          by_cases c : x = 0
          · rw [if_pos (by rw [c]; rfl), if_pos c]
          · rw [if_neg (fun w => c (by have := beq_iff_eq.mp w; injection this with this; exact this.symm)), if_neg c]
        rw [e0, m_pi]
        by_cases c : x = 0
        · rw [if_pos ⟨rfl, c⟩, if_pos c]
        · rw [if_neg (fun w => c w.2), if_neg c]
          exact b2 x hx
      have f3 : fr (pY12 y) (fun _ _ => False) M2 (zpi M2 (y + 1) 0 (nI 1)) := fr.refl.pi (Or.inl rfl)
      have pq : ∀ a k, pY12 y a k → a < q ∨ q + 9 < a := fun a k w => by unfold pY12 at w; omega
      have pe : ∀ a k, pY12 y a k → a ≠ e ∧ a ≠ cz := fun a k w => by unfold pY12 at w; omega
      obtain ⟨M3, c1, c2, c3⟩ := q_tbs_10 (d := d + 9) hy hq he hz hD hyq hye hyz z 0 _ (by omega) (rrep_fy hR2 f3 pq) (msr_fy hM2 f3 pe) hB3
      have f4 := f3.trans c3
      obtain ⟨M4, d1, d2, d3⟩ := q_tbs_184 (d := d + 8) (c := cI (rl s al t z) ms z) hy hq hyq 128 0 M3 (by omega) (rrep_fy hR2 f4 pq) (wgr_fy hW2 f4) fun x hx => (c2 x hx).trans (by dsimp only; rw [if_neg fun w => absurd w.1 (Nat.not_lt_zero x)])
      refine ⟨M4, head _ ?_, fun x hx => (d2 x hx).trans ?_, (f2.trans (f4.mono (fun _ _ w => w) fun _ _ w => w.elim)).trans (d3.mono (fun a k w => Or.inl w) fun _ _ w => w.elim)⟩
      · rw [q_isOfSets (d := d + 10) hq hs hF2, zC1_some, ho, if_neg (show ¬ nB true = nI 0 by decide), e_Y_tallyBySets (d := d + 10) hy hq he hz (c1 _ d1), zC0_some]
      · rw [hrl, kc_sets]
    | false =>
      obtain ⟨M3, c1, c2, c3⟩ := q_walk (d := d + (8 - z)) hy hq he hz hD hdt hyq (by omega) (by omega) z 0 0 (fun _ => 0) M2 (Nat.le_refl z) (by omega) (by omega) hR2 hW2 hM2 b2 hb
      refine ⟨M3, head _ ?_, fun x hx => (c2 x hx).trans ?_, f2.trans (c3.mono (fun a k w => Or.inl w) fun _ _ w => w.elim)⟩
      · rw [q_isOfSets (d := d + 10) hq hs hF2, zC1_some, ho, if_pos (show nB false = nI 0 from rfl)]
        rw [Nat.sub_self, show d + (8 - z) + z + 3 = d + 11 by omega] at c1
        rw [c1, zC0_some]
      · dsimp only
        rw [vs_all, Nat.zero_add]
        rfl
/-! reading -/
theorem q_many {c : Nat → Nat} (hy : zkd y = (17, 0)) (hB : BY y c M) : zEv (d + 1) zmY_many [.ref y] M = some (some (.int (nI (sumF c 128))), M) := by
  have : ∀ n i, i + n = 128 → h_Y_many_4 d y (nI (sumF c i)) (nI i) M = some (some (.int (nI (sumF c 128))), M) := by
    intro n
    induction n with
    | zero =>
      intro i h
      obtain rfl : i = 128 := by omega
      refine e_Y_many_4 hy ?_
      rw [if_neg (by rw [n_lt (by omega) (by omega)]; omega)]
    | succ n ih =>
      intro i h
      refine e_Y_many_4 hy ?_
      rw [if_pos ((n_lt (by omega) (by omega)).mpr (by omega)), if_pos ((n_zin (by omega)).mpr (by omega)), n_clamp (by omega), hB i (by omega), n_add1, n_add]
      exact ih (i + 1) (by omega)
  exact e_Y_many hy (this 128 0 (by omega))
theorem shl1 {s : Nat} : nI s <<< (nI 1 &&& 31) = nI (2 * s) := by
  rw [n_shl (by omega), Nat.shiftLeft_eq, show s * 2 ^ 1 = 2 * s by omega]
theorem q_manyWith {c : Nat → Nat} (hy : zkd y = (17, 0)) (hB : BY y c M) {g : Nat} (hg : g < 8) : zEv (d + 1) zmY_manyWith [.ref y, .int (nI g)] M = some (some (.int (nI (sumF (fun s => if (2 * s).testBit g = true then c s else 0) 128))), M) := by
  have : ∀ n i, i + n = 128 → h_Y_manyWith_4 d y (nI g) (nI (sumF (fun s => if (2 * s).testBit g = true then c s else 0) i)) (nI i) M = some (some (.int (nI (sumF (fun s => if (2 * s).testBit g = true then c s else 0) 128))), M) := by
    intro n
    induction n with
    | zero =>
      intro i h
      obtain rfl : i = 128 := by omega
      refine e_Y_manyWith_4 hy ?_
      rw [if_neg (by rw [n_lt (by omega) (by omega)]; omega)]
    | succ n ih =>
      intro i h
      have hb := n_bit (m := 2 * i) (d := g) (by omega) (by omega)
      have hs : sumF (fun s => if (2 * s).testBit g = true then c s else 0) (i + 1) = sumF (fun s => if (2 * s).testBit g = true then c s else 0) i + (if (2 * i).testBit g = true then c i else 0) := rfl
      refine e_Y_manyWith_4 hy ?_
      rw [if_pos ((n_lt (by omega) (by omega)).mpr (by omega)), shl1, n_add1]
      by_cases h1 : (2 * i).testBit g = true
      · rw [if_pos (hb.mpr h1), if_pos ((n_zin (by omega)).mpr (by omega)), n_clamp (by omega), hB i (by omega), n_add]
        have := ih (i + 1) (by omega)
        rw [hs, if_pos h1] at this
        exact this
      · rw [if_neg (fun w => h1 (hb.mp w))]
        have := ih (i + 1) (by omega)
        rw [hs, if_neg h1, Nat.add_zero] at this
        exact this
  exact e_Y_manyWith hy (this 128 0 (by omega))
def inA (c : Nat → Nat) : Nat → Option Nat
  | 0 => none
  | i + 1 => if 0 < c i then (match inA c i with | some m => some (m &&& (2 * i)) | none => some (2 * i)) else inA c i
theorem q_inAll {c : Nat → Nat} (hy : zkd y = (17, 0)) (hB : BY y c M) (hc : ∀ s, s < 128 → c s < 2147483648) : zEv (d + 1) zmY_inAll [.ref y] M = some (some (.int (nI ((inA c 128).getD 0))), M) := by
  have hle : ∀ i, i ≤ 128 → ∀ m, inA c i = some m → m < 256 := by
    intro i
    induction i with
    | zero => intro _ m h; cases h
    | succ i ih =>
      intro hi m h
      unfold inA at h
      by_cases h0 : 0 < c i
      · rw [if_pos h0] at h
        cases hA : inA c i with
        | none => rw [hA] at h; injection h with h; omega
        | some m1 =>
          rw [hA] at h
          injection h with h
          have := ih (by omega) m1 hA
          have := Nat.and_le_left (n := m1) (m := 2 * i)
          omega
      · rw [if_neg h0] at h
        exact ih (by omega) m h
  have : ∀ n i, i + n = 128 → h_Y_inAll_4 d y (match inA c i with | some m => nI m | none => -1) (nI i) M = some (some (.int (nI ((inA c 128).getD 0))), M) := by
    intro n
    induction n with
    | zero =>
      intro i h
      obtain rfl : i = 128 := by omega
      refine e_Y_inAll_4 hy ?_
      rw [if_neg (by rw [n_lt (by omega) (by omega)]; omega)]
      cases hA : inA c 128 with
      | none => dsimp only; rw [if_pos rfl]; rfl
      | some m =>
        have := hle 128 (by omega) m hA
        dsimp only
        rw [if_neg (n_nem1 (by omega))]
        rfl
    | succ n ih =>
      intro i h
      refine e_Y_inAll_4 hy ?_
      have ih' := ih (i + 1) (by omega)
      rw [if_pos ((n_lt (by omega) (by omega)).mpr (by omega)), if_pos ((n_zin (by omega)).mpr (by omega)), n_clamp (by omega), hB i (by omega), n_add1, shl1]
      unfold inA at ih'
      by_cases h0 : 0 < c i
      · rw [if_pos h0] at ih'
        rw [if_pos ((n_lt (by omega) (hc i (by omega))).mpr h0)]
        cases hA : inA c i with
        | none =>
          rw [hA] at ih'
          dsimp only at ih' ⊢
          have e1 : (-1 : Int32) &&& nI (2 * i) = nI (2 * i) := by
            apply Int32.toBitVec_inj.mp
            show BitVec.allOnes 32 &&& _ = _
            rw [BitVec.allOnes_and]
          rw [e1]
          exact ih'
        | some m =>
          rw [hA] at ih'
          dsimp only at ih' ⊢
          rw [n_and]
          exact ih'
      · rw [if_neg h0] at ih'
        rw [if_neg (by rw [n_lt (by omega) (hc i (by omega))]; exact h0)]
        exact ih'
  exact e_Y_inAll hy (this 128 0 (by omega))
theorem q_manySets {c : Nat → Nat} (hy : zkd y = (17, 0)) (hB : BY y c M) (hc : ∀ s, s < 128 → c s < 2147483648) : zEv (d + 1) zmY_manySets [.ref y] M = some (some (.int (nI ((List.range 128).filter fun s => decide (0 < c s)).length)), M) := by
  have : ∀ n i, i + n = 128 → h_Y_manySets_4 d y (nI ((List.range i).filter fun s => decide (0 < c s)).length) (nI i) M = some (some (.int (nI ((List.range 128).filter fun s => decide (0 < c s)).length)), M) := by
    intro n
    induction n with
    | zero =>
      intro i h
      obtain rfl : i = 128 := by omega
      refine e_Y_manySets_4 hy ?_
      rw [if_neg (by rw [n_lt (by omega) (by omega)]; omega)]
    | succ n ih =>
      intro i h
      refine e_Y_manySets_4 hy ?_
      have ih' := ih (i + 1) (by omega)
      rw [List.range_succ, List.filter_append, List.length_append] at ih'
      rw [if_pos ((n_lt (by omega) (by omega)).mpr (by omega)), if_pos ((n_zin (by omega)).mpr (by omega)), n_clamp (by omega), hB i (by omega), n_add1, n_add1]
      by_cases h0 : 0 < c i
      · rw [List.filter_cons_of_pos (p := fun s => decide (0 < c s)) (a := i) (decide_eq_true h0), List.filter_nil] at ih'
        rw [if_pos ((n_lt (by omega) (hc i (by omega))).mpr h0)]
        exact ih'
      · rw [List.filter_cons_of_neg (p := fun s => decide (0 < c s)) (a := i) (by rw [decide_eq_false h0]; simp), List.filter_nil] at ih'
        rw [if_neg (by rw [n_lt (by omega) (hc i (by omega))]; exact h0)]
        exact ih'
  exact e_Y_manySets hy (this 128 0 (by omega))
theorem q_setAt {c : Nat → Nat} (hy : zkd y = (17, 0)) (hB : BY y c M) (hc : ∀ s, s < 128 → c s < 2147483648) {k : Nat} (hk : k < 2147483648) : zEv (d + 1) zmY_setAt [.ref y, .int (nI k)] M = some (some (.int (match ((List.range 128).filter fun s => decide (0 < c s))[k]? with | some s => nI (2 * s) | none => -2)), M) := by
  have : ∀ n i m, i + n = 128 → m ≤ k → m < 2147483648 → h_Y_setAt_4 d y (nI k) (nI m) (nI i) M = some (some (.int (match ((List.range' i n).filter fun s => decide (0 < c s))[k - m]? with | some s => nI (2 * s) | none => -2)), M) := by
    intro n
    induction n with
    | zero =>
      intro i m h _ _
      refine e_Y_setAt_4 hy ?_
      rw [if_neg (by rw [n_lt (by omega) (by omega)]; omega), List.range'_zero, List.filter_nil]
      rfl
    | succ n ih =>
      intro i m h hm hm2
      refine e_Y_setAt_4 hy ?_
      rw [if_pos ((n_lt (by omega) (by omega)).mpr (by omega)), if_pos ((n_zin (by omega)).mpr (by omega)), n_clamp (by omega), hB i (by omega), n_add1, n_add1, List.range'_succ]
      by_cases h0 : 0 < c i
      · rw [if_pos ((n_lt (by omega) (hc i (by omega))).mpr h0), List.filter_cons_of_pos (p := fun s => decide (0 < c s)) (a := i) (decide_eq_true h0)]
        by_cases e : m = k
        · rw [if_pos (by rw [e]), e, Nat.sub_self, shl1]
          rfl
        · rw [if_neg (by rw [n_eq hm2 hk]; exact e), ih (i + 1) (m + 1) (by omega) (by omega) (by omega)]
          rw [show k - m = (k - (m + 1)) + 1 by omega, List.getElem?_cons_succ]
      · rw [if_neg (by rw [n_lt (by omega) (hc i (by omega))]; exact h0), List.filter_cons_of_neg (p := fun s => decide (0 < c s)) (a := i) (by rw [decide_eq_false h0]; simp)]
        exact ih (i + 1) m (by omega) hm hm2
  have h0 := this 128 0 0 (by omega) (by omega) (by omega)
  rw [← List.range_eq_range', Nat.sub_zero] at h0
  exact e_Y_setAt hy h0
end QY3
