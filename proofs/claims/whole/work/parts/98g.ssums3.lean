/-! THE CLASS, 43: whether the sums fit, all rows -/
section QE3
variable {d : Nat} {b : Nat → Nat} {q : Nat}
theorem q_sumsFit_83 {x : Nat → Nat} {G : Prop} {many ra pl : Nat} (hm : many ≤ 12) (hra : ra < many) (hpl : pl < 16) : ∀ n ro (M : ZM), ro + n = many → ra < ro → EQs x G many ra pl M → (∀ r, ra < r → r < ro → M.1 (565 + r) pl = nI 0) → ∃ M', (∀ rr, h_S_sumsFit_53 (d + 2) (nI many) (nI (ra + 1)) (nI (pl + 1)) M' = some rr → h_S_sumsFit_83 (d + 2) (nI many) (nI ra) (nI pl) (nI ro) M = some rr) ∧ EQs x G many (ra + 1) (pl + 1) M' ∧ frI pEq M M' := by
  intro n
  induction n with
  | zero =>
    intro ro M h hro hE hz
    refine ⟨M, fun rr hrr => e_S_sumsFit_83 ?_, ⟨hE.1, fun r h1 h2 j hj => ?_⟩, fr.refl⟩
    · rw [if_neg (by rw [n_lt (by omega) (by omega)]; omega), n_add1, n_add1]
      exact hrr
    · by_cases e : j = pl
      · rw [e]; exact hz r (by omega) (by omega)
      · exact hE.2 r (by omega) h2 j (by omega)
  | succ n ih =>
    intro ro M h hro hE hz
    obtain ⟨M1, a1, a2, a3, a4, a5⟩ := q_reduce (d := d) (pl := pl) (zk_eq (r := ro) (by omega)) (zk_eq (r := ra) (by omega)) (by omega) hpl (hE.1 ro (by omega)) (hE.1 ra hra)
    have hE1 : EQs x G many ra pl M1 := ⟨fun r hr => by
        by_cases e : r = ro
        · rw [e]; exact a2
        · exact (hE.1 r hr).cg fun i _ => a5.1 (565 + r) i (by omega), fun r h1 h2 j hj => by
        by_cases e : r = ro
        · rw [e]; exact a4 j (by omega) (hE.2 ro (by omega) (by omega) j hj) (hE.2 ra (Nat.le_refl ra) hra j hj)
        · rw [a5.1 (565 + r) j (by omega)]; exact hE.2 r h1 h2 j hj⟩
    obtain ⟨M', b1, b2, b3⟩ := ih (ro + 1) M1 (by omega) (by omega) hE1 (fun r h1 h2 => by
        by_cases e : r = ro
        · rw [e]; exact a3
        · rw [a5.1 (565 + r) pl (by omega)]; exact hz r h1 (by omega))
    refine ⟨M', fun rr hrr => e_S_sumsFit_83 ?_, b2, (a5.mono (fun a _ z => by unfold pEq; omega) fun _ _ z => z).trans b3⟩
    rw [if_pos ((n_lt (by omega) (by omega)).mpr (by omega)), if_pos ((n_zin (by omega)).mpr (by omega)), if_pos ((n_zin (by omega)).mpr (by omega)), n_clamp (by omega), n_clamp (by omega), a1, zC0_some, n_add1]
    exact b1 rr hrr
theorem q_sumsFit_125 {x : Nat → Nat} {G : Prop} {many ra pl : Nat} {M : ZM} (hm : many ≤ 12) (hE : EQs x G many ra pl M) (hx : ∀ j, pl ≤ j → x j = 0) : ∀ n ro, ro + n = many → ra ≤ ro → ∃ v, h_S_sumsFit_125 d (nI many) (nI ro) M = some (some (.int (nB v)), M) ∧ (v = false → ¬ G) := by
  intro n
  induction n with
  | zero =>
    intro ro h _
    refine ⟨true, e_S_sumsFit_125 ?_, fun z => by cases z⟩
    rw [if_neg (by rw [n_lt (by omega) (by omega)]; omega)]
    rfl
  | succ n ih =>
    intro ro h hro
    obtain ⟨e, e1, e2⟩ := hE.1 ro (by omega)
    have h16 := e1 16 (by omega)
    have e0 : ∀ rr, (if nI (e 16) = nI 0 then h_S_sumsFit_125 d (nI many) (nI (ro + 1)) M else some (some (.int (nI 0)), M)) = some rr → h_S_sumsFit_125 d (nI many) (nI ro) M = some rr := fun rr hrr => by
      refine e_S_sumsFit_125 ?_
      rw [if_pos ((n_lt (by omega) (by omega)).mpr (by omega)), if_pos ((n_zin (by omega)).mpr (by omega)), n_clamp (by omega), h16.1, n_add1]
      exact hrr
    by_cases hz : e 16 = 0
    · obtain ⟨v, a1, a2⟩ := ih (ro + 1) (by omega) (by omega)
      exact ⟨v, e0 _ (by rw [hz, if_pos rfl]; exact a1), a2⟩
    · refine ⟨false, e0 _ (by rw [if_neg (by rw [n_eq (by omega) (by omega)]; exact hz)]; rfl), fun _ hG => ?_⟩
      obtain ⟨z, hz2⟩ := e2 hG
      rw [sumZ_0 fun j hj => by
        by_cases hp : j < pl
        · have h1 := hE.2 ro hro (by omega) j hp
          have h2 := e1 j (by omega)
          rw [h2.1, n_eq (by omega) (by omega)] at h1
          rw [h1]
          exact Int.zero_mul _
        · rw [hx j (by omega)]
          exact Int.mul_zero _] at hz2
      have := h16.2
      omega
theorem q_sumsFit_53 {x : Nat → Nat} {G : Prop} {many : Nat} (hm : many ≤ 12) (h16 : openN b ≤ 16) (hx : ∀ j, openN b ≤ j → x j = 0) : ∀ n pl ra (M : ZM), pl + n = openN b → ra ≤ many → EQs x G many ra pl M → M.1 411 1 = nI (openN b) → ∃ v M', h_S_sumsFit_53 (d + 2) (nI many) (nI ra) (nI pl) M = some (some (.int (nB v)), M') ∧ (v = false → ¬ G) ∧ frI pEq M M' := by
  intro n
  induction n with
  | zero =>
    intro pl ra M h hra hE hP
    obtain ⟨v, a1, a2⟩ := q_sumsFit_125 (d := d + 2) hm hE (fun j hj => hx j (by omega)) (many - ra) ra (by omega) (Nat.le_refl ra)
    refine ⟨v, M, e_S_sumsFit_53 ?_, a2, fr.refl⟩
    rw [hP, if_neg (by rw [n_lt (by omega) (by omega)]; omega)]
    exact a1
  | succ n ih =>
    intro pl ra M h hra hE hP
    by_cases hr : ra < many
    · obtain ⟨v, M1, a1, a2, a3, a4⟩ := q_bringUp (d := d + 1) hm hr (by omega) hE
      have hP1 : M1.1 411 1 = nI (openN b) := (a4.1 411 1 (by unfold pEq; omega)).trans hP
      have e0 : ∀ rr, (if nB v = nI 0 then h_S_sumsFit_53 (d + 2) (nI many) (nI ra) (nI (pl + 1)) M1 else h_S_sumsFit_83 (d + 2) (nI many) (nI ra) (nI pl) (nI (ra + 1)) M1) = some rr → h_S_sumsFit_53 (d + 2) (nI many) (nI ra) (nI pl) M = some rr := fun rr hrr => by
        refine e_S_sumsFit_53 ?_
        rw [hP, if_pos ((n_lt (by omega) (by omega)).mpr (by omega)), if_pos ((n_lt (by omega) (by omega)).mpr hr), a1, zC1_some, n_add1, n_add1]
        exact hrr
      cases v with
      | false =>
        obtain ⟨w, M', b1, b2, b3⟩ := ih (pl + 1) ra M1 (by omega) hra (a3 rfl) hP1
        exact ⟨w, M', e0 _ (by rw [if_pos (show nB false = nI 0 from rfl)]; exact b1), b2, a4.trans b3⟩
      | true =>
        obtain ⟨M2, b1, b2, b3⟩ := q_sumsFit_83 (d := d) hm hr (by omega) (many - (ra + 1)) (ra + 1) M1 (by omega) (by omega) a2 (fun r h1 h2 => by omega)
        obtain ⟨w, M', c1, c2, c3⟩ := ih (pl + 1) (ra + 1) M2 (by omega) (by omega) b2 ((b3.1 411 1 (by unfold pEq; omega)).trans hP1)
        exact ⟨w, M', e0 _ (by rw [if_neg (show ¬ nB true = nI 0 by decide)]; exact b1 _ c1), c2, a4.trans (b3.trans c3)⟩
    · refine ⟨true, M, e_S_sumsFit_53 ?_, (fun z => by cases z), fr.refl⟩
      rw [hP, if_pos ((n_lt (by omega) (by omega)).mpr (by omega)), if_neg (by rw [n_lt (by omega) (by omega)]; exact hr)]
      refine e_S_sumsFit_125 ?_
      rw [if_neg (by rw [n_lt (by omega) (by omega)]; exact hr)]
      rfl
theorem q_sumsFit_4 (hq : zkd q = (10, 0)) (hq2 : q + 18 < 126) (hW : Wf b) {ms g : Nat → Nat} (hM : MV b ms) : ∀ n k many (M : ZM), k + n = b 3 → many ≤ k → BRep b q M → SPl b M → SRw 0 ms M → EQs (xG b g) (g ∈ SL b ms) many 0 0 M → ∃ v M', h_S_sumsFit_4 (d + 2) q (nI many) (nI k) M = some (some (.int (nB v)), M') ∧ (v = false → ¬ g ∈ SL b ms) ∧ frI pEq M M' := by
  have h12 := hW.1.2.2.2
  have h16 := hW.2.2.2.2.1
  intro n
  induction n with
  | zero =>
    intro k many M h hk hB hP hR hE
    obtain ⟨v, M', a1, a2⟩ := q_sumsFit_53 (d := d) (b := b) (x := xG b g) (G := g ∈ SL b ms) (many := many) (by omega) h16 (fun j hj => if_neg (by omega)) (openN b) 0 0 M (by omega) (Nat.zero_le _) hE hP.1
    refine ⟨v, M', e_S_sumsFit_4 hq ?_, a2⟩
    rw [hB.1.2.2, if_neg (by rw [n_lt (by omega) (by omega)]; omega)]
    exact a1
  | succ n ih =>
    intro k many M h hk hB hP hR hE
    have hkb : k < b 3 := by omega
    have hgk := hW.2.2.2.2.2 k hkb
    have hg3 := hgk.1.1
    by_cases hs : b (148 + 10 * k) = 0
    · obtain ⟨M1, a1, a2, a3⟩ := q_layEq (d := d) hq hq2 hW hM hkb (r := many) (by omega) hB hP hR
      have f1 : frI pEq M M1 := a3.mono (fun a _ z => by unfold pEq; omega) fun _ _ z => z
      obtain ⟨v, M', b1, b2, b3⟩ := ih (k + 1) (many + 1) M1 (by omega) (by omega) (hB.fr a3 h12 (fun a x z => by omega) fun a x z => z.elim) ⟨(a3.1 411 1 (by omega)).trans hP.1, fun p hp => (a3.1 544 p (by omega)).trans (hP.2 p hp)⟩ (fun c hc => (a3.1 (547 + 0) c (by omega)).trans (hR c hc)) ⟨fun r hr => by
        by_cases e : r = many
        · rw [e]; exact a2.er hW hM hkb hs
        · exact (hE.1 r (by omega)).cg fun i _ => a3.1 (565 + r) i (by omega), fun r _ _ j hj => absurd hj (Nat.not_lt_zero j)⟩
      refine ⟨v, M', e_S_sumsFit_4 hq ?_, b2, f1.trans b3⟩
      rw [hB.1.2.2, if_pos ((n_lt (by omega) (by omega)).mpr hkb), if_pos ((n_lt (by omega) (by omega)).mpr (by omega)), if_pos ((n_zin (by omega)).mpr (by omega)), n_clamp (by omega), (hB.2.2.2 k hkb).1.1.1, hs, if_pos rfl, if_pos ((n_zin (by omega)).mpr (by omega)), n_clamp (by omega), a1, zC0_some, n_add1, n_add1]
      exact b1
    · obtain ⟨v, M', b1, b2⟩ := ih (k + 1) many M (by omega) (by omega) hB hP hR hE
      refine ⟨v, M', e_S_sumsFit_4 hq ?_, b2⟩
      rw [hB.1.2.2, if_pos ((n_lt (by omega) (by omega)).mpr hkb), if_pos ((n_lt (by omega) (by omega)).mpr (by omega)), if_pos ((n_zin (by omega)).mpr (by omega)), n_clamp (by omega), (hB.2.2.2 k hkb).1.1.1, if_neg (by rw [n_eq (by omega) (by omega)]; exact hs), n_add1]
      exact b1
/-- if the sums don't fit there is no solution -/
theorem q_sumsFit (hq : zkd q = (10, 0)) (hq2 : q + 18 < 126) (hW : Wf b) {ms : Nat → Nat} (hM : MV b ms) {M : ZM} (hB : BRep b q M) (hP : SPl b M) (hR : SRw 0 ms M) : ∃ v M', zEv (d + 3) zmS_sumsFit [.ref 411, .ref q] M = some (some (.int (nB v)), M') ∧ (v = false → SL b ms = []) ∧ frI pEq M M' := by
  cases hL : SL b ms with
  | nil =>
    obtain ⟨v, M', a1, _, a3⟩ := q_sumsFit_4 (d := d) (g := fun _ => 0) hq hq2 hW hM (b 3) 0 0 M (by omega) (Nat.le_refl 0) hB hP hR ⟨fun r hr => absurd hr (Nat.not_lt_zero r), fun r _ hr => absurd hr (Nat.not_lt_zero r)⟩
    exact ⟨v, M', e_S_sumsFit hq a1, fun _ => rfl, a3⟩
  | cons g L =>
    obtain ⟨v, M', a1, a2, a3⟩ := q_sumsFit_4 (d := d) (g := g) hq hq2 hW hM (b 3) 0 0 M (by omega) (Nat.le_refl 0) hB hP hR ⟨fun r hr => absurd hr (Nat.not_lt_zero r), fun r _ hr => absurd hr (Nat.not_lt_zero r)⟩
    exact ⟨v, M', e_S_sumsFit hq a1, fun hv => absurd (show g ∈ SL b ms by rw [hL]; exact List.mem_cons_self) (a2 hv), a3⟩
end QE3
