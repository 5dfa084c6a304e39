/-! THE CLASS, 19: ways weighed -/
def stF (D : DF) (m : Nat) (S : Nat → Bool) : Nat → Bool := fun s => (List.range' 1 7).any fun g => m.testBit g && onD D g S s
def stB (D : DF) (m : Nat) (S : Nat → Bool) : Nat → Bool := fun s => (List.range' 1 7).any fun g => m.testBit g && bkD D g S s
def foF (D : DF) (ms : Nat → Nat) : Nat → Nat → Bool
  | 0 => fun s => decide (s = 0)
  | i + 1 => stF D (ms i) (foF D ms i)
/-- back by so many places from the end -/
def baJ (D : DF) (ms : Nat → Nat) (z : Nat) : Nat → Nat → Bool
  | 0 => D.2.2.2
  | j + 1 => stB D (ms (z - (j + 1))) (baJ D ms z j)
def pWg (q : Nat) : Nat → Nat → Prop := fun a k => (a = q ∧ (k = 15 ∨ k = 16)) ∨ (q + 6 ≤ a ∧ a ≤ q + 9)
theorem RRep.fr {D : DF} {z q : Nat} {p : Nat → Nat → Prop} {M M' : ZM} (h : RRep D z q M) (hf : fr (fun _ _ => False) p M M') (hp : ∀ a k, p a k → pWg q a k) : RRep D z q M' := by
  have e1 : ∀ a k, M'.1 a k = M.1 a k := fun a k => hf.1 a k (fun z => z)
  have e2 : ∀ a k, ¬ pWg q a k → M'.2 a k = M.2 a k := fun a k hn => hf.2 a k fun z => hn (hp a k z)
  unfold RRep
  rw [e1, e2 q 9 (fun z => by unfold pWg at z; omega), e2 q 10 (fun z => by unfold pWg at z; omega)]
  refine ⟨h.1, h.2.1, fun g h1 h7 => ?_⟩
  rw [e1, e2 (q + 1) g (fun z => by unfold pWg at z; omega), e2 (q + 2) g (fun z => by unfold pWg at z; omega), e2 (q + 3) g (fun z => by unfold pWg at z; omega), e2 (q + 4) g (fun z => by unfold pWg at z; omega)]
  exact h.2.2 g h1 h7
section QT
variable {d : Nat} {M : ZM} {D : DF} {z q e cz : Nat} {ms cs : Nat → Nat}
theorem q_marksAt (he : zkd e = (1, 36)) {c v : Nat} (hc : c < 36) (hm : M.1 e c = nI v) : zEv (d + 1) zmR_marksAt [.ref e, .int (nI c)] M = some (some (.int (nI v)), M) := by
  refine e_R_marksAt he ?_
  rw [if_neg (by rw [n_lt (by omega) (by omega)]; omega), if_pos ((n_lt (by omega) (by omega)).mpr hc), if_pos ((n_zin (by omega)).mpr hc), n_clamp (by omega), hm]
/-- the marks by place -/
def MsR (e cz z : Nat) (ms : Nat → Nat) (M : ZM) : Prop := ∀ i, i < z → ∃ c, c < 36 ∧ M.1 cz i = nI c ∧ M.1 e c = nI (ms i) ∧ ms i < 256
theorem MsR.fr {M M' : ZM} (h : MsR e cz z ms M) (hf : ∀ a k, M'.1 a k = M.1 a k) : MsR e cz z ms M' := fun i hi => by
  obtain ⟨c, h1, h2, h3, h4⟩ := h i hi
  exact ⟨c, h1, by rw [hf]; exact h2, by rw [hf]; exact h3, h4⟩
def pW60 (q i : Nat) : Nat → Nat → Prop := fun a k => (a = q ∧ (k = 15 ∨ k = 16)) ∨ ((a = q + 6 ∨ a = q + 7) ∧ k = i)
theorem q_weigh_60 (hq : zkd q = (13, 0)) (he : zkd e = (1, 36)) (hz : zkd cz = (1, 6)) (hD : DOk D) {i m : Nat} (hi : i < 6) (hm : m < 256) {S : Nat → Bool} : ∀ j g (M : ZM), g + j = 8 → 1 ≤ g → RRep D z q M → L2 S (M.2 (q + 6) i) (M.2 (q + 7) i) → L2 (fun s => (List.range' 1 (g - 1)).any fun g => m.testBit g && onD D g S s) (M.2 (q + 6) (i + 1)) (M.2 (q + 7) (i + 1)) →
    ∃ M1, fr (fun _ _ => False) (pW60 q (i + 1)) M M1 ∧ L2 (stF D m S) (M1.2 (q + 6) (i + 1)) (M1.2 (q + 7) (i + 1)) ∧ ∀ R, h_R_weigh_16 (d + 1) q e cz (nI (i + 1)) M1 = some R → h_R_weigh_60 (d + 1) q e cz (nI i) (nI m) (nI g) M = some R := by
  intro j
  induction j with
  | zero =>
    intro g M h h1 hR hS hA
    obtain rfl : g = 8 := by omega
    refine ⟨M, fr.refl, hA, fun R hr => e_R_weigh_60 hq he hz ?_⟩
    rw [if_pos (by decide), n_add1]
    exact hr
  | succ j ih =>
    intro g M h h1 hR hS hA
    have hb := n_bit (m := m) (d := g) (by omega) (by omega)
    have eR : List.range' 1 (g + 1 - 1) = List.range' 1 (g - 1) ++ [g] := by
      rw [show g + 1 - 1 = (g - 1) + 1 by omega, List.range'_concat, Nat.one_mul, show 1 + (g - 1) = g by omega]
    cases hbit : m.testBit g with
    | false =>
      obtain ⟨M1, a1, a2, a3⟩ := ih (g + 1) M (by omega) (by omega) hR hS (by
        rw [eR]
        exact hA.ext fun s _ => by rw [List.any_append, List.any_cons, List.any_nil, hbit, Bool.false_and, Bool.or_false, Bool.or_false])
      refine ⟨M1, a1, a2, fun R hr => e_R_weigh_60 hq he hz ?_⟩
      rw [if_neg (by rw [n_lt (by omega) (by omega)]; omega), if_neg (fun z => by rw [hb.mp z] at hbit; cases hbit), n_add1]
      exact a3 R hr
    | true =>
      obtain ⟨M2, b1, b2, b3⟩ := q_leadOn (d := d) hq hD hR h1 (show g ≤ 7 by omega) hS
      have n2 : ∀ a k, ¬ (a = q ∧ (k = 15 ∨ k = 16)) → M2.2 a k = M.2 a k := fun a k hn => b3.2 a k (fun z => by unfold pLd at z; exact hn z)
      have hA2 : L2 (fun s => (List.range' 1 (g - 1)).any fun g => m.testBit g && onD D g S s) (M2.2 (q + 6) (i + 1)) (M2.2 (q + 7) (i + 1)) := by
        rw [n2 _ _ (by omega), n2 _ _ (by omega)]
        exact hA
      have hor := hA2.or b2
      have f3 : fr (fun _ _ => False) (pW60 q (i + 1)) M (zpl (zpl M2 (q + 6) (i + 1) (M2.2 (q + 6) (i + 1) ||| M2.2 q 15)) (q + 7) (i + 1) (M2.2 (q + 7) (i + 1) ||| M2.2 q 16)) := ((b3.mono (fun _ _ z => z) (fun a k z => Or.inl z)).pl (Or.inr ⟨Or.inl rfl, rfl⟩)).pl (Or.inr ⟨Or.inr rfl, rfl⟩)
      obtain ⟨M1, a1, a2, a3⟩ := ih (g + 1) _ (by omega) (by omega) (hR.fr f3 (fun a k z => by unfold pW60 at z; unfold pWg; omega)) (by rw [f3.2 _ _ (fun z => by unfold pW60 at z; omega), f3.2 _ _ (fun z => by unfold pW60 at z; omega)]; exact hS) (by
        rw [eR, m_pl, if_neg (by omega), m_pl, if_pos ⟨rfl, rfl⟩, m_pl, if_pos ⟨rfl, rfl⟩]
        exact hor.ext fun s _ => by rw [List.any_append, List.any_cons, List.any_nil, hbit, Bool.true_and, Bool.or_false])
      refine ⟨M1, f3.trans a1, a2, fun R hr => e_R_weigh_60 hq he hz ?_⟩
      rw [if_neg (by rw [n_lt (by omega) (by omega)]; omega), if_pos (hb.mpr hbit), if_pos ((n_zin (by omega)).mpr (by omega)), n_clamp (by omega), b1, zC0_some, n_add1, if_pos ((n_zin (by omega)).mpr (by omega)), n_clamp (by omega), zLr, m_pl, if_neg (by omega), m_pl, if_neg (by omega), n_add1]
      exact a3 R hr
def pW16 (q : Nat) : Nat → Nat → Prop := fun a k => (a = q ∧ (k = 15 ∨ k = 16)) ∨ (a = q + 6 ∨ a = q + 7)
theorem q_weigh_16 (hq : zkd q = (13, 0)) (he : zkd e = (1, 36)) (hz : zkd cz = (1, 6)) (hD : DOk D) (h1z : 1 ≤ z) : ∀ j i (M : ZM), i + j = z → RRep D z q M → MsR e cz z ms M → (∀ i', i' ≤ i → L2 (foF D ms i') (M.2 (q + 6) i') (M.2 (q + 7) i')) →
    ∃ M1, fr (fun _ _ => False) (pWg q) M M1 ∧ (∀ i', i' ≤ z → L2 (foF D ms i') (M1.2 (q + 6) i') (M1.2 (q + 7) i')) ∧ L2 D.2.2.2 (M1.2 (q + 8) z) (M1.2 (q + 9) z) ∧ ∀ R, h_R_weigh_176 (d + 2) q e cz (nI z - nI 1) M1 = some R → h_R_weigh_16 (d + 2) q e cz (nI i) M = some R := by
  intro j
  induction j with
  | zero =>
    intro i M h hR hM hF
    obtain rfl : i = z := by omega
    have h6 := hR.1.2
    have f1 : fr (fun _ _ => False) (fun a k => (a = q + 8 ∨ a = q + 9) ∧ k = i) M (zpl (zpl M (q + 8) i (M.2 q 9)) (q + 9) i (M.2 q 10)) := (fr.refl.pl ⟨Or.inl rfl, rfl⟩).pl ⟨Or.inr rfl, rfl⟩
    refine ⟨_, f1.mono (fun _ _ z => z) (fun a k z => by unfold pWg; omega), fun i' hi' => ?_, ?_, fun R hr => e_R_weigh_16 hq he hz ?_⟩
    · rw [f1.2 _ _ (by omega), f1.2 _ _ (by omega)]
      exact hF i' hi'
    · rw [m_pl, if_neg (by omega), m_pl, if_pos ⟨rfl, rfl⟩, m_pl, if_pos ⟨rfl, rfl⟩]
      exact hR.2.1
    · have e3 : ∀ {x : Int64} {M : ZM} {a k : Nat}, (zpl M a k x).1 q 3 = M.1 q 3 := rfl
      rw [hR.1.1, if_neg (by rw [n_lt (by omega) (by omega)]; omega), if_pos ((n_zin (by omega)).mpr (by omega)), n_clamp (by omega), e3, hR.1.1, if_pos ((n_zin (by omega)).mpr (by omega)), n_clamp (by omega), zLr, m_pl, if_neg (by omega), e3, e3, hR.1.1, s_min (d := d + 1) (by omega) (by omega), zC1_some, if_neg (by omega)]
      exact hr
  | succ j ih =>
    intro i M h hR hM hF
    have h6 := hR.1.2
    obtain ⟨c, hc, hcz, hce, hm⟩ := hM i (by omega)
    have f1 : fr (fun _ _ => False) (pW60 q (i + 1)) M (zpl (zpl M (q + 6) (i + 1) (nJ 0)) (q + 7) (i + 1) (nJ 0)) := (fr.refl.pl (Or.inr ⟨Or.inl rfl, rfl⟩)).pl (Or.inr ⟨Or.inr rfl, rfl⟩)
    have sub : ∀ a k, pW60 q (i + 1) a k → pWg q a k := fun a k z => by unfold pW60 at z; unfold pWg; omega
    obtain ⟨M2, a1, a2, a3⟩ := q_weigh_60 (d := d + 1) (z := z) hq he hz hD (show i < 6 by omega) hm (S := foF D ms i) 7 1 _ (by omega) (by omega) (hR.fr f1 sub) (by rw [f1.2 _ _ (fun z => by unfold pW60 at z; omega), f1.2 _ _ (fun z => by unfold pW60 at z; omega)]; exact hF i (Nat.le_refl i)) (by
      rw [m_pl, if_neg (by omega), m_pl, if_pos ⟨rfl, rfl⟩, m_pl, if_pos ⟨rfl, rfl⟩]
      exact L2.no)
    have f2 := f1.trans a1
    obtain ⟨M1, b1, b2, b3, b4⟩ := ih (i + 1) M2 (by omega) (hR.fr f2 sub) (hM.fr fun a k => f2.1 a k (fun z => z)) (fun i' hi' => by
      by_cases e : i' = i + 1
      · rw [e]; exact a2
      · rw [f2.2 _ _ (fun z => by unfold pW60 at z; omega), f2.2 _ _ (fun z => by unfold pW60 at z; omega)]
        exact hF i' (by omega))
    refine ⟨M1, (f2.mono (fun _ _ z => z) sub).trans b1, b2, b3, fun R hr => e_R_weigh_16 hq he hz ?_⟩
    rw [hR.1.1, if_pos ((n_lt (by omega) (by omega)).mpr (by omega)), if_pos ((n_lt (by omega) (by omega)).mpr (by omega)), if_pos ((n_zin (by omega)).mpr (by omega)), n_clamp (by omega), hcz, q_marksAt (d := d + 1) he hc hce, zC1_some, n_add1, if_pos ((n_zin (by omega)).mpr (by omega)), n_clamp (by omega)]
    exact a3 _ (b4 R hr)
def pW206 (q i : Nat) : Nat → Nat → Prop := fun a k => (a = q ∧ (k = 15 ∨ k = 16)) ∨ ((a = q + 8 ∨ a = q + 9) ∧ k = i)
theorem q_weigh_206 (hq : zkd q = (13, 0)) (he : zkd e = (1, 36)) (hz : zkd cz = (1, 6)) (hD : DOk D) {i m : Nat} (hi : i < 6) (hm : m < 256) {S : Nat → Bool} : ∀ j g (M : ZM), g + j = 8 → 1 ≤ g → RRep D z q M → L2 S (M.2 (q + 8) (i + 1)) (M.2 (q + 9) (i + 1)) → L2 (fun s => (List.range' 1 (g - 1)).any fun g => m.testBit g && bkD D g S s) (M.2 (q + 8) i) (M.2 (q + 9) i) →
    ∃ M1, fr (fun _ _ => False) (pW206 q i) M M1 ∧ L2 (stB D m S) (M1.2 (q + 8) i) (M1.2 (q + 9) i) ∧ ∀ R, h_R_weigh_176 (d + 1) q e cz (nI i - nI 1) M1 = some R → h_R_weigh_206 (d + 1) q e cz (nI i) (nI m) (nI g) M = some R := by
  intro j
  induction j with
  | zero =>
    intro g M h h1 hR hS hA
    obtain rfl : g = 8 := by omega
    refine ⟨M, fr.refl, hA, fun R hr => e_R_weigh_206 hq he hz ?_⟩
    rw [if_pos (by decide), show nI i + (-1 : Int32) = nI i - nI 1 from (Int32.sub_eq_add_neg (nI i) (nI 1)).symm]
    exact hr
  | succ j ih =>
    intro g M h h1 hR hS hA
    have hb := n_bit (m := m) (d := g) (by omega) (by omega)
    have eR : List.range' 1 (g + 1 - 1) = List.range' 1 (g - 1) ++ [g] := by
      rw [show g + 1 - 1 = (g - 1) + 1 by omega, List.range'_concat, Nat.one_mul, show 1 + (g - 1) = g by omega]
    cases hbit : m.testBit g with
    | false =>
      obtain ⟨M1, a1, a2, a3⟩ := ih (g + 1) M (by omega) (by omega) hR hS (by
        rw [eR]
        exact hA.ext fun s _ => by rw [List.any_append, List.any_cons, List.any_nil, hbit, Bool.false_and, Bool.or_false, Bool.or_false])
      refine ⟨M1, a1, a2, fun R hr => e_R_weigh_206 hq he hz ?_⟩
      rw [if_neg (by rw [n_lt (by omega) (by omega)]; omega), if_neg (fun z => by rw [hb.mp z] at hbit; cases hbit), n_add1]
      exact a3 R hr
    | true =>
      obtain ⟨M2, b1, b2, b3⟩ := q_leadBack (d := d) hq hD hR h1 (show g ≤ 7 by omega) hS
      have n2 : ∀ a k, ¬ (a = q ∧ (k = 15 ∨ k = 16)) → M2.2 a k = M.2 a k := fun a k hn => b3.2 a k (fun z => by unfold pLd at z; exact hn z)
      have hA2 : L2 (fun s => (List.range' 1 (g - 1)).any fun g => m.testBit g && bkD D g S s) (M2.2 (q + 8) i) (M2.2 (q + 9) i) := by
        rw [n2 _ _ (by omega), n2 _ _ (by omega)]
        exact hA
      have hor := hA2.or b2
      have f3 : fr (fun _ _ => False) (pW206 q i) M (zpl (zpl M2 (q + 8) i (M2.2 (q + 8) i ||| M2.2 q 15)) (q + 9) i (M2.2 (q + 9) i ||| M2.2 q 16)) := ((b3.mono (fun _ _ z => z) (fun a k z => Or.inl z)).pl (Or.inr ⟨Or.inl rfl, rfl⟩)).pl (Or.inr ⟨Or.inr rfl, rfl⟩)
      obtain ⟨M1, a1, a2, a3⟩ := ih (g + 1) _ (by omega) (by omega) (hR.fr f3 (fun a k z => by unfold pW206 at z; unfold pWg; omega)) (by rw [f3.2 _ _ (fun z => by unfold pW206 at z; omega), f3.2 _ _ (fun z => by unfold pW206 at z; omega)]; exact hS) (by
        rw [eR, m_pl, if_neg (by omega), m_pl, if_pos ⟨rfl, rfl⟩, m_pl, if_pos ⟨rfl, rfl⟩]
        exact hor.ext fun s _ => by rw [List.any_append, List.any_cons, List.any_nil, hbit, Bool.true_and, Bool.or_false])
      refine ⟨M1, f3.trans a1, a2, fun R hr => e_R_weigh_206 hq he hz ?_⟩
      rw [if_neg (by rw [n_lt (by omega) (by omega)]; omega), if_pos (hb.mpr hbit), n_add1, if_pos ((n_zin (by omega)).mpr (by omega)), n_clamp (by omega), b1, zC0_some, if_pos ((n_zin (by omega)).mpr (by omega)), n_clamp (by omega), zLr, m_pl, if_neg (by omega), m_pl, if_neg (by omega), n_add1]
      exact a3 R hr
theorem q_weigh_176 (hq : zkd q = (13, 0)) (he : zkd e = (1, 36)) (hz : zkd cz = (1, 6)) (hD : DOk D) : ∀ i (M : ZM), i ≤ z → RRep D z q M → MsR e cz z ms M → (∀ i', i ≤ i' → i' ≤ z → L2 (baJ D ms z (z - i')) (M.2 (q + 8) i') (M.2 (q + 9) i')) →
    ∃ M1, h_R_weigh_176 (d + 2) q e cz (nI i - nI 1) M = some (some (.int (nB (baJ D ms z z 0))), M1) ∧ fr (fun _ _ => False) (pWg q) M M1 ∧ (∀ a k, a = q + 6 ∨ a = q + 7 → M1.2 a k = M.2 a k) ∧ ∀ i', i' ≤ z → L2 (baJ D ms z (z - i')) (M1.2 (q + 8) i') (M1.2 (q + 9) i') := by
  intro i
  induction i with
  | zero =>
    intro M hi hR hM hF
    have h0 := hF 0 (Nat.le_refl 0) (Nat.zero_le z)
    rw [Nat.sub_zero] at h0
    have hb0 : (lg_cmp ((M.2 (q + 8) 0) &&& nJ 1) (nJ 1) = nI 0) ↔ baJ D ms z z 0 = true := by
      have hlt : (msk 64 (baJ D ms z z)) &&& 1 < 2 := by rw [Nat.and_one_is_mod]; omega
      rw [h0.1, show nI 0 = (0 : Int32) from rfl, lg_cmp_eq, l_and, l_eq (by omega) (by omega), Nat.and_one_is_mod]
      have := mb64 (p := baJ D ms z z) (i := 0)
      rw [Nat.testBit_zero, decide_eq_true (show 0 < 64 by omega), Bool.true_and] at this
      rw [← this, decide_eq_true_eq]
    refine ⟨M, e_R_weigh_176 hq he hz ?_, fr.refl, fun _ _ _ => rfl, fun i' hi' => hF i' (Nat.zero_le _) hi'⟩
    rw [if_pos (by decide)]
    cases hb : baJ D ms z z 0 with
    | true => rw [if_pos (hb0.mpr hb)]; rfl
    | false => rw [if_neg (fun z => by rw [hb0.mp z] at hb; cases hb)]; rfl
  | succ i ih =>
    intro M hi hR hM hF
    have h6 := hR.1.2
    obtain ⟨c, hc, hcz, hce, hm⟩ := hM i (by omega)
    have f1 : fr (fun _ _ => False) (pW206 q i) M (zpl (zpl M (q + 8) i (nJ 0)) (q + 9) i (nJ 0)) := (fr.refl.pl (Or.inr ⟨Or.inl rfl, rfl⟩)).pl (Or.inr ⟨Or.inr rfl, rfl⟩)
    have sub : ∀ a k, pW206 q i a k → pWg q a k := fun a k z => by unfold pW206 at z; unfold pWg; omega
    obtain ⟨M2, a1, a2, a3⟩ := q_weigh_206 (d := d + 1) (z := z) hq he hz hD (show i < 6 by omega) hm (S := baJ D ms z (z - (i + 1))) 7 1 _ (by omega) (by omega) (hR.fr f1 sub) (by rw [f1.2 _ _ (fun z => by unfold pW206 at z; omega), f1.2 _ _ (fun z => by unfold pW206 at z; omega)]; exact hF (i + 1) (Nat.le_refl _) hi) (by
      rw [m_pl, if_neg (by omega), m_pl, if_pos ⟨rfl, rfl⟩, m_pl, if_pos ⟨rfl, rfl⟩]
      exact L2.no)
    have f2 := f1.trans a1
    have eJ : baJ D ms z (z - i) = stB D (ms i) (baJ D ms z (z - (i + 1))) := by
      rw [show z - i = (z - (i + 1)) + 1 by omega]
      show stB D (ms (z - (z - (i + 1) + 1))) _ = _
      rw [show z - (z - (i + 1) + 1) = i by omega]
    obtain ⟨M1, b1, b2, b3, b4⟩ := ih M2 (by omega) (hR.fr f2 sub) (hM.fr fun a k => f2.1 a k (fun z => z)) (fun i' h1 h2 => by
      by_cases e : i' = i
      · rw [e, eJ]; exact a2
      · rw [f2.2 _ _ (fun z => by unfold pW206 at z; omega), f2.2 _ _ (fun z => by unfold pW206 at z; omega)]
        exact hF i' (by omega) h2)
    refine ⟨M1, e_R_weigh_176 hq he hz ?_, (f2.mono (fun _ _ z => z) sub).trans b2, fun a k h => (b3 a k h).trans (f2.2 a k (fun z => by unfold pW206 at z; omega)), b4⟩
    rw [n_sub (show 1 ≤ i + 1 by omega), Nat.add_sub_cancel, if_neg (by rw [n_lt (by omega) (by omega)]; omega), if_pos ((n_zin (by omega)).mpr (by omega)), n_clamp (by omega), hcz, q_marksAt (d := d + 1) he hc hce, zC1_some, if_pos ((n_zin (by omega)).mpr (by omega))]
    exact a3 _ b1
/-- what weigh leaves -/
def WgR (D : DF) (ms : Nat → Nat) (z q : Nat) (M : ZM) : Prop := ∀ i, i ≤ z → L2 (foF D ms i) (M.2 (q + 6) i) (M.2 (q + 7) i) ∧ L2 (baJ D ms z (z - i)) (M.2 (q + 8) i) (M.2 (q + 9) i)
theorem q_weigh (hq : zkd q = (13, 0)) (he : zkd e = (1, 36)) (hz : zkd cz = (1, 6)) (hD : DOk D) (h1z : 1 ≤ z) (hR : RRep D z q M) (hM : MsR e cz z ms M) : ∃ M', zEv (d + 3) zmR_weigh [.ref q, .ref e, .ref cz] M = some (some (.int (nB (baJ D ms z z 0))), M') ∧ fr (fun _ _ => False) (pWg q) M M' ∧ WgR D ms z q M' := by
  have f1 : fr (fun _ _ => False) (pWg q) M (zpl (zpl M (q + 6) 0 (nJ 1)) (q + 7) 0 (nJ 0)) := (fr.refl.pl (Or.inr ⟨by omega, by omega⟩)).pl (Or.inr ⟨by omega, by omega⟩)
  have h0 : L2 (foF D ms 0) (nJ 1) (nJ 0) := by
    constructor
    · refine nJ_ext fun i hi => ?_
      rw [mb64, decide_eq_true hi, Bool.true_and]
      show Nat.testBit (2 ^ 0) i = decide (i = 0)
      rw [Nat.testBit_two_pow]
      by_cases e : i = 0
      · rw [decide_eq_true e, decide_eq_true e.symm]
      · rw [decide_eq_false e, decide_eq_false (fun z => e z.symm)]
    · rw [msk_congr (q := fun _ => false) fun i hi => by show decide (64 + i = 0) = false; exact decide_eq_false (by omega), msk0]
  obtain ⟨M1, a1, a2, a3, a4⟩ := q_weigh_16 (d := d) (ms := ms) hq he hz hD h1z z 0 _ (by omega) (hR.fr f1 (fun _ _ z => z)) (hM.fr fun a k => f1.1 a k (fun z => z)) (fun i' hi' => by
    rw [show i' = 0 by omega, m_pl, if_neg (by omega), m_pl, if_pos ⟨rfl, rfl⟩, m_pl, if_pos ⟨rfl, rfl⟩]
    exact h0)
  have f2 := f1.trans a1
  obtain ⟨M2, b1, b2, b3, b4⟩ := q_weigh_176 (d := d) (ms := ms) hq he hz hD z M1 (Nat.le_refl z) (hR.fr f2 (fun _ _ z => z)) (hM.fr fun a k => f2.1 a k (fun z => z)) (fun i' h1 h2 => by
    rw [show i' = z by omega, Nat.sub_self]
    exact a3)
  refine ⟨M2, e_R_weigh hq he hz (a4 _ b1), f2.trans b2, fun i hi => ⟨?_, b4 i hi⟩⟩
  rw [b3 _ _ (Or.inl rfl), b3 _ _ (Or.inr rfl)]
  exact a2 i hi
end QT
