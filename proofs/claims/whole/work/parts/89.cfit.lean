/-! THE CLASS, 24: fitting a rule -/
theorem L2.set1 {S : Nat → Bool} {a b : Int64} (h : L2 S a b) {s : Nat} (hs : s < 64) : L2 (fun σ => S σ || decide (σ = s)) (a ||| (nJ 1 <<< (Int32.toInt64 (nI s) &&& 63))) b := by
  constructor
  · rw [h.1, l_shl hs, Nat.shiftLeft_eq, Nat.one_mul, l_or]
    refine nJ_ext fun i hi => ?_
    rw [Nat.testBit_or, mb64, mb64, Nat.testBit_two_pow, decide_eq_true hi, Bool.true_and, Bool.true_and]
    congr 1
    exact decide_eq_decide.mpr ⟨fun h => h.symm, fun h => h.symm⟩
  · rw [h.2]
    refine nJ_ext fun i hi => ?_
    rw [mb64, mb64, decide_eq_true hi, Bool.true_and, Bool.true_and]
    show S (64 + i) = (S (64 + i) || decide (64 + i = s))
    rw [decide_eq_false (show ¬ 64 + i = s by omega), Bool.or_false]
theorem L2.set2 {S : Nat → Bool} {a b : Int64} (h : L2 S a b) {s : Nat} (h64 : 64 ≤ s) (hs : s < 128) : L2 (fun σ => S σ || decide (σ = s)) a (b ||| (nJ 1 <<< (Int32.toInt64 (nI (s - 64)) &&& 63))) := by
  constructor
  · rw [h.1]
    refine nJ_ext fun i hi => ?_
    rw [mb64, mb64, decide_eq_true hi, Bool.true_and, Bool.true_and]
    show S i = (S i || decide (i = s))
    rw [decide_eq_false (show ¬ i = s by omega), Bool.or_false]
  · rw [h.2, l_shl (by omega), Nat.shiftLeft_eq, Nat.one_mul, l_or]
    refine nJ_ext fun i hi => ?_
    rw [Nat.testBit_or, mb64, mb64, Nat.testBit_two_pow, decide_eq_true hi, Bool.true_and, Bool.true_and]
    congr 1
    exact decide_eq_decide.mpr ⟨fun h => by omega, fun h => by omega⟩
/-- a rule without its size -/
def RP (D : DF) (q : Nat) (M : ZM) : Prop := L2 D.2.2.2 (M.2 q 9) (M.2 q 10) ∧
  ∀ g, 1 ≤ g → g ≤ 7 → (L2 (D.1 g) (M.2 (q + 1) g) (M.2 (q + 2) g) ∧ L2 (D.2.1 g) (M.2 (q + 3) g) (M.2 (q + 4) g)) ∧ M.1 (q + 5) g = nI (D.2.2.1 g)
def pF1 (q : Nat) : Nat → Nat → Prop := fun a _ => a = q + 5
def pF2 (q : Nat) : Nat → Nat → Prop := fun a k => (a = q ∧ (k = 9 ∨ k = 10)) ∨ (q + 1 ≤ a ∧ a ≤ q + 4)
theorem RP.ext {D D' : DF} {q : Nat} {M : ZM} (h : RP D q M) (hg : ∀ g, 1 ≤ g → g ≤ 7 → (∀ s, s < 128 → D'.1 g s = D.1 g s ∧ D'.2.1 g s = D.2.1 g s) ∧ D'.2.2.1 g = D.2.2.1 g) (hgo : ∀ s, s < 128 → D'.2.2.2 s = D.2.2.2 s) : RP D' q M :=
  ⟨h.1.ext hgo, fun g h1 h7 => ⟨⟨(h.2 g h1 h7).1.1.ext fun s hs => ((hg g h1 h7).1 s hs).1, (h.2 g h1 h7).1.2.ext fun s hs => ((hg g h1 h7).1 s hs).2⟩, (h.2 g h1 h7).2.trans (by rw [(hg g h1 h7).2])⟩⟩
theorem RP.upd {D D' : DF} {q g : Nat} {M M' : ZM} (h : RP D q M) (e1 : ∀ a k, ¬ (a = q + 5 ∧ k = g) → M'.1 a k = M.1 a k) (e2 : ∀ a k, ¬ ((q + 1 ≤ a ∧ a ≤ q + 4) ∧ k = g) → M'.2 a k = M.2 a k) (hg : 1 ≤ g → g ≤ 7 → (L2 (D'.1 g) (M'.2 (q + 1) g) (M'.2 (q + 2) g) ∧ L2 (D'.2.1 g) (M'.2 (q + 3) g) (M'.2 (q + 4) g)) ∧ M'.1 (q + 5) g = nI (D'.2.2.1 g))
    (ho : ∀ x, x ≠ g → 1 ≤ x → x ≤ 7 → (∀ s, s < 128 → D'.1 x s = D.1 x s ∧ D'.2.1 x s = D.2.1 x s) ∧ D'.2.2.1 x = D.2.2.1 x) (hgo : ∀ s, s < 128 → D'.2.2.2 s = D.2.2.2 s) : RP D' q M' := by
  refine ⟨?_, fun x h1 h7 => ?_⟩
  · rw [e2 q 9 (by omega), e2 q 10 (by omega)]
    exact h.1.ext hgo
  · by_cases e : x = g
    · rw [e]
      exact hg (by omega) (by omega)
    · rw [e2 (q + 1) x (by omega), e2 (q + 2) x (by omega), e2 (q + 3) x (by omega), e2 (q + 4) x (by omega), e1 (q + 5) x (by omega), (ho x e h1 h7).2]
      exact ⟨⟨(h.2 x h1 h7).1.1.ext fun s hs => ((ho x e h1 h7).1 s hs).1, (h.2 x h1 h7).1.2.ext fun s hs => ((ho x e h1 h7).1 s hs).2⟩, (h.2 x h1 h7).2⟩
section QF
variable {d : Nat} {M : ZM} {q : Nat}
/-- one state more is the goal -/
theorem q_aim (hq : zkd q = (13, 0)) {D : DF} (hR : RP D q M) {s : Nat} (hs : s < 128) : ∃ M', zEv (d + 1) zmR_aim [.ref q, .int (nI s)] M = some (none, M') ∧ RP (D.1, D.2.1, D.2.2.1, fun σ => D.2.2.2 σ || decide (σ = s)) q M' ∧ fr (pF1 q) (pF2 q) M M' := by
  by_cases h : s < 64
  · refine ⟨_, e_R_aim hq (if_pos ((n_lt (by omega) (by omega)).mpr h)), ⟨?_, fun g h1 h7 => ?_⟩, fr.refl.pl (Or.inl ⟨rfl, Or.inl rfl⟩)⟩
    · rw [m_pl, m_pl, if_pos ⟨rfl, rfl⟩, if_neg (by omega)]
      exact hR.1.set1 h
    · rw [m_pl, m_pl, m_pl, m_pl, m_pl1, if_neg (by omega), if_neg (by omega), if_neg (by omega), if_neg (by omega)]
      exact hR.2 g h1 h7
  · refine ⟨_, e_R_aim hq ((if_neg (by rw [n_lt (by omega) (by omega)]; exact h)).trans (by rw [n_sub (by omega)])), ⟨?_, fun g h1 h7 => ?_⟩, fr.refl.pl (Or.inl ⟨rfl, Or.inr rfl⟩)⟩
    · rw [m_pl, m_pl, if_neg (by omega), if_pos ⟨rfl, rfl⟩]
      exact hR.1.set2 (by omega) hs
    · rw [m_pl, m_pl, m_pl, m_pl, m_pl1, if_neg (by omega), if_neg (by omega), if_neg (by omega), if_neg (by omega)]
      exact hR.2 g h1 h7
/-- one move more -/
theorem q_allow (hq : zkd q = (13, 0)) {D : DF} (hR : RP D q M) {s g : Nat} (hs : s < 128) (h1 : 1 ≤ g) (h7 : g ≤ 7) : ∃ M', zEv (d + 1) zmR_allow [.ref q, .int (nI g), .int (nI s)] M = some (none, M') ∧ RP (D.1, (fun x σ => D.2.1 x σ || (decide (x = g) && decide (σ = s))), D.2.2.1, D.2.2.2) q M' ∧ fr (pF1 q) (pF2 q) M M' := by
  have ho : ∀ x, x ≠ g → 1 ≤ x → x ≤ 7 → (∀ s', s' < 128 → D.1 x s' = D.1 x s' ∧ (D.2.1 x s' || (decide (x = g) && decide (s' = s))) = D.2.1 x s') ∧ D.2.2.1 x = D.2.2.1 x := fun x hx _ _ => ⟨fun s' _ => ⟨rfl, by rw [decide_eq_false hx, Bool.false_and, Bool.or_false]⟩, rfl⟩
  obtain ⟨⟨r1, r2⟩, r3⟩ := hR.2 g h1 h7
  by_cases h : s < 64
  · refine ⟨zpl M (q + 3) g (M.2 (q + 3) g ||| nJ 1 <<< (Int32.toInt64 (nI s) &&& 63)), e_R_allow hq ((if_pos ((n_lt (by omega) (by omega)).mpr h)).trans (by rw [if_pos ((n_zin (by omega)).mpr (by omega)), n_clamp (by omega)])), hR.upd (g := g) (fun a k _ => rfl) (fun a k z => by rw [m_pl, if_neg (by omega)]) (fun _ _ => ?_) ho (fun _ _ => rfl), fr.refl.pl (Or.inr ⟨by omega, by omega⟩)⟩
    rw [m_pl, m_pl, m_pl, m_pl, m_pl1, if_neg (by omega), if_neg (by omega), if_pos ⟨rfl, rfl⟩, if_neg (by omega)]
    exact ⟨⟨r1, (r2.set1 h).ext fun s' _ => by dsimp only; rw [decide_eq_true (show g = g from rfl), Bool.true_and]⟩, r3⟩
  · refine ⟨zpl M (q + 4) g (M.2 (q + 4) g ||| nJ 1 <<< (Int32.toInt64 (nI (s - 64)) &&& 63)), e_R_allow hq ((if_neg (by rw [n_lt (by omega) (by omega)]; exact h)).trans (by rw [if_pos ((n_zin (by omega)).mpr (by omega)), n_clamp (by omega), n_sub (by omega)])), hR.upd (g := g) (fun a k _ => rfl) (fun a k z => by rw [m_pl, if_neg (by omega)]) (fun _ _ => ?_) ho (fun _ _ => rfl), fr.refl.pl (Or.inr ⟨by omega, by omega⟩)⟩
    rw [m_pl, m_pl, m_pl, m_pl, m_pl1, if_neg (by omega), if_neg (by omega), if_neg (by omega), if_pos ⟨rfl, rfl⟩]
    exact ⟨⟨r1, (r2.set2 (by omega) hs).ext fun s' _ => by dsimp only; rw [decide_eq_true (show g = g from rfl), Bool.true_and]⟩, r3⟩
def noD : DF := (fun _ _ => false, fun _ _ => false, fun _ => 0, fun _ => false)
theorem q_forget_l (hq : zkd q = (13, 0)) : ∀ j i (M : ZM), i + j = 8 → (∀ g, g < i → ((M.2 (q + 1) g = nJ 0 ∧ M.2 (q + 2) g = nJ 0) ∧ (M.2 (q + 3) g = nJ 0 ∧ M.2 (q + 4) g = nJ 0)) ∧ M.1 (q + 5) g = nI 0) → ∃ M', h_R_forget_2 d q (nI i) M = some (none, M') ∧ RP noD q M' ∧ fr (pF1 q) (pF2 q) M M' := by
  intro j
  induction j with
  | zero =>
    intro i M h hz
    refine ⟨zpl (zpl M q 9 (nJ 0)) q 10 (nJ 0), e_R_forget_2 hq ?_, ⟨?_, fun g h1 h7 => ?_⟩, (fr.refl.pl (Or.inl ⟨rfl, Or.inl rfl⟩)).pl (Or.inl ⟨rfl, Or.inr rfl⟩)⟩
    · rw [if_pos ((n_lt (by omega) (by omega)).mpr (by omega))]
    · rw [m_pl, if_neg (by omega), m_pl, if_pos ⟨rfl, rfl⟩, m_pl, if_pos ⟨rfl, rfl⟩]
      exact L2.no
    · obtain ⟨⟨⟨z1, z2⟩, z3, z4⟩, z5⟩ := hz g (by omega)
      simp (disch := omega) only [m_pl, m_pl1, if_neg, z1, z2, z3, z4, z5]
      exact ⟨⟨L2.no, L2.no⟩, rfl⟩
  | succ j ih =>
    intro i M h hz
    have hz2 : ∀ g, g < i + 1 → (((zpi (zpl (zpl (zpl (zpl M (q + 1) i (nJ 0)) (q + 2) i (nJ 0)) (q + 3) i (nJ 0)) (q + 4) i (nJ 0)) (q + 5) i (nI 0)).2 (q + 1) g = nJ 0 ∧ (zpi (zpl (zpl (zpl (zpl M (q + 1) i (nJ 0)) (q + 2) i (nJ 0)) (q + 3) i (nJ 0)) (q + 4) i (nJ 0)) (q + 5) i (nI 0)).2 (q + 2) g = nJ 0) ∧ ((zpi (zpl (zpl (zpl (zpl M (q + 1) i (nJ 0)) (q + 2) i (nJ 0)) (q + 3) i (nJ 0)) (q + 4) i (nJ 0)) (q + 5) i (nI 0)).2 (q + 3) g = nJ 0 ∧ (zpi (zpl (zpl (zpl (zpl M (q + 1) i (nJ 0)) (q + 2) i (nJ 0)) (q + 3) i (nJ 0)) (q + 4) i (nJ 0)) (q + 5) i (nI 0)).2 (q + 4) g = nJ 0)) ∧ (zpi (zpl (zpl (zpl (zpl M (q + 1) i (nJ 0)) (q + 2) i (nJ 0)) (q + 3) i (nJ 0)) (q + 4) i (nJ 0)) (q + 5) i (nI 0)).1 (q + 5) g = nI 0 := fun g hg => by
      by_cases e : g = i
      · subst e
        simp (disch := omega) only [m_pi, m_pi2, m_pl, m_pl1, if_neg, if_pos, if_true, and_self]
      · obtain ⟨⟨⟨z1, z2⟩, z3, z4⟩, z5⟩ := hz g (by omega)
        simp (disch := omega) only [m_pi, m_pi2, m_pl, m_pl1, if_neg, z1, z2, z3, z4, z5, and_self]
    obtain ⟨M', a1, a2, a3⟩ := ih (i + 1) _ (by omega) hz2
    refine ⟨M', e_R_forget_2 hq ?_, a2, fr.trans (((((fr.refl.pl ?_).pl ?_).pl ?_).pl ?_).pi ?_) a3⟩
    · rw [if_neg (by rw [n_lt (by omega) (by omega)]; omega), if_pos ((n_zin (by omega)).mpr (by omega)), n_clamp (by omega), zLr, n_add1]
      exact a1
    · exact Or.inr ⟨by omega, by omega⟩
    · exact Or.inr ⟨by omega, by omega⟩
    · exact Or.inr ⟨by omega, by omega⟩
    · exact Or.inr ⟨by omega, by omega⟩
    · exact rfl
theorem q_forget (hq : zkd q = (13, 0)) : ∃ M', zEv (d + 1) zmR_forget [.ref q] M = some (none, M') ∧ RP noD q M' ∧ fr (pF1 q) (pF2 q) M M' := by
  obtain ⟨M', a1, a2⟩ := q_forget_l (d := d) hq 8 0 M (by omega) fun g hg => absurd hg (Nat.not_lt_zero g)
  exact ⟨M', e_R_forget hq a1, a2⟩
/-! the total of a set -/
def tgo (m : Nat) : Nat → Nat → Nat × Nat × Nat × Nat → Nat × Nat × Nat × Nat
  | 0, _, r => r
  | j + 1, i, r => tgo m j (i + 1) (bif m.testBit i then (r.1 + i, r.2.1 * i, (if r.2.2.1 = 0 then i else r.2.2.1), i) else r)
def tsel (s : Nat) (r : Nat × Nat × Nat × Nat) : Nat := if s = 0 then r.1 else if s = 1 then r.2.1 else if s = 2 then r.2.2.2 - r.2.2.1 else 0
theorem q_totalOfSet_l {s m : Nat} (hs : s ≤ 3) (hm : m < 2147483648) : ∀ j i (a p l g : Nat), i + j = 8 → 1 ≤ i → l ≤ g → g < i → h_C_totalOfSet_13 d (nI s) (nI m) (nI a) (nI p) (nI l) (nI g) (nI i) M = some (some (.int (nI (tsel s (tgo m j i (a, p, l, g))))), M) := by
  intro j
  induction j with
  | zero =>
    intro i a p l g h h1 hl hg
    refine e_C_totalOfSet_13 ?_
    rw [if_pos ((n_lt (by omega) (by omega)).mpr (by omega))]
    unfold tsel tgo
    dsimp only
    rw [n_sub hl]
    by_cases c0 : s = 0
    · rw [if_pos ((n_eq (by omega) (by omega)).mpr c0), if_pos c0]
    · rw [if_neg (by rw [n_eq (by omega) (by omega)]; exact c0), if_neg c0]
      by_cases c1 : s = 1
      · rw [if_pos ((n_eq (by omega) (by omega)).mpr c1), if_pos c1]
      · rw [if_neg (by rw [n_eq (by omega) (by omega)]; exact c1), if_neg c1]
        by_cases c2 : s = 2
        · rw [if_pos ((n_eq (by omega) (by omega)).mpr c2), if_pos c2]
        · rw [if_neg (by rw [n_eq (by omega) (by omega)]; exact c2), if_neg c2]
  | succ j ih =>
    intro i a p l g h h1 hl hg
    refine e_C_totalOfSet_13 ?_
    have hb := n_bit (m := m) (d := i) hm (by omega)
    rw [if_neg (by rw [n_lt (by omega) (by omega)]; omega)]
    unfold tgo
    dsimp only
    cases ht : m.testBit i with
    | true =>
      rw [if_pos (hb.mpr ht), cond_true, n_add1, n_add, n_mul]
      by_cases c : l = 0
      · rw [if_pos ((n_eq (by omega) (by omega)).mpr c), if_pos c]
        exact ih (i + 1) _ _ _ _ (by omega) (by omega) (Nat.le_refl i) (by omega)
      · rw [if_neg (by rw [n_eq (by omega) (by omega)]; exact c), if_neg c]
        exact ih (i + 1) _ _ _ _ (by omega) (by omega) (by omega) (by omega)
    | false =>
      rw [if_neg (fun w => by rw [hb.mp w] at ht; cases ht), cond_false, n_add1]
      exact ih (i + 1) _ _ _ _ (by omega) (by omega) hl (by omega)
theorem tgo_k : ∀ σ, σ < 128 → 1 ≤ σ → ∀ s, s < 4 → tsel s (tgo (2 * σ) 7 1 (0, 1, 0, 0)) = kTot s σ := by decide +kernel
theorem q_totalOfSet {s σ : Nat} (hs : s ≤ 3) (h1 : 1 ≤ σ) (h128 : σ < 128) : zEv (d + 1) zmC_totalOfSet [.int (nI s), .int (nI (2 * σ))] M = some (some (.int (nI (kTot s σ))), M) := by
  have := q_totalOfSet_l (d := d) (M := M) (s := s) (m := 2 * σ) hs (by omega) 7 1 0 1 0 0 (by omega) (by omega) (by omega) (by omega)
  rw [tgo_k σ h128 h1 s (by omega)] at this
  exact e_C_totalOfSet this
/-! the three ways of fitting -/
theorem rset_c : ∀ g, 1 ≤ g → g ≤ 7 → L2 (fun σ => !σ.testBit (g - 1)) ((zsl 0).getD g 0) ((zsl 1).getD g 0) ∧ L2 (fun σ => σ.testBit (g - 1)) (((zsl 0).getD g 0) ^^^ (-1 : Int64)) (((zsl 1).getD g 0) ^^^ (-1 : Int64))
  | 1, _, _ => ⟨⟨by decide +kernel, by decide +kernel⟩, ⟨by decide +kernel, by decide +kernel⟩⟩
  | 2, _, _ => ⟨⟨by decide +kernel, by decide +kernel⟩, ⟨by decide +kernel, by decide +kernel⟩⟩
  | 3, _, _ => ⟨⟨by decide +kernel, by decide +kernel⟩, ⟨by decide +kernel, by decide +kernel⟩⟩
  | 4, _, _ => ⟨⟨by decide +kernel, by decide +kernel⟩, ⟨by decide +kernel, by decide +kernel⟩⟩
  | 5, _, _ => ⟨⟨by decide +kernel, by decide +kernel⟩, ⟨by decide +kernel, by decide +kernel⟩⟩
  | 6, _, _ => ⟨⟨by decide +kernel, by decide +kernel⟩, ⟨by decide +kernel, by decide +kernel⟩⟩
  | 7, _, _ => ⟨⟨by decide +kernel, by decide +kernel⟩, ⟨by decide +kernel, by decide +kernel⟩⟩
  | 0, h, _ => absurd h (by omega)
  | n + 8, _, h => absurd h (by omega)
theorem kTot_le : ∀ σ, σ < 128 → ∀ s, s < 4 → kTot s σ ≤ 999999 := by decide +kernel
end QF
