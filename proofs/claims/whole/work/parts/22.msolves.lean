/-! THE MODEL, 11: solve, at its row -/
theorem sols_open {n c : Nat} {b : Nat → Nat} (h : isO b c = true) : sols (n + 1) b c = (List.range' 1 (b 2)).flatMap (solG n c b) := by
  show (if isO b c = true then _ else _) = _
  rw [if_pos h]
  rfl
theorem sols_shut {n c : Nat} {b : Nat → Nat} (h : isO b c = false) : sols (n + 1) b c = sols n b (c + 1) := by
  show (if isO b c = true then _ else _) = _
  rw [if_neg (by rw [h]; simp)]
/-- what a solving writes -/
def pV : Nat → Nat → Prop := fun a k => (a = 866 ∧ (k = 20 ∨ k = 21)) ∨ a = 872 ∨ a = 876 ∨ a = 877
theorem frV_S {M M' : ZM} (h : frI pV M M') : frI pS M M' := h.mono (fun a k z => by unfold pV at z; unfold pS; omega) (fun _ _ z => z)
theorem frL_V {i : Nat} {M M' : ZM} (h : frI (pL i) M M') : frI pV M M' := h.mono (fun a k z => by unfold pL at z; unfold pV; omega) (fun _ _ z => z)
section MS3
variable {d : Nat} {M : ZM} {b : Nat → Nat}
theorem s_sf {f : Nat → Nat} {m N : Nat} (hm : m ≤ 50) (hf : ∀ x, x < N → f x < 36) : ∀ (n d c : Nat) (b : Nat → Nat) (M : ZM) (s : Nat), b 0 * b 1 = N → c + n = N → Wf b → (∀ k, k < b 3 → oneP b f k) → MR b M → (∀ y, y < N → M.1 877 y = nI (f y)) → M.1 866 20 = nI s → M.1 866 21 = nI m → s < m →
    ∃ M' v, h_M_solvesFrom_2 (n + d + 11) (nI c) M = some (some (.int v), M') ∧ FR f n c b s m N M M' v := by
  intro n
  induction n with
  | zero =>
    intro d c b M s hN hc hW h1p hR hP h20 h21 hs
    have h36 := hW.n36
    obtain ⟨M', a1, a2, a3, a4, a5, a6⟩ := s_leaf (d := d + 9) hW (s := s) (by omega) N 0 M (by omega) hR h20
    refine ⟨M', -1, ?_, a3, a2, ⟨?_, fun y hy => a5 y (by omega), fun j hj x hx => ?_⟩, fun e => ?_, fun _ => rfl⟩
    · rw [show 0 + d + 11 = d + 9 + 2 by omega]
      refine e_M_solvesFrom_2 ?_
      simp only [s_cells hR, zC1_some, n_lt (show c < 2147483648 by omega) (show b 0 * b 1 < 2147483648 by omega), n_eq (show c < 2147483648 by omega) (show b 0 * b 1 < 2147483648 by omega)]
      rw [if_neg (by omega), if_pos (by omega)]
      exact a1
    · rw [a4]
      show nI (s + 1) = nI (s + min (m - s) 1)
      rw [show min (m - s) 1 = 1 by omega]
    · have hj0 : j < min (m - s) 1 := hj
      obtain rfl : j = 0 := by omega
      exact a6 x (by omega) (by omega)
    · cases e
  | succ n ih =>
    intro d c b M s hN hc hW h1p hR hP h20 h21 hs
    have h36 := hW.n36
    have hc36 : c < 36 := by omega
    have ihS := ih (d + 1) (c + 1) b M s hN (by omega) hW h1p hR hP h20 h21 hs
    have ihK := ih d (c + 1)
    rw [show n + (d + 1) + 11 = n + 1 + d + 11 by omega] at ihS
    have eD : n + 1 + d + 11 = n + d + 11 + 1 := by omega
    cases hO : isO b c with
    | false =>
      obtain ⟨M', v, a1, a2, a3, a4, a5, a6⟩ := ihS
      refine ⟨M', v, ?_, a2, a3, ?_, fun e => ?_, fun e => ?_⟩
      · clear ih ihK
        generalize n + 1 + d = D at a1 ⊢
        refine e_M_solvesFrom_2 ?_
        simp only [s_cells hR, zC1_some, n_lt (show c < 2147483648 by omega) (show b 0 * b 1 < 2147483648 by omega), s_isOpen hR hW (show c < 2147483648 by omega), hO, nB0, if_true, n_add1]
        rw [if_pos (by omega)]
        exact a1
      · rw [sols_shut hO]; exact a4
      · rw [sols_shut hO] at e
        obtain ⟨p, k1, k2, k3⟩ := a5 e
        refine ⟨p, k1, k2, fun b' hA => ?_⟩
        rw [sols_shut (by rw [agr_O hA hc36]; exact hO)]
        exact k3 b' hA
      · rw [sols_shut hO] at e
        exact a6 e
    | true =>
      obtain ⟨M', r, a1, a2, a3, a4, a5, a6⟩ := s_sf_l (d := n + 1 + d) hW (f := f) (n := n) (s := s) (m := m) hO hs hm (by rw [hN]; exact hf) h1p (by
        intro x s' M1 hx1 hx2 r1 rP r20 r21 rs
        rw [hN] at rP ⊢
        have hpw : 2 ^ x < 2 ^ (b 2 + 1) := (Nat.pow_lt_pow_iff_right (by omega)).mpr (by omega)
        have hpt : (2 ^ x).testBit 0 = false := by
          rw [Nat.testBit_two_pow]
          exact decide_eq_false (by omega)
        obtain ⟨M', v, q1, q2⟩ := ihK (setK b c (2 ^ x)) M1 s' (by rw [setK_ne (by omega), setK_ne (by omega)]; exact hN) (by omega) (wf_setK hW hO hpw hpt) (fun k hk => by
          intro z hz
          rw [setK_ne (k := 3) (by omega)] at hk
          rw [setK_cgN hc36] at hz
          rw [setK_cgC hc36]
          exact h1p k hk z hz) r1 rP r20 r21 rs
        refine ⟨M', v, ?_, q2⟩
        rw [eD]
        exact e_M_solvesFrom q1) (b 2) 1 M s (b (112 + c)) (by omega) (by omega) (by rw [setK_self]; exact hR) (by rw [hN]; exact hP) h20 h21 (Nat.le_refl s) (by omega)
      rw [hN] at a4
      refine ⟨M', r, ?_, a2, a3, ?_, fun e => ?_, fun e => ?_⟩
      · clear ih ihK ihS
        generalize n + 1 + d = D at a1 ⊢
        refine e_M_solvesFrom_2 ?_
        simp only [s_cells hR, zC1_some, n_lt (show c < 2147483648 by omega) (show b 0 * b 1 < 2147483648 by omega), s_isOpen hR hW (show c < 2147483648 by omega), hO, nB0, n_eq (show c < 2147483648 by omega) (show b 0 * b 1 < 2147483648 by omega), s_marks hR hc36, n_zin (show c < 2147483648 by omega), n_clamp (show c < 2147483648 by omega), h20, hP c (by omega)]
        simp only [if_pos (show c < b 0 * b 1 by omega), if_neg (show ¬ c = b 0 * b 1 by omega), if_pos hc36]
        exact a1
      · rw [sols_open hO]; exact a4
      · rw [sols_open hO] at e
        obtain ⟨p, k1, k2, k3⟩ := a5 e rfl
        refine ⟨p, k1, k2, fun b' hA => ?_⟩
        rw [sols_open (by rw [agr_O hA hc36]; exact hO), hA 2 (by omega)]
        refine List.flatMap_eq_nil_iff.mpr fun x hx => ?_
        rw [List.mem_range'_1] at hx
        exact k3 b' hA x (Or.inr hx.1) hx.1 (by omega)
      · rw [sols_open hO] at e
        exact a6 (Or.inl e)
/-- all solutions of a row, the least first -/
def slv (b : Nat → Nat) : List (Nat → Nat) := bif brk b then [] else sols (b 0 * b 1) b 0
/-- the first solutions are told -/
def Told (b : Nat → Nat) (m : Nat) (M : ZM) : Prop := ∀ j, j < min m (slv b).length → ∀ x, x < b 0 * b 1 → M.1 876 (36 * j + x) = nI (dgt ((slv b).getD j fun _ => 0) x)
theorem s_solves (hR : MR b M) (hW : Wf b) {m : Nat} (h0 : 0 < m) (hm : m ≤ 50) : ∃ M', zEv (d + 49) zmM_solves [.ref 866, .int (nI m)] M = some (some (.int (nI (min m (slv b).length))), M') ∧ frI pV M M' ∧ Told b m M' := by
  have h36 := hW.n36
  have e0 : ∀ k, k < 268 → (zpi (zpi M 866 20 (nI 0)) 866 21 (nI m)).1 867 k = M.1 867 k := fun k _ => by
    rw [m_pi, if_neg (by omega), m_pi, if_neg (by omega)]
  have f0 : frI pV M (zpi (zpi M 866 20 (nI 0)) 866 21 (nI m)) := (fr.refl.pi (by unfold pV; omega)).pi (by unfold pV; omega)
  have r0 := hR.frS (frV_S f0)
  obtain ⟨M1, a1, a2⟩ := s_isBroken (d := d + 36) r0 hW
  have r1 := r0.frS (frL_S a2)
  have f1 := f0.trans (frL_V a2)
  have g20 : M1.1 866 20 = nI 0 := by
    rw [a2.1 866 20 (fun z => by unfold pL at z; omega), m_pi, if_neg (by omega), m_pi, if_pos ⟨rfl, rfl⟩]
  have g21 : M1.1 866 21 = nI m := by
    rw [a2.1 866 21 (fun z => by unfold pL at z; omega), m_pi, if_pos ⟨rfl, rfl⟩]
  cases hb : brk b with
  | true =>
    have eS : slv b = [] := by unfold slv; rw [hb]; rfl
    refine ⟨M1, ?_, f1, fun j hj => ?_⟩
    · refine e_M_solves ?_
      rw [a1, hb, eS, List.length_nil, Nat.min_zero]
      simp only [zC1_some, if_neg (show ¬ nB true = nI 0 by decide)]
    · rw [eS, List.length_nil] at hj; omega
  | false =>
    have eS : slv b = sols (b 0 * b 1) b 0 := by unfold slv; rw [hb]; rfl
    obtain ⟨M2, f, b1, b2, b3, b4, b5⟩ := s_parts (d := d + 45) r1 hW
    have r2 := r1.frP b1
    obtain ⟨M3, v, c1, c2, c3, c4, c5, c6⟩ := s_sf (f := f) (m := m) (N := b 0 * b 1) hm b3 (b 0 * b 1) (36 - b 0 * b 1 + d) 0 b M2 0 rfl (by omega) hW b4 r2 b2 ((b1.1 866 20 (fun z => by unfold pP at z; omega)).trans g20) ((b1.1 866 21 (fun z => by unfold pP at z; omega)).trans g21) h0
    rw [show b 0 * b 1 + (36 - b 0 * b 1 + d) + 11 = d + 47 by omega] at c1
    have c1' : zEv (d + 48) zmM_solvesFrom [.ref 866, .int (nI 0)] M2 = some (some (.int v), M3) := e_M_solvesFrom c1
    have e20 : M3.1 866 20 = nI (min m (slv b).length) := by
      rw [c4.1, eS, Nat.zero_add, Nat.sub_zero]
    refine ⟨M3, ?_, ?_, fun j hj x hx => ?_⟩
    · refine e_M_solves ?_
      rw [a1, hb]
      simp only [zC1_some, nB0, if_true, b5, zC0_some, c1', e20]
    · refine ⟨fun a k h => ?_, fun a k h => ?_⟩
      · by_cases e : a = 867 ∧ k < 268
        · rw [e.1, c2 k e.2, hR k e.2]
        · have h1 : ¬ pF a k := fun z => by unfold pF at z; unfold pV at h; omega
          rw [c3.1 a k h1, b1.1 a k (fun z => by unfold pP at z; unfold pV at h; omega)]
          exact f1.1 a k h
      · rw [c3.2 a k h, b1.2 a k h]
        exact f1.2 a k h
    · have := c4.2.2 j (by rw [eS] at hj; omega) x hx
      rw [Nat.zero_add] at this
      rw [eS]
      exact this
theorem s_solvesS (hR : MR b M) (hW : Wf b) {m : Nat} (h0 : 0 < m) (hm : m ≤ 50) : ∃ M', zEv (d + 49) zmM_solves [.ref 866, .int (nI m)] M = some (some (.int (nI (min m (slv b).length))), M') ∧ frI pS M M' ∧ Told b m M' := by
  obtain ⟨M', h1, h2, h3⟩ := s_solves (d := d) hR hW h0 hm
  exact ⟨M', h1, frV_S h2, h3⟩
end MS3
