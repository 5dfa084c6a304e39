/-! THE MODEL, 10: the search for solutions -/
/-- what a search from a cell leaves -/
def FR (f : Nat → Nat) (n c : Nat) (b : Nat → Nat) (s m N : Nat) (M M' : ZM) (v : Int32) : Prop :=
  MR b M' ∧ frI pF M M' ∧ St (sols n b c) s m N M M' ∧ (sols n b c = [] → ∃ p, v = nI p ∧ p < 36 ∧ Dead f p n b c) ∧ (sols n b c ≠ [] → v = -1)
/-- the solutions with a digit in a cell -/
def solG (n c : Nat) (b : Nat → Nat) (x : Nat) : List (Nat → Nat) := if (b (112 + c)).testBit x && okC (setK b c (2 ^ x)) c then sols n (setK b c (2 ^ x)) (c + 1) else []
/-- nothing goes in a part, from a digit on -/
def DL (f : Nat → Nat) (n c : Nat) (b : Nat → Nat) (p i : Nat) : Prop := ∀ b', Agr f p b b' → ∀ x, p ≠ f c ∨ i ≤ x → 1 ≤ x → x ≤ b 2 → solG n c b' x = []
section MS2
variable {d : Nat} {b : Nat → Nat}
theorem s_sf_x (hW : Wf b) {f : Nat → Nat} {c h s s' p i m v : Nat} {M : ZM} (hc : c < 36) (hR : MR (setK b c v) M) (h20 : M.1 866 20 = nI s') (h21 : M.1 866 21 = nI m) (hf : M.1 877 c = nI (f c)) (hs : s < 2147483648) (hs' : s' < 2147483648) (hm : m < 2147483648) (hi : i < 2147483648) (hp : p < 2147483648) (hfc : f c < 2147483648) (hx : b 2 < i ∨ s' = m ∨ p ≠ f c) :
    h_M_solvesFrom_118 (d + 11) (nI c) (nI h) (nI s) (nI p) (nI i) M = some (some (.int (if s < s' then -1 else nI p)), zpi M 867 (112 + c) (nI h)) := by
  have h2 := hW.1.2.2.1
  have e2 : setK b c v 2 = b 2 := setK_ne (by omega)
  have eX : (zpi M 867 (112 + c) (nI h)).1 866 20 = nI s' := by rw [m_pi, if_neg (by omega)]; exact h20
  refine e_M_solvesFrom_118 ?_
  simp only [s_top hR, e2, zC1_some, n_lt (show b 2 < 2147483648 by omega) hi, n_add, n_zin (show 112 + c < 2147483648 by omega), n_clamp (show 112 + c < 2147483648 by omega), eX, n_lt hs hs', h20, h21, n_lt hs' hm, n_zin (show c < 2147483648 by omega), n_clamp (show c < 2147483648 by omega), hf, n_eq hp hfc]
  simp only [if_pos (show 112 + c < 268 by omega), if_pos hc]
  by_cases h3 : b 2 < i
  · rw [if_pos h3]; split <;> rfl
  · rw [if_neg h3]
    by_cases h4 : s' < m
    · rw [if_pos h4, if_neg (by omega)]; split <;> rfl
    · rw [if_neg h4]; split <;> rfl
theorem s_sf_l (hW : Wf b) {f : Nat → Nat} {c n s m : Nat} (hO : isO b c = true) (hsm : s < m) (hm : m ≤ 50) (hf : ∀ x, x < b 0 * b 1 → f x < 36) (h1p : ∀ k, k < b 3 → oneP b f k)
    (IH : ∀ (x s' : Nat) (M : ZM), 1 ≤ x → x ≤ b 2 → MR (setK b c (2 ^ x)) M → (∀ y, y < b 0 * b 1 → M.1 877 y = nI (f y)) → M.1 866 20 = nI s' → M.1 866 21 = nI m → s' < m → ∃ M' v, zEv (d + 11) zmM_solvesFrom [.ref 866, .int (nI (c + 1))] M = some (some (.int v), M') ∧ FR f n (c + 1) (setK b c (2 ^ x)) s' m (b 0 * b 1) M M' v) :
    ∀ j i (M : ZM) (s' v : Nat), i + j = b 2 + 1 → 1 ≤ i → MR (setK b c v) M → (∀ y, y < b 0 * b 1 → M.1 877 y = nI (f y)) → M.1 866 20 = nI s' → M.1 866 21 = nI m → s ≤ s' → s' ≤ m →
    ∃ M' r, h_M_solvesFrom_118 (d + 11) (nI c) (nI (b (112 + c))) (nI s) (nI (f c)) (nI i) M = some (some (.int r), M') ∧ MR b M' ∧ frI pF M M' ∧ St ((List.range' i j).flatMap (solG n c b)) s' m (b 0 * b 1) M M' ∧ ((List.range' i j).flatMap (solG n c b) = [] → s' = s → ∃ p, r = nI p ∧ p < 36 ∧ DL f n c b p i) ∧ ((List.range' i j).flatMap (solG n c b) ≠ [] ∨ s < s' → r = -1) := by
  have h36 := hW.n36
  have hc := isO_lt hW hO
  have hcN : c < b 0 * b 1 := by
    unfold isO at hO
    rw [Bool.and_eq_true] at hO
    exact of_decide_eq_true hO.1
  have hfc := hf c hcN
  have h27 := hW.1.2.2.1
  have hmk := mk_lt hW hc
  -- what the way out leaves
  have hOut : ∀ (M : ZM) (v s' : Nat), MR (setK b c v) M → M.1 866 20 = nI s' → MR b (zpi M 867 (112 + c) (nI (b (112 + c)))) ∧ frI pF M (zpi M 867 (112 + c) (nI (b (112 + c)))) ∧ (zpi M 867 (112 + c) (nI (b (112 + c)))).1 866 20 = nI s' ∧ ∀ y, (zpi M 867 (112 + c) (nI (b (112 + c)))).1 876 y = M.1 876 y := by
    intro M v s' hR h20
    refine ⟨?_, fr.refl.pi (Or.inr (Or.inl ⟨rfl, by omega⟩)), ?_, fun y => ?_⟩
    · have := mr_setK hR (c := c) (m := b (112 + c))
      rw [setK_set, setK_self] at this
      exact this
    · rw [m_pi, if_neg (by omega)]; exact h20
    · rw [m_pi, if_neg (by omega)]
  intro j
  induction j with
  | zero =>
    intro i M s' v h hi hR hP h20 h21 h1 h2
    obtain ⟨o1, o2, o3, o4⟩ := hOut M v s' hR h20
    refine ⟨_, _, s_sf_x hW (f := f) hc hR h20 h21 (hP c hcN) (by omega) (by omega) (by omega) (by omega) (by omega) (by omega) (Or.inl (by omega)), o1, o2, St.nil o3 o4, fun _ e => ⟨f c, ?_, hfc, fun b' _ x hx hx1 hx2 => ?_⟩, fun e => ?_⟩
    · rw [if_neg (by omega)]
    · rcases hx with hx | hx
      · exact absurd rfl hx
      · omega
    · rcases e with e | e
      · exact absurd rfl e
      · rw [if_pos e]
  | succ j ih =>
    intro i M s' v h hi hR hP h20 h21 h1 h2
    have hT : (List.range' i (j + 1)).flatMap (solG n c b) = solG n c b i ++ (List.range' (i + 1) j).flatMap (solG n c b) := by
      rw [List.range'_succ, List.flatMap_cons]
    rw [hT]
    by_cases hfull : s' = m
    · obtain ⟨o1, o2, o3, o4⟩ := hOut M v s' hR h20
      refine ⟨_, _, s_sf_x hW (f := f) hc hR h20 h21 (hP c hcN) (by omega) (by omega) (by omega) (by omega) (by omega) (by omega) (Or.inr (Or.inl hfull)), o1, o2, St.full hfull o3 o4, fun _ e => by omega, fun _ => if_pos (by omega)⟩
    · have hlt : s' < m := by omega
      have e2 : setK b c v 2 = b 2 := setK_ne (by omega)
      have hAM : Agr f (f c) b b := agr_refl
      have ePl : (1 : Nat) <<< i = 2 ^ i := by rw [Nat.shiftLeft_eq, Nat.one_mul]
      have hpw : 2 ^ i < 2 ^ (b 2 + 1) := (Nat.pow_lt_pow_iff_right (by omega)).mpr (by omega)
      have hpt : (2 ^ i).testBit 0 = false := by
        rw [Nat.testBit_two_pow]
        exact decide_eq_false (by omega)
      have hWi := wf_setK hW hO hpw hpt
      -- nothing of this digit: it goes on
      have goOn : solG n c b i = [] → (∀ b', Agr f (f c) b b' → solG n c b' i = []) → ∀ (M2 : ZM) (v2 : Nat), MR (setK b c v2) M2 → frI pF M M2 → (∀ y, y < 36 * s' → M2.1 876 y = M.1 876 y) → M2.1 866 20 = nI s' →
          (∀ r, h_M_solvesFrom_118 (d + 11) (nI c) (nI (b (112 + c))) (nI s) (nI (f c)) (nI (i + 1)) M2 = some r → h_M_solvesFrom_118 (d + 11) (nI c) (nI (b (112 + c))) (nI s) (nI (f c)) (nI i) M = some r) →
          ∃ M' r, h_M_solvesFrom_118 (d + 11) (nI c) (nI (b (112 + c))) (nI s) (nI (f c)) (nI i) M = some (some (.int r), M') ∧ MR b M' ∧ frI pF M M' ∧ St (solG n c b i ++ (List.range' (i + 1) j).flatMap (solG n c b)) s' m (b 0 * b 1) M M' ∧ (solG n c b i ++ (List.range' (i + 1) j).flatMap (solG n c b) = [] → s' = s → ∃ p, r = nI p ∧ p < 36 ∧ DL f n c b p i) ∧ (solG n c b i ++ (List.range' (i + 1) j).flatMap (solG n c b) ≠ [] ∨ s < s' → r = -1) := by
        intro z1 z2 M2 v2 q1 q2 q3 q4 q5
        obtain ⟨M', r, a1, a2, a3, a4, a5, a6⟩ := ih (i + 1) M2 s' v2 (by omega) (by omega) q1 (fun y hy => (q2.1 877 y (fun z => by unfold pF at z; omega)).trans (hP y hy)) q4 ((q2.1 866 21 (fun z => by unfold pF at z; omega)).trans h21) h1 h2
        rw [z1, List.nil_append]
        refine ⟨M', r, q5 _ a1, a2, q2.trans a3, a4.from q3, fun e1 e2 => ?_, a6⟩
        obtain ⟨p, k1, k2, k3⟩ := a5 e1 e2
        refine ⟨p, k1, k2, fun b' hA x hx hx1 hx2 => ?_⟩
        by_cases ep : p = f c
        · by_cases ex : x = i
          · subst ep; rw [ex]; exact z2 b' hA
          · exact k3 b' hA x (by rcases hx with hx | hx; exact Or.inl hx; exact Or.inr (by omega)) hx1 hx2
        · exact k3 b' hA x (Or.inl ep) hx1 hx2
      cases hbit : (b (112 + c)).testBit i with
      | false =>
        refine goOn (by unfold solG; rw [hbit]; rfl) (fun b' hA => ?_) M v hR fr.refl (fun _ _ => rfl) h20 fun r hr => ?_
        · unfold solG
          rw [hA (112 + c) (Or.inr (Or.inr (by rw [Nat.add_sub_cancel_left]))), hbit]
          rfl
        · refine e_M_solvesFrom_118 ?_
          simp only [s_top hR, e2, zC1_some, n_lt (show b 2 < 2147483648 by omega) (show i < 2147483648 by omega), h20, h21, n_lt (show s' < 2147483648 by omega) (show m < 2147483648 by omega), n_zin (show c < 2147483648 by omega), n_clamp (show c < 2147483648 by omega), hP c hcN, s_holds (show b (112 + c) < 2147483648 by omega) (show i < 32 by omega), hbit, nB0, n_add1]
          simp only [if_neg (show ¬ b 2 < i by omega), if_pos hlt, if_pos hc, if_true]
          exact hr
      | true =>
        -- the digit is put
        have r1 : MR (setK b c (2 ^ i)) (zpi M 867 (112 + c) (nI (2 ^ i))) := by
          have := mr_setK hR (c := c) (m := 2 ^ i)
          rw [setK_set] at this
          exact this
        have f1 : frI pF M (zpi M 867 (112 + c) (nI (2 ^ i))) := fr.refl.pi (Or.inr (Or.inl ⟨rfl, by omega⟩))
        obtain ⟨M2, w1, w2⟩ := s_haveWays (d := d) r1 hWi hc
        have r2 := r1.frS (frL_S w2)
        have f2 : frI pF M M2 := f1.trans (frL_F w2)
        have g20 : M2.1 866 20 = nI s' := by
          rw [w2.1 866 20 (fun z => by unfold pL at z; omega), m_pi, if_neg (by omega)]; exact h20
        have g76 : ∀ y, M2.1 876 y = M.1 876 y := fun y => by
          rw [w2.1 876 y (fun z => by unfold pL at z; omega), m_pi, if_neg (by omega)]
        have gP : ∀ y, y < b 0 * b 1 → M2.1 877 y = nI (f y) := fun y hy => (f2.1 877 y (fun z => by unfold pF at z; omega)).trans (hP y hy)
        have g21 : M2.1 866 21 = nI m := (f2.1 866 21 (fun z => by unfold pF at z; omega)).trans h21
        have x20 : (zpi M 867 (112 + c) (nI (2 ^ i))).1 866 20 = nI s' := by rw [m_pi, if_neg (by omega)]; exact h20
        cases hok : okC (setK b c (2 ^ i)) c with
        | false =>
          refine goOn (by unfold solG; rw [hbit, hok]; rfl) (fun b' hA => ?_) M2 (2 ^ i) r2 f2 (fun y _ => g76 y) g20 fun r hr => ?_
          · unfold solG
            have := agr_okC (agr_K hA (c := c) (m := 2 ^ i)) hWi (fun k hk => by
              intro z hz
              rw [setK_ne (k := 3) (by omega)] at hk
              rw [setK_cgN hc] at hz
              rw [setK_cgC hc]
              exact h1p k hk z hz) (c := c) rfl
            rw [this, hok, Bool.and_false]
            rfl
          · refine e_M_solvesFrom_118 ?_
            simp only [s_top hR, e2, zC1_some, n_lt (show b 2 < 2147483648 by omega) (show i < 2147483648 by omega), h20, h21, n_lt (show s' < 2147483648 by omega) (show m < 2147483648 by omega), n_zin (show c < 2147483648 by omega), n_clamp (show c < 2147483648 by omega), hP c hcN, s_holds (show b (112 + c) < 2147483648 by omega) (show i < 32 by omega), hbit, nB0, n_add1, n_add, n_zin (show 112 + c < 2147483648 by omega), n_clamp (show 112 + c < 2147483648 by omega), n_shl (show i < 32 by omega), ePl, zL, w1, hok, gP c hcN]
            simp only [if_neg (show ¬ b 2 < i by omega), if_pos hlt, if_pos hc, if_pos (show 112 + c < 268 by omega), if_true]
            rw [if_neg (by simp)]
            split <;> exact hr
        | true =>
          obtain ⟨M3, v3, t1, t2, t3, t4, t5, t6⟩ := IH i s' M2 hi (by omega) r2 gP g20 g21 hlt
          have eG : solG n c b i = sols n (setK b c (2 ^ i)) (c + 1) := by
            unfold solG
            rw [hbit, hok]
            rfl
          have f3 : frI pF M M3 := f2.trans t3
          have k20 : M3.1 866 20 = nI (s' + min (m - s') (solG n c b i).length) := by rw [eG]; exact t4.1
          have kP : ∀ y, y < b 0 * b 1 → M3.1 877 y = nI (f y) := fun y hy => (f3.1 877 y (fun z => by unfold pF at z; omega)).trans (hP y hy)
          have k21 : M3.1 866 21 = nI m := (f3.1 866 21 (fun z => by unfold pF at z; omega)).trans h21
          have hs2 : s' + min (m - s') (solG n c b i).length ≤ m := by omega
          have hSt : St (solG n c b i) s' m (b 0 * b 1) M M3 := by rw [eG]; exact t4.from (fun y _ => g76 y)
          have step : ∀ r, h_M_solvesFrom_118 (d + 11) (nI c) (nI (b (112 + c))) (nI s) (if s' < s' + min (m - s') (solG n c b i).length then nI (f c) else v3) (nI (i + 1)) M3 = some r → h_M_solvesFrom_118 (d + 11) (nI c) (nI (b (112 + c))) (nI s) (nI (f c)) (nI i) M = some r := by
            intro r hr
            refine e_M_solvesFrom_118 ?_
            simp only [s_top hR, e2, zC1_some, n_lt (show b 2 < 2147483648 by omega) (show i < 2147483648 by omega), h20, h21, n_lt (show s' < 2147483648 by omega) (show m < 2147483648 by omega), n_zin (show c < 2147483648 by omega), n_clamp (show c < 2147483648 by omega), hP c hcN, s_holds (show b (112 + c) < 2147483648 by omega) (show i < 32 by omega), hbit, nB0, n_add1, n_add, n_zin (show 112 + c < 2147483648 by omega), n_clamp (show 112 + c < 2147483648 by omega), n_shl (show i < 32 by omega), ePl, x20, zL, w1, hok, t1, k20, n_lt (show s' < 2147483648 by omega) (show s' + min (m - s') (solG n c b i).length < 2147483648 by omega), kP c hcN]
            simp only [if_neg (show ¬ b 2 < i by omega), if_pos hlt, if_pos hc, if_pos (show 112 + c < 268 by omega)]
            by_cases e : s' < s' + min (m - s') (solG n c b i).length
            · rw [if_pos e] at hr ⊢; exact hr
            · rw [if_neg e] at hr ⊢; exact hr
          by_cases hnil : solG n c b i = []
          · obtain ⟨p, p1, p2, p3⟩ := t5 (eG ▸ hnil)
            have e0 : s' + min (m - s') (solG n c b i).length = s' := by rw [hnil, List.length_nil, Nat.min_zero, Nat.add_zero]
            rw [e0] at step k20
            rw [if_neg (Nat.lt_irrefl s'), p1] at step
            by_cases ep : p = f c
            · rw [ep] at step p3
              refine goOn hnil (fun b' hA => ?_) M3 (2 ^ i) t2 f3 hSt.2.1 k20 step
              · unfold solG
                split
                · exact p3 _ (agr_K hA)
                · rfl
            · obtain ⟨o1, o2, o3, o4⟩ := hOut M3 (2 ^ i) s' t2 k20
              have hdead : ∀ b', Agr f p b b' → ∀ x, solG n c b' x = [] := by
                intro b' hA x
                unfold solG
                split
                · exact p3 _ (agr_K2 hA hc ep)
                · rfl
              have eT : (List.range' (i + 1) j).flatMap (solG n c b) = [] := List.flatMap_eq_nil_iff.mpr fun x _ => hdead b agr_refl x
              have hx := s_sf_x (d := d) hW (f := f) (h := b (112 + c)) (s := s) (i := i + 1) (p := p) hc t2 k20 k21 (kP c hcN) (by omega) (by omega) (by omega) (by omega) (by omega) (by omega) (Or.inr (Or.inr ep))
              rw [eT, List.append_nil]
              refine ⟨_, _, step _ hx, o1, f3.trans o2, ?_, fun _ e => ⟨p, if_neg (by omega), p2, fun b' hA x _ _ _ => hdead b' hA x⟩, fun e => ?_⟩
              · have := hSt.app h36 (B := []) (M' := zpi M3 867 (112 + c) (nI (b (112 + c)))) (St.nil (by rw [e0]; exact o3) o4)
                rw [List.append_nil] at this
                exact this
              · rcases e with e | e
                · exact absurd hnil e
                · exact if_pos e
          · have hpos : 0 < (solG n c b i).length := List.length_pos_iff.mpr hnil
            rw [if_pos (by omega)] at step
            obtain ⟨M', r, a1, a2, a3, a4, a5, a6⟩ := ih (i + 1) M3 _ (2 ^ i) (by omega) (by omega) t2 kP k20 k21 (by omega) hs2
            refine ⟨M', r, step _ a1, a2, f3.trans a3, hSt.app h36 a4, fun e => ?_, fun _ => a6 (Or.inr (by omega))⟩
            exact absurd (List.append_eq_nil_iff.mp e).1 hnil
end MS2
