/-! THE MODEL, 35: make -/
theorem sumF_filter (p : Nat → Bool) : ∀ n, sumF (fun x => if p x = true then 1 else 0) n = ((List.range n).filter p).length
  | 0 => rfl
  | n + 1 => by
    rw [List.range_succ, List.filter_append, List.length_append, ← sumF_filter p n]
    show _ + _ = _
    congr 1
    cases h : p n with
    | true => rw [List.filter_cons_of_pos h]; exact if_pos h
    | false => rw [List.filter_cons_of_neg (by rw [h]; simp)]; exact if_neg (by rw [h]; simp)
/-- how many open cells have nothing given -/
def ug (b : Nat → Nat) : Nat := sumF (fun c => if isO b c = true ∧ b (76 + c) = 0 then 1 else 0) 36
theorem ug_le (b : Nat → Nat) : ug b ≤ openN b := by
  unfold openN
  rw [← sumF_filter]
  refine sumF_le fun x _ => ?_
  by_cases h : isO b x = true
  · rw [if_pos h]
    by_cases h2 : b (76 + x) = 0
    · rw [if_pos ⟨h, h2⟩]; exact Nat.le_refl 1
    · rw [if_neg (fun z => h2 z.2)]; exact Nat.zero_le 1
  · rw [if_neg (fun z => h z.1)]; exact Nat.zero_le _
theorem givR_isO {b : Nat → Nat} {c x : Nat} (hN : b 0 * b 1 ≤ 36) (hc : c < 36) : isO (givR b c x) = isO b := funext fun y => by
  have ne : ∀ k, k < 40 → givR b c x k = b k := fun k hk => by
    unfold givR putR
    rw [if_neg (by omega), if_neg (by omega), if_neg (by omega)]
  unfold isO
  rw [ne 0 (by omega), ne 1 (by omega)]
  by_cases h : y < b 0 * b 1
  · rw [ne (4 + y) (by omega)]
  · rw [decide_eq_false h, Bool.false_and, Bool.false_and]
theorem ug_giv {b : Nat → Nat} (hW : Wf b) {c x : Nat} (hc : c < 36) (hO : isO b c = true) (hG : b (76 + c) ≠ 1) : ug (givR b c x) < ug b := by
  have h1 := (hW.2.2.2.1 c hc).1.2
  have e76 : givR b c x (76 + c) = 1 := if_pos rfl
  unfold ug
  rw [givR_isO hW.n36 hc]
  refine sumF_lt (fun y hy => ?_) ⟨c, hc, ?_⟩
  · by_cases e : y = c
    · subst e
      rw [e76, if_neg (fun z => by have := z.2; omega)]
      exact Nat.zero_le _
    · have : givR b c x (76 + y) = b (76 + y) := by
        unfold givR putR
        rw [if_neg (by omega), if_neg (by omega), if_neg (by omega)]
      rw [this]
      exact Nat.le_refl _
  · show (if isO b c = true ∧ givR b c x (76 + c) = 0 then 1 else 0) < (if isO b c = true ∧ b (76 + c) = 0 then 1 else 0)
    rw [e76, if_neg (fun z => by have := z.2; omega), if_pos ⟨hO, by omega⟩]
    exact Nat.zero_lt_one
/-- a digit is given wherever the first two solutions are unlike -/
def mkL (mk : Nat → Nat) : Nat → (Nat → Nat) → Nat → (Nat → Nat) × Nat
  | 0, b, n => (b, n)
  | f + 1, b, n => if (slv b).length < 2 then (b, n) else mkL mk f (givR b ((unl b).getD 0) (mk ((unl b).getD 0))) (n + 1)
theorem mkL_less {mk : Nat → Nat} {b : Nat → Nat} {n : Nat} (h : (slv b).length < 2) : ∀ f, mkL mk f b n = (b, n)
  | 0 => rfl
  | _ + 1 => if_pos h
def spMake (b : Nat → Nat) (x : Int32) : Int32 × Option (Nat → Nat) :=
  bif !decide (0 < b 2) then (-1, none) else match fdD b x with
    | none => (-2, none)
    | some g => (nI (mkL g 16 (rstN (totM b g (b 3)) (b 0 * b 1)) 0).2, some (mkL g 16 (rstN (totM b g (b 3)) (b 0 * b 1)) 0).1)
theorem frVR_SU {M M' : ZM} (h : frI pVR M M') : frI pSU M M' := h.mono (fun a k z => by unfold pVR pV pR at z; unfold pSU pS pUR pU pR; omega) (fun _ _ z => z)
section MH
variable {d : Nat} {M : ZM} {b : Nat → Nat}
theorem s_firstUnlike_l {u c : Nat} (hu : u ≤ 36) {f g : Nat → Nat} (h0 : ∀ x, x < u → M.1 876 x = nI (f x) ∧ f x < 8) (h1 : ∀ x, x < u → M.1 876 (36 + x) = nI (g x) ∧ g x < 8) : ∀ j i, i + j = u → (List.range' i j).find? (fun x => decide (f x ≠ g x)) = some c → h_M_firstUnlike_2 d (nI i) M = some (some (.int (nI c)), M) := by
  intro j
  induction j with
  | zero => intro i h hf; cases hf
  | succ j ih =>
    intro i h hf
    obtain ⟨e0, l0⟩ := h0 i (by omega)
    obtain ⟨e1, l1⟩ := h1 i (by omega)
    rw [List.range'_succ, List.find?_cons] at hf
    refine e_M_firstUnlike_2 ?_
    rw [n_add, if_pos ((n_zin (by omega)).mpr (by omega)), if_pos ((n_zin (by omega)).mpr (by omega)), n_clamp (by omega), n_clamp (by omega), e0, e1]
    by_cases e : f i = g i
    · rw [decide_eq_false (fun z => z e)] at hf
      rw [if_pos (by rw [e]), n_add1]
      exact ih (i + 1) (by omega) hf
    · rw [decide_eq_true (show f i ≠ g i from e)] at hf
      cases hf
      rw [if_neg (by rw [n_eq (by omega) (by omega)]; exact e)]
theorem s_firstUnlike (hW : Wf b) {c : Nat} (h2 : 2 ≤ (slv b).length) (hT : Told b 2 M) (hc : unl b = some c) : zEv (d + 1) zmM_firstUnlike [.ref 866] M = some (some (.int (nI c)), M) := by
  have h36 := hW.n36
  have t0 := hT 0 (by omega)
  have t1 := hT 1 (by omega)
  unfold unl at hc
  rw [List.range_eq_range'] at hc
  refine e_M_firstUnlike (s_firstUnlike_l (u := b 0 * b 1) h36 (f := dgt ((slv b).getD 0 fun _ => 0)) (g := dgt ((slv b).getD 1 fun _ => 0)) (fun x hx => ⟨?_, dgt_lt _ _⟩) (fun x hx => ⟨?_, dgt_lt _ _⟩) (b 0 * b 1) 0 (by omega) hc)
  · have := t0 x hx
    rwa [Nat.mul_zero, Nat.zero_add] at this
  · have := t1 x hx
    rwa [Nat.mul_one] at this
theorem s_make_l {mk : Nat → Nat} (hm : ∀ c, mk c < 8) : ∀ (f : Nat) (b : Nat → Nat) (n : Nat) (M : ZM), ug b ≤ f → n + f ≤ 16 → Wf b → WfD b → MR b M → (∀ c, c < 36 → M.1 881 c = nI (mk c)) → (∀ c, c < 36 → isO b c = true → 1 ≤ mk c ∧ mk c ≤ b 2) →
    ∃ M', h_M_make_91 (d + 49) (nI n) M = some (some (.int (nI (mkL mk f b n).2)), M') ∧ frI pVR M M' ∧ MR (mkL mk f b n).1 M' ∧ Wf (mkL mk f b n).1 ∧ WfD (mkL mk f b n).1 := by
  intro f
  induction f with
  | zero =>
    intro b n M hu hn hW hD hR h881 hk
    have hl : (slv b).length < 2 := by
      rcases Nat.lt_or_ge (slv b).length 2 with h | h
      · exact h
      · obtain ⟨c, c1, c2, c3, c4⟩ := unl_some hW hD h
        have := ug_giv hW (x := 0) (show c < 36 by have := hW.n36; omega) c3 c4
        omega
    obtain ⟨M1, a1, a2, a3⟩ := s_solves (d := d) hR hW (m := 2) (by omega) (by omega)
    refine ⟨M1, e_M_make_91 ?_, frV_VR a2, hR.frS (frV_S a2), hW, hD⟩
    rw [a1, zC1_some, if_neg (by rw [n_eq (by omega) (by omega)]; omega)]
    rfl
  | succ f ih =>
    intro b n M hu hn hW hD hR h881 hk
    obtain ⟨M1, a1, a2, a3⟩ := s_solves (d := d) hR hW (m := 2) (by omega) (by omega)
    have r1 := hR.frS (frV_S a2)
    rcases Nat.lt_or_ge (slv b).length 2 with hl | hl
    · rw [mkL_less hl]
      refine ⟨M1, e_M_make_91 ?_, frV_VR a2, r1, hW, hD⟩
      rw [a1, zC1_some, if_neg (by rw [n_eq (by omega) (by omega)]; omega)]
    · obtain ⟨c, c1, c2, c3, c4⟩ := unl_some hW hD hl
      have h36 := hW.n36
      have hc : c < 36 := by omega
      have hkc := hk c hc c3
      have h27 := hW.1.2.2.1
      have hmc := hm c
      have g881 : ∀ c, c < 36 → M1.1 881 c = nI (mk c) := fun c hc => (a2.1 881 c (fun z => by unfold pV at z; omega)).trans (h881 c hc)
      obtain ⟨p1, p2⟩ := s_puts (d := d + 48) r1 hc hmc
      have eL : mkL mk (f + 1) b n = mkL mk f (givR b c (mk c)) (n + 1) := by
        show (if (slv b).length < 2 then (b, n) else _) = _
        rw [if_neg (by omega), c1]
        rfl
      rw [eL]
      obtain ⟨w1, w2⟩ := givR_w hW hD c3 hkc.1 hkc.2
      have e2 : givR b c (mk c) 2 = b 2 := by unfold givR putR; rw [if_neg (by omega), if_neg (by omega), if_neg (by omega)]
      have hu2 := ug_giv hW (x := mk c) hc c3 c4
      obtain ⟨M', k1, k2, k3⟩ := ih (givR b c (mk c)) (n + 1) (zpi (zpi (zpi M1 867 (40 + c) (nI (mk c))) 867 (112 + c) (nI (2 ^ mk c))) 867 (76 + c) (nI 1)) (by omega) (by omega) w1 w2 (fun x hx => by
        rw [m_pi]
        unfold givR
        by_cases e : x = 76 + c
        · rw [if_pos ⟨rfl, e⟩, if_pos e]
        · rw [if_neg (fun z => e z.2), if_neg e]
          exact p2 x hx) (fun x hx => by rw [m_pi, if_neg (by omega), m_pi, if_neg (by omega), m_pi, if_neg (by omega)]; exact g881 x hx) (fun x hx ho => by rw [givR_isO h36 hc] at ho; rw [e2]; exact hk x hx ho)
      refine ⟨M', e_M_make_91 ?_, ((((frV_VR a2).pi (show pVR 867 (40 + c) from Or.inr ⟨rfl, by omega⟩)).pi (show pVR 867 (112 + c) from Or.inr ⟨rfl, by omega⟩)).pi (show pVR 867 (76 + c) from Or.inr ⟨rfl, by omega⟩)).trans k2, k3⟩
      rw [a1, zC1_some, if_pos (by rw [show min 2 (slv b).length = 2 by omega]), s_firstUnlike (d := d + 48) hW hl a3 c1, zC1_some, if_pos ((n_zin (by omega)).mpr hc), n_clamp (by omega), g881 c hc, p1, zC0_some, n_add, if_pos ((n_zin (by omega)).mpr (by omega)), n_clamp (by omega), n_add1]
      exact k1
theorem rst_giv (b : Nat → Nat) (hW : Wf b) : ∀ c, c ≤ 36 → ∀ x, x < c → isO b x = true → rstN b c (76 + x) = 0
  | 0, _, x, hx, _ => by omega
  | c + 1, hc, x, hx, hO => by
    show rst1 (rstN b c) c (76 + x) = 0
    by_cases e : x = c
    · subst e
      exact (setK_ne (by omega)).trans (by unfold mid1; rw [if_neg (by omega), if_pos rfl])
    · rw [rst1_ne (by omega) (by omega) (by omega)]
      exact rst_giv b hW c (by omega) x (by omega) hO
theorem s_make {U : List (Nat → Nat)} (hR : MR b M) (hW : Wf b) (hD : WfD b) (hU : UR U M) (x : Int32) : ∃ M', zEv (d + 50) zmM_make [.ref 866, .int x] M = some (some (.int (spMake b x).1), M') ∧ ActQ b U M M' (spMake b x).2 := by
  unfold spMake
  cases h2 : decide (0 < b 2) with
  | false =>
    refine ⟨M, e_M_make ?_, hR, hU, fr.refl⟩
    rw [s_isBoard (d := d + 47) hR hW, zC1_some, h2, if_pos (show nB false = nI 0 from rfl)]
    rfl
  | true =>
    have h02 := of_decide_eq_true h2
    obtain ⟨M1, a1, a2, a3⟩ := s_findsDigits (d := d + 43) hR hW h02 x
    have f1 := frMk_S a2
    have r1 := hR.frS f1
    have u1 := hU.frS f1
    cases hF : fdD b x with
    | none =>
      rw [hF] at a1
      refine ⟨M1, e_M_make ?_, r1, u1, f1⟩
      rw [s_isBoard (d := d + 47) hR hW, zC1_some, h2, if_neg (by decide), a1, zC1_some, if_pos (by rfl)]
      rfl
    | some g =>
      rw [hF] at a1
      obtain ⟨k881, hm⟩ := a3 g hF
      obtain ⟨M2, b1, b2, b3, b4⟩ := s_keepsAct (d := d + 47) r1 u1
      have g881 : ∀ c, c < 36 → M2.1 881 c = nI (g c) := fun c hc => (b2.1 881 c (fun z => by unfold pU at z; omega)).trans (k881 c hc)
      obtain ⟨M3, c1, c2, c3⟩ := s_totalsMade (d := d + 46) b4 hW hD hm g881
      obtain ⟨w1, w2⟩ := totM_w hW hD hm (j := b 3) (Nat.le_refl _)
      have eN : totM b g (b 3) 0 * totM b g (b 3) 1 = b 0 * b 1 := by rw [totM_low (by omega), totM_low (by omega)]
      obtain ⟨M4, d1, d2, d3⟩ := s_reset (d := d + 46) w1 w2 (b 0 * b 1) 0 M3 (by rw [eN]; omega) c3
      rw [eN] at d2
      have h36 := hW.n36
      obtain ⟨v1, v2⟩ := rstN_w w1 w2 (c := b 0 * b 1) h36
      have eO : isO (rstN (totM b g (b 3)) (b 0 * b 1)) = isO b := funext fun y => by
        unfold isO
        rw [rstN_ne h36 (by omega), rstN_ne h36 (by omega), eN]
        by_cases h : y < b 0 * b 1
        · rw [rstN_ne h36 (by omega), totM_low (by omega)]
        · rw [decide_eq_false h, Bool.false_and, Bool.false_and]
      have hu : ug (rstN (totM b g (b 3)) (b 0 * b 1)) ≤ 16 := Nat.le_trans (ug_le _) v1.2.2.2.2.1
      obtain ⟨M', e1, e2, e3, -, -⟩ := s_make_l (d := d) hm 16 (rstN (totM b g (b 3)) (b 0 * b 1)) 0 M4 hu (by omega) v1 v2 d2 (fun c hc => (d1.1 881 c (fun z => by unfold pR at z; omega)).trans ((c2.1 881 c (fun z => by unfold pT at z; omega)).trans (g881 c hc))) (fun c hc ho => by
        rw [eO] at ho
        rw [rstN_ne h36 (by omega), totM_low (by omega)]
        exact fdD_ok h02 hF hc ho)
      have f2 : frI pSU M M2 := (f1.mono (fun _ _ z => Or.inl z) (fun _ _ z => z)).trans (b2.mono (fun _ _ z => Or.inr (Or.inl z)) (fun _ _ z => z))
      have f3 : frI pSU M2 M3 := c2.mono (fun a k z => by unfold pT at z; unfold pSU pS pUR pU pR; omega) (fun _ _ z => z)
      have f4 : frI pSU M3 M4 := d1.mono (fun a k z => Or.inr (Or.inr z)) (fun _ _ z => z)
      have u4 : UR (pushU U b) M' := ((b3.fr c2 (fun a k z => by unfold pT at z; omega)).fr d1 (fun a k z => by unfold pR at z; omega)).fr e2 (fun a k z => by unfold pVR pV pR at z; omega)
      refine ⟨M', e_M_make ?_, e3, u4, ((f2.trans f3).trans f4).trans (frVR_SU e2)⟩
      rw [s_isBoard (d := d + 47) hR hW, zC1_some, h2, if_neg (by decide), a1, zC1_some, if_neg (show ¬ nB (some g).isSome = nI 0 from (by decide : ¬ nB true = nI 0)), b1, zC0_some, c1, zC0_some]
      exact d3 _ e1
end MH
