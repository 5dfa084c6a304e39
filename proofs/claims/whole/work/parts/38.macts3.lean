/-! THE MODEL, 27: total, undo -/
def mostT (s : Nat) : Nat := if s = 0 then 99 else if s = 1 then 999999 else 6
def totR (b : Nat → Nat) (k n : Nat) : Nat → Nat := fun i => if i = 149 + 10 * k then n else b i
def spTotal (b : Nat → Nat) (x y : Int32) : Int32 × Option (Nat → Nat) :=
  if iI x (b 3) = false then (-1, none) else
  if b (148 + 10 * x.toInt.toNat) = 3 then (-1, none) else
  if iI y (mostT (b (148 + 10 * x.toInt.toNat)) + 1) = false then (-1, none) else
  if b (149 + 10 * x.toInt.toNat) = y.toInt.toNat then (-2, none) else (nI (b (149 + 10 * x.toInt.toNat)), some (totR b x.toInt.toNat y.toInt.toNat))
section MB3
variable {d : Nat} {M : ZM} {b : Nat → Nat} {U : List (Nat → Nat)}
theorem s_mostOf {s : Nat} (hs : s ≤ 3) : zEv (d + 1) zmM_mostOf [.int (nI s)] M = some (some (.int (nI (mostT s))), M) := by
  refine e_M_mostOf ?_
  unfold mostT
  simp only [n_eq (show s < 2147483648 by omega) (show 0 < 2147483648 by omega), n_eq (show s < 2147483648 by omega) (show 1 < 2147483648 by omega)]
  by_cases h0 : s = 0
  · rw [if_pos h0, if_pos h0]
  · rw [if_neg h0, if_neg h0]
    by_cases h1 : s = 1
    · rw [if_pos h1, if_pos h1]
    · rw [if_neg h1, if_neg h1]
theorem s_inT (x : Int32) {n : Nat} (hn : n < 2147483648) : zEv (d + 1) zmM_in [.long (Int32.toInt64 x), .long (nJ 0), .long (Int32.toInt64 (nI n))] M = some (some (.int (nB (iI x (n + 1)))), M) := by
  rw [s_in, Int32.toInt_toInt64, Int32.toInt_toInt64, j_toInt (show 0 < 9223372036854775808 by omega), n_toInt hn]
  unfold iI
  congr 5
  rw [Bool.eq_iff_iff]
  simp only [Bool.and_eq_true, decide_eq_true_eq]
  omega
theorem s_total (hR : MR b M) (hW : Wf b) (hU : UR U M) (x y : Int32) : ∃ M', zEv (d + 4) zmM_total [.ref 866, .int x, .int y] M = some (some (.int (spTotal b x y).1), M') ∧ ActR b U M M' (spTotal b x y).2 := by
  unfold spTotal
  have h12 := hW.1.2.2.2
  cases hx : iI x (b 3) with
  | false =>
    refine ⟨M, e_M_total ?_, ?_⟩
    · rw [s_isCage (d := d + 1) hR hW, zC1_some, hx, if_pos (show nB false = nI 0 from rfl), if_pos rfl]
    · rw [if_pos rfl]; rfl
  | true =>
    obtain ⟨k, hk, rfl⟩ := iI_ex (by omega) hx
    have hk12 := cg_12 hW hk
    have hg := (hW.2.2.2.2.2 k hk).1
    have o0 : zEv (d + 3) zmM_of [.ref 866, .int (nI k), .int (nI 0)] M = some (some (.int (nI (b (148 + 10 * k)))), M) := s_of (d := d + 2) hR hk12 (show 0 < 10 by omega)
    have o1 := s_of (d := d + 2) hR hk12 (show 1 < 10 by omega)
    rw [show 148 + 10 * k + 1 = 149 + 10 * k by omega] at o1
    have hmo : mostT (b (148 + 10 * k)) ≤ 999999 := by unfold mostT; split; omega; split <;> omega
    rw [n_toInt (show k < 2147483648 by omega), Int.toNat_natCast, if_neg (show ¬ (true = false) by simp)]
    by_cases h3 : b (148 + 10 * k) = 3
    · refine ⟨M, e_M_total ?_, ?_⟩
      · rw [s_isCage (d := d + 1) hR hW, zC1_some, hx, if_neg (by decide), o0, zC1_some, h3, if_pos rfl, if_pos rfl]
      · rw [if_pos h3]; rfl
    · rw [if_neg h3]
      have n3 : ¬ nI (b (148 + 10 * k)) = nI 3 := fun z => h3 ((n_eq (by omega) (by omega)).mp z)
      cases hy : iI y (mostT (b (148 + 10 * k)) + 1) with
      | false =>
        refine ⟨M, e_M_total ?_, ?_⟩
        · rw [s_isCage (d := d + 1) hR hW, zC1_some, hx, if_neg (by decide), o0, zC1_some, if_neg n3, o0, zC1_some, s_mostOf (d := d + 2) hg.1, zC1_some, s_inT (d := d + 2) y (by omega), zC1_some, hy, if_pos (show nB false = nI 0 from rfl), if_pos rfl]
        · rw [if_pos rfl]; rfl
      | true =>
        obtain ⟨z, hz, rfl⟩ := iI_ex (by omega) hy
        rw [n_toInt (show z < 2147483648 by omega), Int.toNat_natCast, if_neg (show ¬ (true = false) by simp)]
        by_cases he : b (149 + 10 * k) = z
        · refine ⟨M, e_M_total ?_, ?_⟩
          · rw [s_isCage (d := d + 1) hR hW, zC1_some, hx, if_neg (by decide), o0, zC1_some, if_neg n3, o0, zC1_some, s_mostOf (d := d + 2) hg.1, zC1_some, s_inT (d := d + 2) (nI z) (by omega), zC1_some, hy, if_neg (by decide), o1, zC1_some, he, if_pos rfl, if_pos rfl]
          · rw [if_pos he]; rfl
        · obtain ⟨M1, a1, a2, a3, a4⟩ := s_keepsAct (d := d + 1) hR hU
          have nz : ¬ nI (b (149 + 10 * k)) = nI z := fun w => he ((n_eq (by omega) (by omega)).mp w)
          refine ⟨zpi M1 867 (149 + 10 * k) (nI z), e_M_total ?_, ?_⟩
          · rw [s_isCage (d := d + 1) hR hW, zC1_some, hx, if_neg (by decide), o0, zC1_some, if_neg n3, o0, zC1_some, s_mostOf (d := d + 2) hg.1, zC1_some, s_inT (d := d + 2) (nI z) (by omega), zC1_some, hy, if_neg (by decide), o1, zC1_some, if_neg nz, a1, zC0_some, n_mul, n_add, n_add, show 148 + 10 * k + 1 = 149 + 10 * k by omega, if_pos ((n_zin (by omega)).mpr (by omega)), n_clamp (by omega), if_neg he]
          · rw [if_neg he]
            refine ⟨fun i hi => ?_, ur_pi a3, (a2.mono (fun _ _ z => Or.inl z) (fun _ _ z => z)).pi (show pUR 867 (149 + 10 * k) from Or.inr ⟨rfl, by omega⟩)⟩
            unfold totR
            rw [m_pi]
            by_cases e : i = 149 + 10 * k
            · rw [if_pos ⟨rfl, e⟩, if_pos e]
            · rw [if_neg (fun z => e z.2), if_neg e]
              exact a4 i hi
theorem s_undo_l {u : Nat} (hu : u < 10) : ∀ j k (M : ZM), k + j = 268 → M.1 866 2 = nI u → ∃ M', h_M_undo_21 d (nI k) M = some (some (.int (nI u)), M') ∧ frI pR M M' ∧ (∀ x, x < k → M'.1 867 x = M.1 867 x) ∧ ∀ x, k ≤ x → x < 268 → M'.1 867 x = M.1 868 (268 * u + x) := by
  intro j
  induction j with
  | zero =>
    intro k M h h2
    refine ⟨M, e_M_undo_21 ?_, fr.refl, fun _ _ => rfl, fun x h1 h3 => by omega⟩
    rw [if_neg (by rw [n_lt (by omega) (by omega)]; omega), h2]
  | succ j ih =>
    intro k M h h2
    obtain ⟨M', a1, a2, a3, a4⟩ := ih (k + 1) (zpi M 867 k (M.1 868 (268 * u + k))) (by omega) (by rw [m_pi, if_neg (by omega)]; exact h2)
    refine ⟨M', e_M_undo_21 ?_, (fr.refl.pi (show pR 867 k from ⟨rfl, by omega⟩)).trans a2, fun x hx => ?_, fun x h1 h3 => ?_⟩
    · simp only [n_lt (show k < 2147483648 by omega) (show 268 < 2147483648 by omega), h2, n_mul, n_add, n_zin (show 268 * u + k < 2147483648 by omega), n_clamp (show 268 * u + k < 2147483648 by omega), n_zin (show k < 2147483648 by omega), n_clamp (show k < 2147483648 by omega), a1]
      rw [if_pos (by omega), if_pos (by omega), if_pos (by omega)]
    · rw [a3 x (by omega), m_pi, if_neg (by omega)]
    · by_cases e : x = k
      · rw [e, a3 k (by omega), m_pi, if_pos ⟨rfl, rfl⟩]
      · rw [a4 x (by omega) h3, m_pi, if_neg (by omega)]
theorem s_undo_0 (hU : UR [] M) : zEv (d + 1) zmM_undo [.ref 866] M = some (some (.int (-1)), M) := by
  refine e_M_undo ?_
  have h : M.1 866 2 = nI 0 := hU.1.1
  rw [h, if_pos rfl]
theorem s_undo {L : List (Nat → Nat)} {r : Nat → Nat} (hU : UR (L ++ [r]) M) : ∃ M', zEv (d + 1) zmM_undo [.ref 866] M = some (some (.int (nI L.length)), M') ∧ MR r M' ∧ UR L M' ∧ frI pUR M M' := by
  have hl : (L ++ [r]).length = L.length + 1 := by rw [List.length_append]; rfl
  have h10 := hU.1.2
  have h2 := hU.1.1
  rw [hl] at h10 h2
  obtain ⟨M', a1, a2, a3, a4⟩ := s_undo_l (d := d) (u := L.length) (by omega) 268 0 (zpi M 866 2 (nI L.length)) (by omega) (by rw [m_pi, if_pos ⟨rfl, rfl⟩])
  refine ⟨M', e_M_undo ?_, fun k hk => ?_, ⟨⟨?_, by omega⟩, fun i hi k hk => ?_⟩, (fr.refl.pi (show pUR 866 2 from Or.inl (Or.inr ⟨rfl, rfl⟩))).trans (a2.mono (fun _ _ z => Or.inr z) (fun _ _ z => z))⟩
  · rw [h2, if_neg (by rw [n_eq (by omega) (by omega)]; omega), n_sub (by omega)]
    exact a1
  · rw [a4 k (by omega) hk, m_pi, if_neg (by omega), hU.2 L.length (by omega) k hk, List.getD_eq_getElem?_getD, List.getElem?_append_right (Nat.le_refl _), Nat.sub_self]
    rfl
  · rw [a2.1 866 2 (fun z => by unfold pR at z; omega), m_pi, if_pos ⟨rfl, rfl⟩]
  · rw [a2.1 868 _ (fun z => by unfold pR at z; omega), m_pi, if_neg (by omega), hU.2 i (by omega) k hk, List.getD_eq_getElem?_getD, List.getD_eq_getElem?_getD, List.getElem?_append_left hi]
end MB3
