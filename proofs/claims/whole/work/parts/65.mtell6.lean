/-! THE MODEL, 54: tell runs, its end -/
def pTe : Nat → Nat → Prop := fun a k => pS a k ∨ pTp a k ∨ pUR a k
section MY
variable {d : Nat} {M : ZM} {b : Nat → Nat} {tp : List Nat} {r : Nat → Nat}
theorem s_tell_24 : ∀ j i (M : ZM), i + j = 268 → (∀ k, k < 268 → M.1 883 k = nI (r k)) → (∀ k, k < i → M.1 867 k = nI (r k)) → ∃ M1, frI pR M M1 ∧ MR r M1 ∧ ∀ R, h_M_tell_51 d (nI 0) M1 = some R → h_M_tell_24 d (nI i) M = some R := by
  intro j
  induction j with
  | zero =>
    intro i M h hR hk
    obtain rfl : i = 268 := by omega
    exact ⟨M, fr.refl, hk, fun R hR => e_M_tell_24 (by rw [if_neg (by decide)]; exact hR)⟩
  | succ j ih =>
    intro i M h hR hk
    obtain ⟨M1, a1, a2, a3⟩ := ih (i + 1) (zpi M 867 i (nI (r i))) (by omega) (fun k hk2 => by rw [m_pi, if_neg (by omega)]; exact hR k hk2) (fun k hk2 => by
      rw [m_pi]
      by_cases e : k = i
      · rw [if_pos ⟨rfl, e⟩, e]
      · rw [if_neg (fun z => e z.2)]
        exact hk k (by omega))
    refine ⟨M1, (fr.refl.pi (show pR 867 i from ⟨rfl, by omega⟩)).trans a1, a2, fun R hr => e_M_tell_24 ?_⟩
    rw [if_pos ((n_lt (by omega) (by omega)).mpr (by omega)), if_pos ((n_zin (by omega)).mpr (by omega)), n_clamp (by omega), hR i (by omega), n_add1]
    exact a3 R hr
theorem s_tell_51 (hV : PV r) (hW : Wf r) : ∀ j i (M : ZM), i + j = r 0 * r 1 → MR (mkN r i) M → ∃ M', h_M_tell_51 (d + 3) (nI i) M = some (some (.int (nI (r 3))), M') ∧ frI pUR M M' ∧ MR (mkR r) M' ∧ M'.1 866 2 = nI 0 := by
  have h36 := hV.n36
  intro j
  induction j with
  | zero =>
    intro i M h hR
    obtain rfl : i = r 0 * r 1 := by omega
    have f1 : frI (fun a k => a = 866 ∧ k = 2) M (zpi M 866 2 (nI 0)) := fr.refl.pi ⟨rfl, rfl⟩
    have r1 : MR (mkR r) (zpi M 866 2 (nI 0)) := hR.fr f1 fun k _ z => by omega
    refine ⟨zpi M 866 2 (nI 0), e_M_tell_51 ?_, f1.mono (fun a k z => Or.inl (Or.inr z)) (fun _ _ z => z), r1, by rw [m_pi, if_pos ⟨rfl, rfl⟩]⟩
    rw [s_cells (d := d + 2) hR, zC1_some, mkN_ne (by omega), mkN_ne (by omega), if_neg (by rw [n_lt (by omega) (by omega)]; omega), s_cages (d := d + 2) r1, zC1_some]
    have : mkR r 3 = r 3 := mkN_ne (by omega)
    rw [this]
  | succ j ih =>
    intro i M h hR
    have w1 := mkN_w hV hW i (by omega)
    have g := hV.2.1 i (by omega)
    have h27 := hV.1.2.2.1
    have e0 : mkN r i 0 = r 0 := mkN_ne (by omega)
    have e1 : mkN r i 1 = r 1 := mkN_ne (by omega)
    have eO : isO (mkN r i) = isO r := mkN_isO h36 i
    have e76 : mkN r i (76 + i) = r (76 + i) := mkN_ne (by omega)
    have e40 : mkN r i (40 + i) = r (40 + i) := mkN_ne (by omega)
    have h2i : 2 ^ r (40 + i) = 1 <<< r (40 + i) := by rw [Nat.shiftLeft_eq, Nat.one_mul]
    cases hO : isO r i with
    | false =>
      have eS : mkN r (i + 1) = mkN r i := by show mkS (mkN r i) i = _; unfold mkS; rw [eO, hO, if_neg (by simp)]
      obtain ⟨M', a1, a2, a3⟩ := ih (i + 1) M (by omega) (by rw [eS]; exact hR)
      refine ⟨M', e_M_tell_51 ?_, a2, a3⟩
      rw [s_cells (d := d + 2) hR, zC1_some, e0, e1, if_pos ((n_lt (by omega) (by omega)).mpr (by omega)), s_isOpen (d := d) hR w1 (by omega), zC1_some, eO, hO, if_pos (show nB false = nI 0 from rfl), n_add1]
      exact a1
    | true =>
      by_cases e : r (76 + i) = 1
      · have eS : mkN r (i + 1) = setK (mkN r i) i (2 ^ r (40 + i)) := by show mkS (mkN r i) i = _; unfold mkS; rw [eO, hO, if_pos rfl, e76, if_pos e, e40]
        obtain ⟨M', a1, a2, a3⟩ := ih (i + 1) (zpi M 867 (112 + i) (nI (2 ^ r (40 + i)))) (by omega) (by rw [eS]; exact mr_setK hR)
        refine ⟨M', e_M_tell_51 ?_, (fr.refl.pi (show pUR 867 (112 + i) from Or.inr ⟨rfl, by omega⟩)).trans a2, a3⟩
        rw [s_cells (d := d + 2) hR, zC1_some, e0, e1, if_pos ((n_lt (by omega) (by omega)).mpr (by omega)), s_isOpen (d := d) hR w1 (by omega), zC1_some, eO, hO, if_neg (by decide), n_add, if_pos ((n_zin (by omega)).mpr (by omega)), n_clamp (by omega), hR _ (by omega), e76, if_pos (by rw [e]), n_add, if_pos ((n_zin (by omega)).mpr (by omega)), n_add, if_pos ((n_zin (by omega)).mpr (by omega)), n_clamp (by omega), n_clamp (by omega), hR _ (by omega), e40, n_shl (by omega), ← h2i, n_add1]
        exact a1
      · have eS : mkN r (i + 1) = setK (mkN r i) i (allM (mkN r i)) := by show mkS (mkN r i) i = _; unfold mkS; rw [eO, hO, if_pos rfl, e76, if_neg e]
        obtain ⟨M', a1, a2, a3⟩ := ih (i + 1) (zpi M 867 (112 + i) (nI (allM (mkN r i)))) (by omega) (by rw [eS]; exact mr_setK hR)
        refine ⟨M', e_M_tell_51 ?_, (fr.refl.pi (show pUR 867 (112 + i) from Or.inr ⟨rfl, by omega⟩)).trans a2, a3⟩
        rw [s_cells (d := d + 2) hR, zC1_some, e0, e1, if_pos ((n_lt (by omega) (by omega)).mpr (by omega)), s_isOpen (d := d) hR w1 (by omega), zC1_some, eO, hO, if_neg (by decide), n_add, if_pos ((n_zin (by omega)).mpr (by omega)), n_clamp (by omega), hR _ (by omega), e76, if_neg (by rw [n_eq (by omega) (by omega)]; exact e), s_allMarks (d := d + 1) hR w1, zC1_some, n_add, if_pos ((n_zin (by omega)).mpr (by omega)), n_clamp (by omega), n_add1]
        exact a1
/-- what tell leaves -/
def TeR (b : Nat → Nat) (U : List (Nat → Nat)) (M M' : ZM) : Option (Nat → Nat) → Prop
  | none => MR b M' ∧ UR U M'
  | some b' => (MR b' M' ∧ UR [] M') ∧ Wf b' ∧ WfD b'
theorem s_tell {U : List (Nat → Nat)} (hR : MR b M) (hU : UR U M) (hT : TpR tp M) : ∃ M', zEv (d + 11) zmM_tell [.ref 866] M = some (some (.int (spTell tp).1), M') ∧ TpR [] M' ∧ frI pTe M M' ∧ TeR b U M M' (spTell tp).2 := by
  obtain ⟨M1, a1, a2, a3⟩ := s_readsAll (d := d) hT
  have f1 : frI pTe M (zpi M1 866 35 (nI 0)) := (a2.mono (fun a k z => by unfold pRd at z; exact Or.inl (by unfold pS; omega)) (fun _ _ z => z)).pi (Or.inr (Or.inl (Or.inl ⟨rfl, rfl⟩)))
  have f2 : frI (fun a k => pRd a k ∨ (a = 866 ∧ k = 35)) M (zpi M1 866 35 (nI 0)) := (a2.mono (fun a k z => Or.inl z) (fun _ _ z => z)).pi (Or.inr ⟨rfl, rfl⟩)
  have t1 : TpR [] (zpi M1 866 35 (nI 0)) := ⟨⟨by rw [m_pi, if_pos ⟨rfl, rfl⟩]; rfl, Nat.zero_le _⟩, fun k hk => absurd hk (Nat.not_lt_zero k)⟩
  unfold spTell
  cases hE : rdAll tp with
  | error e =>
    rw [hE] at a1 a3
    refine ⟨zpi M1 866 35 (nI 0), e_M_tell ?_, t1, f1, hR.fr f2 (fun k _ z => by unfold pRd at z; omega), hU.fr f2 (fun a k z => by unfold pRd at z; omega)⟩
    have a3' : M1.1 866 37 = nI e := a3
    rw [a1, zC1_some, if_pos (by rfl), m_pi, if_neg (by omega), a3']
  | ok r =>
    rw [hE] at a1 a3
    rw [isK_ok] at a1
    obtain ⟨s', hP⟩ := a3
    obtain ⟨g1, g2, g3⟩ := rdAll_ok hE
    have hW := PV_wf g1 g3
    obtain ⟨M2, b1, b2, b3⟩ := s_tell_24 (d := d + 10) (r := r) 268 0 (zpi M1 866 35 (nI 0)) (by omega) (fun k hk => by rw [m_pi, if_neg (by omega)]; exact hP.2 k hk) (fun k hk => absurd hk (Nat.not_lt_zero k))
    obtain ⟨M', c1, c2, c3, c4⟩ := s_tell_51 (d := d + 7) g1 hW (r 0 * r 1) 0 M2 (by omega) b2
    refine ⟨M', e_M_tell ?_, ?_, (f1.trans (b1.mono (fun a k z => Or.inr (Or.inr (Or.inr z))) (fun _ _ z => z))).trans (c2.mono (fun a k z => Or.inr (Or.inr z)) (fun _ _ z => z)), ⟨c3, ⟨c4, Nat.zero_le _⟩, fun i hi => absurd hi (Nat.not_lt_zero i)⟩, mkR_w g1 g3 (fun _ _ => trivial)⟩
    · rw [a1, zC1_some, if_neg (by decide)]
      exact b3 _ c1
    · exact (t1.fr b1 (fun a k z => by unfold pR at z; omega)).fr c2 (fun a k z => by unfold pUR pU pR at z; omega)
end MY
