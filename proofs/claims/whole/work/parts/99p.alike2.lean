/-! BOTH SIDES, 2: tell, undo, keep, back -/
section QAN
variable {n : Nat} {M : ZM}
theorem rd_ok_w {tp : List Nat} {b' : Nat → Nat} {b : Nat → Nat} {U : List (Nat → Nat)} {M1 M2 : ZM} (h : TeR b U M1 M2 (some b')) : Wf b' ∧ WfD b' := h.2
theorem u_tell (h : ZV n M) : Al n zmC_tell zmM_tell [] M := by
  obtain ⟨b, U, K, tp, hC, hM⟩ := h
  obtain ⟨M1, a1, a2, a3, a4⟩ := c_tell (d := 53) hC.1.1 hC.1.2.1.1.2.2.2 hC.2.2.1
  have hM1 := ms_c hM a3 (fun a k z => by unfold pCt pTB pCf pBd at z; omega)
  have l1 := lo_fr a3 (fun a k z => by unfold pCt pTB pCf pBd at z; omega)
  obtain ⟨M2, c1, c2, c3, c4⟩ := s_tell (d := 53) hM1.1.1 hM1.1.2 hM1.2.2
  have p1 : ∀ a k, pTe a k → 866 ≤ a := fun a k z => by unfold pTe pS pTp pUR pU pR at z; omega
  have l2 := lo_tr l1 (lo_fr c3 fun a k z => by have := p1 a k z; omega)
  have hK1 := hC.2.1.2.fr a3 (fun a k z => by unfold pCt pTB pCf pBd at z; omega) fun a k z => by unfold pCt2 pBd at z; omega
  have hS1 := (hC.2.2.2.out a3 (fun a k z => by unfold pCt pTB pCf pBd at z; omega) fun a k z => by unfold pCt2 pBd at z; omega).le (Nat.le_add_right n 40)
  have hK2 := hM1.2.1.fr c3 (fun a k z => by unfold pTe pS pTp pUR pU pR at z; omega)
  generalize (spTell tp).2 = o at a4 c4
  cases o with
  | none =>
    have hP : PR U M1 := by
      obtain ⟨nx, h1, ⟨h2, h3, h4⟩, h5⟩ := hC.2.1.1
      refine ⟨nx, h1, ⟨(a3.1 64 4 fun z => by unfold pCt pTB pCf pBd at z; omega).trans h2, a4.2.trans h3, h4⟩, fun j hj => ?_⟩
      obtain ⟨g1, g2, g3⟩ := h5 j hj
      have : (nx + 10 - U.length + j) % 10 < 10 := Nat.mod_lt _ (by omega)
      exact ⟨g1.fr a3 g2.1.2.2.2 (fun a k z => by unfold pCt pTB pCf pBd at z; omega) fun a k z => by unfold pCt2 pBd at z; omega, g2, g3⟩
    exact ⟨_, M1, M2, ⟨a1, l1⟩, ⟨c1, l2⟩, b, U, K, [], cs_m ⟨⟨a4.1, hC.1.2⟩, ⟨hP, hK1⟩, a2, hS1⟩ c3 p1, ⟨c4.1, c4.2⟩, hK2, c2⟩
  | some b' =>
    have hP : PR [] M1 := pr_none hC.2.1.1 a3 (fun a k z => by unfold pCt pTB pCf pBd at z; omega) a4.2
    exact ⟨_, M1, M2, ⟨a1, l1⟩, ⟨c1, l2⟩, b', [], K, [], cs_m ⟨⟨a4.1, c4.2⟩, ⟨hP, hK1⟩, a2, hS1⟩ c3 p1, ⟨c4.1.1, c4.1.2⟩, hK2, c2⟩
theorem pUR_866 : ∀ a k, pUR a k → 866 ≤ a := fun a k z => by unfold pUR pU pR at z; omega
theorem u_undo (h : ZV n M) : Al n zmC_undo zmM_undo [] M := by
  obtain ⟨b, U, K, tp, hC, hM⟩ := h
  rcases List.eq_nil_or_concat U with e | ⟨L, r, e⟩
  · subst e
    exact ⟨-1, M, M, ⟨c_undo_0 (d := 62) hC.2.1.1, fun _ _ => rfl⟩, ⟨s_undo_0 (d := 63) hM.1.2, fun _ _ => rfl⟩, b, [], K, tp, cs_le hC (Nat.le_add_right n 40), hM⟩
  · rw [List.concat_eq_append] at e
    subst e
    obtain ⟨M1, a1, a2, a3, a4⟩ := c_undo (d := 62) hC.2.1.1
    have hM1 := ms_c hM a4 (fun a k z => by unfold pUn pBd at z; omega)
    have l1 := lo_fr a4 (fun a k z => by unfold pUn pBd at z; omega)
    obtain ⟨M2, c1, c2, c3, c4⟩ := s_undo (d := 63) hM1.1.2
    have l2 := lo_tr l1 (lo_fr c4 fun a k z => by have := pUR_866 a k z; omega)
    have hK1 := hC.2.1.2.fr a4 (fun a k z => by unfold pUn pBd at z; omega) fun a k z => by unfold pUn pBd at z; omega
    have hT1 := hC.2.2.1.fr a4 fun a k z => by unfold pUn pBd at z; omega
    have hS1 := (hC.2.2.2.out a4 (fun a k z => by unfold pUn pBd at z; omega) fun a k z => by unfold pUn pBd at z; omega).le (Nat.le_add_right n 40)
    exact ⟨_, M1, M2, ⟨a1, l1⟩, ⟨c1, l2⟩, r, L, K, tp, cs_m ⟨a2, ⟨a3, hK1⟩, hT1, hS1⟩ c4 pUR_866, ⟨c2, c3⟩, hM1.2.1.fr c4 (fun a k z => by unfold pUR pU pR at z; omega), hM1.2.2.fr c4 (fun a k z => by unfold pUR pU pR at z; omega)⟩
theorem u_keep (h : ZV n M) (x : Int32) : Al n zmC_keep zmM_keep [.int x] M := by
  obtain ⟨b, U, K, tp, hC, hM⟩ := h
  cases hx : iI x 2 with
  | false => exact ⟨-1, M, M, ⟨c_keep_no (d := 62) hx, fun _ _ => rfl⟩, ⟨s_keep_no (d := 62) hx, fun _ _ => rfl⟩, b, U, K, tp, cs_le hC (Nat.le_add_right n 40), hM⟩
  | true =>
    obtain ⟨i, hi, rfl⟩ := iI_ex (by omega) hx
    obtain ⟨M1, a1, a2, a3⟩ := c_keep (d := 62) hC.1.1 hC.1.2.1 hC.1.2.2 hC.2.1.2 hi
    have hM1 := ms_c hM a3 (fun a k z => by unfold pKp2 at z; omega)
    have l1 := lo_fr a3 (fun a k z => by unfold pKp2 at z; omega)
    obtain ⟨M2, c1, c2, c3⟩ := s_keep (d := 62) hM1.1.1 hC.1.2.1 hM1.2.1 hi
    have p1 : ∀ a k, pK a k → 866 ≤ a := fun a k z => by unfold pK at z; omega
    have l2 := lo_tr l1 (lo_fr c3 fun a k z => by have := p1 a k z; omega)
    exact ⟨_, M1, M2, ⟨a1, l1⟩, ⟨c1, l2⟩, b, U, putK K i b, tp, cs_m ⟨⟨hC.1.1.fr a3 hC.1.2.1.1.2.2.2 (fun a k z => by unfold pKp2 at z; omega) fun a k z => by unfold pKp2 at z; omega, hC.1.2⟩, ⟨hC.2.1.1.fr a3 (fun a k z => by unfold pKp2 at z; omega) fun a k z => by unfold pKp2 at z; omega, a2⟩, hC.2.2.1.fr a3 fun a k z => by unfold pKp2 at z; omega, (hC.2.2.2.out a3 (fun a k z => by unfold pKp2 at z; omega) fun a k z => by unfold pKp2 at z; omega).le (Nat.le_add_right n 40)⟩ c3 p1,
      ⟨hM1.1.1.fr c3 fun k _ z => by unfold pK at z; omega, hM1.1.2.fr c3 fun a k z => by unfold pK at z; omega⟩, c2, hM1.2.2.fr c3 fun a k z => by unfold pK at z; omega⟩
theorem u_back (h : ZV n M) (x : Int32) : Al n zmC_back zmM_back [.int x] M := by
  obtain ⟨b, U, K, tp, hC, hM⟩ := h
  cases hx : iI x 2 with
  | false => exact ⟨-1, M, M, ⟨c_back_no (d := 62) hx, fun _ _ => rfl⟩, ⟨s_back_no (d := 62) hx, fun _ _ => rfl⟩, b, U, K, tp, cs_le hC (Nat.le_add_right n 40), hM⟩
  | true =>
    obtain ⟨i, hi, rfl⟩ := iI_ex (by omega) hx
    cases hk : K i with
    | none => exact ⟨-2, M, M, ⟨c_back_un (d := 62) hC.2.1.2 hi hk, fun _ _ => rfl⟩, ⟨s_back_un (d := 62) hM.2.1 hi hk, fun _ _ => rfl⟩, b, U, K, tp, cs_le hC (Nat.le_add_right n 40), hM⟩
    | some r =>
      obtain ⟨M1, a1, a2, a3, a4⟩ := c_back (d := 62) hC.2.1.2 hi hk
      have hM1 := ms_c hM a4 (fun a k z => by unfold pBk pBd at z; omega)
      have l1 := lo_fr a4 (fun a k z => by unfold pBk pBd at z; omega)
      have hr := a2.2.1.1.2.2.2
      obtain ⟨M2, c1, c2, c3, c4⟩ := s_back (d := 62) hM1.2.1 hi hk (by omega)
      have l2 := lo_tr l1 (lo_fr c4 fun a k z => by have := pUR_866 a k z; omega)
      have hP : PR [] M1 := pr_none hC.2.1.1 a4 (fun a k z => by unfold pBk pBd at z; omega) a3
      have hK1 := hC.2.1.2.fr a4 (fun a k z => by unfold pBk pBd at z; omega) fun a k z => by unfold pBk pBd at z; omega
      have hT1 := hC.2.2.1.fr a4 fun a k z => by unfold pBk pBd at z; omega
      have hS1 := (hC.2.2.2.out a4 (fun a k z => by unfold pBk pBd at z; omega) fun a k z => by unfold pBk pBd at z; omega).le (Nat.le_add_right n 40)
      exact ⟨_, M1, M2, ⟨a1, l1⟩, ⟨c1, l2⟩, r, [], K, tp, cs_m ⟨a2, ⟨hP, hK1⟩, hT1, hS1⟩ c4 pUR_866, ⟨c2, c3⟩, hM1.2.1.fr c4 (fun a k z => by unfold pUR pU pR at z; omega), hM1.2.2.fr c4 (fun a k z => by unfold pUR pU pR at z; omega)⟩
end QAN
