/-! THE MODEL, 28: step, run -/
def pSU : Nat → Nat → Prop := fun a k => pS a k ∨ pUR a k
/-- what an act with steps leaves -/
def ActQ (b : Nat → Nat) (U : List (Nat → Nat)) (M M' : ZM) : Option (Nat → Nat) → Prop
  | none => MR b M' ∧ UR U M' ∧ frI pS M M'
  | some b' => MR b' M' ∧ UR (pushU U b) M' ∧ frI pSU M M'
def spStep (b : Nat → Nat) : Int32 × Option (Nat → Nat) :=
  bif !decide (0 < b 2) then (-1, none) else bif brk b then (-2, none) else if (stp b).1 = 0 then (nI 0, none) else (nI (stp b).1, some (goS b))
def spRun (b : Nat → Nat) : Int32 × Option (Nat → Nat) :=
  bif !decide (0 < b 2) then (-1, none) else bif brk b then (-2, none) else if (goB b).2.1 = 0 then (nI 0, none) else (nI (goB b).2.1, some (goB b).1)
theorem goA_0 : ∀ (n : Nat) (b : Nat → Nat) (s t : Nat), (s ≤ (goA n b s t).2.1 ∧ (goA n b s t).2.1 ≤ s + n) ∧ ((goA n b s t).2.1 = s → (goA n b s t).1 = b)
  | 0, b, s, t => ⟨⟨Nat.le_refl s, Nat.le_refl s⟩, fun _ => rfl⟩
  | n + 1, b, s, t => by
    by_cases e : (stp b).1 = 0
    · have eG : goA (n + 1) b s t = (b, s, t) := if_pos e
      rw [eG]
      exact ⟨⟨Nat.le_refl s, Nat.le_add_right s (n + 1)⟩, fun _ => rfl⟩
    · have eG : goA (n + 1) b s t = goA n (goS b) (s + 1) (t + (stp b).1) := if_neg e
      have ih := goA_0 n (goS b) (s + 1) (t + (stp b).1)
      rw [eG]
      exact ⟨⟨by omega, by omega⟩, fun z => by omega⟩
theorem UR.frS {U : List (Nat → Nat)} {M M' : ZM} (h : UR U M) (hf : frI pS M M') : UR U M' := h.fr hf fun a k z => by unfold pS at z; omega
section MB4
variable {d : Nat} {M : ZM} {b : Nat → Nat} {U : List (Nat → Nat)}
theorem s_step (hR : MR b M) (hW : Wf b) (hD : WfD b) (hU : UR U M) : ∃ M', zEv (d + 15) zmM_step [.ref 866] M = some (some (.int (spStep b).1), M') ∧ ActQ b U M M' (spStep b).2 := by
  unfold spStep
  cases h2 : decide (0 < b 2) with
  | false =>
    refine ⟨M, e_M_step ?_, hR, hU, fr.refl⟩
    rw [s_isBoard (d := d + 12) hR hW, zC1_some, h2, if_pos (show nB false = nI 0 from rfl)]
    rfl
  | true =>
    obtain ⟨M1, a1, a2⟩ := s_isBroken (d := d + 2) hR hW
    have f1 := frL_S a2
    have r1 := hR.frS f1
    cases hB : brk b with
    | true =>
      refine ⟨M1, e_M_step ?_, r1, hU.frS f1, f1⟩
      rw [s_isBoard (d := d + 12) hR hW, zC1_some, h2, if_neg (by decide), a1, zC1_some, hB, if_neg (by decide)]
      rfl
    | false =>
      obtain ⟨M2, b1, b2, b3⟩ := s_findsStep (d := d + 1) r1 hW
      have f2 := f1.trans (frN_S b2)
      have r2 := r1.frS (frN_S b2)
      have hk2 := stp_kd b
      by_cases e : (stp b).1 = 0
      · refine ⟨M2, e_M_step ?_, ?_⟩
        · rw [s_isBoard (d := d + 12) hR hW, zC1_some, h2, if_neg (by decide), a1, zC1_some, hB, if_pos (show nB false = nI 0 from rfl), b1, zC0_some, b3.1, e, if_pos rfl]
          rfl
        · rw [if_pos e]
          exact ⟨r2, hU.frS f2, f2⟩
      · obtain ⟨M3, c1, c2, c3, c4⟩ := s_keepsAct (d := d + 12) r2 (hU.frS f2)
        have k3 : ∀ x, x ≠ 2 → M3.1 866 x = M2.1 866 x := fun x hx => c2.1 866 x (fun z => by unfold pU at z; omega)
        have s3 : MFd M3 (stp b) := ⟨(k3 12 (by omega)).trans b3.1, (k3 13 (by omega)).trans b3.2.1, (k3 14 (by omega)).trans b3.2.2.1, (k3 16 (by omega)).trans b3.2.2.2⟩
        obtain ⟨M4, g1, g2, g3⟩ := s_goesStep (d := d + 11) c4 hW hD s3
        have q12 : M4.1 866 12 = nI (stp b).1 := (g2.1 866 12 (fun z => by unfold pR at z; omega)).trans s3.1
        refine ⟨M4, e_M_step ?_, ?_⟩
        · rw [s_isBoard (d := d + 12) hR hW, zC1_some, h2, if_neg (by decide), a1, zC1_some, hB, if_pos (show nB false = nI 0 from rfl), b1, zC0_some, b3.1, if_neg (by rw [n_eq (by omega) (by omega)]; exact e), c1, zC0_some, g1, zC0_some, q12, if_neg e]
          rfl
        · rw [if_neg e]
          exact ⟨g3, c3.fr g2 (fun a k z => by unfold pR at z; omega), ((f2.mono (fun _ _ z => Or.inl z) (fun _ _ z => z)).trans (c2.mono (fun _ _ z => Or.inr (Or.inl z)) (fun _ _ z => z))).trans (g2.mono (fun _ _ z => Or.inr (Or.inr z)) (fun _ _ z => z))⟩
theorem s_run (hR : MR b M) (hW : Wf b) (hD : WfD b) (hU : UR U M) : ∃ M', zEv (d + 15) zmM_run [.ref 866] M = some (some (.int (spRun b).1), M') ∧ ActQ b U M M' (spRun b).2 := by
  unfold spRun
  cases h2 : decide (0 < b 2) with
  | false =>
    refine ⟨M, e_M_run ?_, hR, hU, fr.refl⟩
    rw [s_isBoard (d := d + 12) hR hW, zC1_some, h2, if_pos (show nB false = nI 0 from rfl)]
    rfl
  | true =>
    obtain ⟨M1, a1, a2⟩ := s_isBroken (d := d + 2) hR hW
    have f1 := frL_S a2
    have r1 := hR.frS f1
    cases hB : brk b with
    | true =>
      refine ⟨M1, e_M_run ?_, r1, hU.frS f1, f1⟩
      rw [s_isBoard (d := d + 12) hR hW, zC1_some, h2, if_neg (by decide), a1, zC1_some, hB, if_neg (by decide)]
      rfl
    | false =>
      obtain ⟨M2, p1, p2, p3⟩ := s_putsAside (d := d + 13) M1
      have f2 : frI pS M M2 := f1.trans (p2.mono (fun a k z => by unfold pA at z; unfold pS; omega) (fun _ _ z => z))
      have r2 : MR b M2 := r1.fr p2 fun k _ z => by unfold pA at z; omega
      obtain ⟨M3, b1, b2, b3, b4, b5, b6, b7, b8⟩ := s_goesAll (d := d) r2 hW hD
      have hg := goA_0 1188 b 0 0
      have hU3 : UR U M3 := (hU.frS f2).fr b2 fun a k z => by unfold pX pN pR at z; omega
      have hle : (goB b).2.1 ≤ 0 + 1188 := hg.1.2
      by_cases e : (goB b).2.1 = 0
      · have eb : (goB b).1 = b := hg.2 e
        rw [eb] at b3
        refine ⟨M3, e_M_run ?_, ?_⟩
        · rw [s_isBoard (d := d + 12) hR hW, zC1_some, h2, if_neg (by decide), a1, zC1_some, hB, if_pos (show nB false = nI 0 from rfl), p1, zC0_some, b1, zC0_some, b4, e, if_neg (by decide), if_pos rfl]
          rfl
        · rw [if_pos e]
          refine ⟨b3, hU3, fun a k h => ?_, fun a k h => ?_⟩
          · by_cases q : a = 867 ∧ k < 268
            · rw [q.1, b3 k q.2, hR k q.2]
            · rw [b2.1 a k (fun z => by unfold pX pN pR at z; unfold pS at h; omega)]
              exact f2.1 a k h
          · rw [b2.2 a k h]; exact f2.2 a k h
      · have h71 : ∀ k, k < 268 → M3.1 871 k = nI (b k) := fun k hk => by
          rw [b2.1 871 k (fun z => by unfold pX pN pR at z; omega), p3 k hk]
          exact r1 k hk
        obtain ⟨M4, c1, c2, c3⟩ := s_keepsRow (d := d + 13) (a := 871) rfl (by omega) h71 hU3
        have q17 : M4.1 866 17 = nI (goB b).2.1 := (c2.1 866 17 (fun z => by unfold pU at z; omega)).trans b4
        refine ⟨M4, e_M_run ?_, ?_⟩
        · rw [s_isBoard (d := d + 12) hR hW, zC1_some, h2, if_neg (by decide), a1, zC1_some, hB, if_pos (show nB false = nI 0 from rfl), p1, zC0_some, b1, zC0_some, b4, if_pos ((n_lt (by omega) (by omega)).mpr (by omega)), c1, zC0_some, q17, if_neg e]
          rfl
        · rw [if_neg e]
          exact ⟨b3.fr c2 (fun k _ z => by unfold pU at z; omega), c3, ((f2.mono (fun _ _ z => Or.inl z) (fun _ _ z => z)).trans (b2.mono (fun a k z => by unfold pX pN pR at z; show pS a k ∨ pUR a k; unfold pS pUR pU pR; omega) (fun _ _ z => z))).trans (c2.mono (fun _ _ z => Or.inr (Or.inl z)) (fun _ _ z => z))⟩
end MB4
