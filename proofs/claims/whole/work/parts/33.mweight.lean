/-! THE MODEL, 22: next, weight -/
/-- steps until none is left: the row, how many, the sum of their kinds -/
def goA : Nat → (Nat → Nat) → Nat → Nat → (Nat → Nat) × Nat × Nat
  | 0, b, s, t => (b, s, t)
  | n + 1, b, s, t => if (stp b).1 = 0 then (b, s, t) else goA n (goS b) (s + 1) (t + (stp b).1)
def goB (b : Nat → Nat) : (Nat → Nat) × Nat × Nat := goA 1188 b 0 0
theorem msr_le (b : Nat → Nat) : msr b ≤ 1188 := by
  have key : ∀ (f : Nat → Nat) (n : Nat), (∀ x, f x ≤ 33) → sumF f n ≤ 33 * n := by
    intro f n h
    induction n with
    | zero => exact Nat.le_refl 0
    | succ n ih =>
      have := h n
      show sumF f n + f n ≤ 33 * (n + 1)
      omega
  have := key (fun c => popc (b (112 + c)) + (if b (40 + c) = 0 then 1 else 0)) 36 fun x => by
    have h1 := popc_le (b (112 + x))
    split <;> omega
  unfold msr
  omega
theorem stp_kd (b : Nat → Nat) : (stp b).1 ≤ 2 := by
  unfold stp
  cases brk b with
  | true => show 0 ≤ 2; omega
  | false =>
    cases fdA b with
    | some c => show 1 ≤ 2; omega
    | none =>
      cases fdW b with
      | some k => show 2 ≤ 2; omega
      | none => show 0 ≤ 2; omega
def ndN (b : Nat → Nat) : Nat → Nat
  | 0 => 0
  | c + 1 => ndN b c + (if isO b c = true ∧ b (40 + c) = 0 then 1 else 0)
def spNext (b : Nat → Nat) (x : Int32) : Int32 := bif decide (0 < b 2) && iI x 4 then (if x = nI 0 then nI (stp b).1 else if x = nI 1 then (stp b).2.1 else if x = nI 2 then (stp b).2.2.1 else (stp b).2.2.2) else -1
def spWeighed (g : (Nat → Nat) × Nat × Nat) (x : Int32) : Int32 :=
  if x = nI 0 then nI g.2.1 else if x = nI 1 then nI g.2.2 else if x = nI 2 then nI (ndN g.1 (g.1 0 * g.1 1)) else if x = nI 3 then nB (brk g.1) else bif oI g.1 (x - nI 10) then nI (g.1 (112 + (x - nI 10).toInt.toNat)) else nI 0
def spWeight (b : Nat → Nat) (x : Int32) : Int32 := bif decide (0 < b 2) && (iI x 4 || iI (x - nI 10) (b 0 * b 1)) then spWeighed (goB b) x else -1
def pX : Nat → Nat → Prop := fun a k => pN a k ∨ pR a k ∨ (a = 866 ∧ (k = 17 ∨ k = 18))
theorem aside_back2 {b : Nat → Nat} {p : Nat → Nat → Prop} (hp : ∀ a k, p a k → a ≠ 871 ∧ (pS a k ∨ pR a k)) {M M1 M2 M3 : ZM} (hR : MR b M) (f1 : frI pA M M1) (e1 : ∀ x, x < 268 → M1.1 871 x = M.1 867 x) (f2 : frI p M1 M2) (f3 : frI pR M2 M3) (e3 : ∀ x, x < 268 → M3.1 867 x = M2.1 871 x) : MR b M3 ∧ frI pS M M3 := by
  have r : MR b M3 := fun k hk => by
    rw [e3 k hk, f2.1 871 k (fun z => (hp _ _ z).1 rfl), e1 k hk]
    exact hR k hk
  refine ⟨r, fun a k h => ?_, fun a k h => ?_⟩
  · by_cases e : a = 867 ∧ k < 268
    · rw [e.1, r k e.2, hR k e.2]
    · rw [f3.1 a k (fun z => e z), f2.1 a k (fun z => by
        rcases (hp _ _ z).2 with q | q
        · exact h q
        · exact e q), f1.1 a k (fun z => by unfold pA at z; unfold pS at h; omega)]
  · rw [f3.2 a k h, f2.2 a k h, f1.2 a k h]
section MX
variable {d : Nat} {M : ZM} {b : Nat → Nat}
theorem s_next (hR : MR b M) (hW : Wf b) (x : Int32) : ∃ M', zEv (d + 14) zmM_next [.ref 866, .int x] M = some (some (.int (spNext b x)), M') ∧ frI pS M M' := by
  unfold spNext
  cases h2 : decide (0 < b 2) with
  | false =>
    refine ⟨M, ?_, fr.refl⟩
    refine e_M_next ?_
    simp only [s_isBoard hR hW, zC1_some, nB0, h2, if_true]
    rfl
  | true =>
    cases hx : iI x 4 with
    | false =>
      refine ⟨M, ?_, fr.refl⟩
      refine e_M_next ?_
      simp only [s_isBoard hR hW, zC1_some, nB0, h2, s_inI x (show 3 < 2147483648 by omega), hx, if_true]
      rfl
    | true =>
      obtain ⟨M', a1, a2, a3⟩ := s_findsStep (d := d) hR hW
      refine ⟨M', ?_, frN_S a2⟩
      refine e_M_next ?_
      simp only [s_isBoard hR hW, zC1_some, nB0, h2, s_inI x (show 3 < 2147483648 by omega), hx, a1, zC0_some, a3.1, a3.2.1, a3.2.2.1, a3.2.2.2]
      rw [if_neg (show ¬ (true = false) by simp), if_neg (show ¬ (true = false) by simp), Bool.and_true, cond_true]
      repeat' split
      all_goals rfl
theorem s_goesAll_l : ∀ (n : Nat) (b : Nat → Nat) (M : ZM) (s t : Nat), msr b ≤ n → MR b M → Wf b → WfD b → MFd M (stp b) → M.1 866 17 = nI s → M.1 866 18 = nI t → ∃ M', h_M_goesAll_14 (d + 13) M = some (none, M') ∧ frI pX M M' ∧ MR (goA n b s t).1 M' ∧ M'.1 866 17 = nI (goA n b s t).2.1 ∧ M'.1 866 18 = nI (goA n b s t).2.2 ∧ Wf (goA n b s t).1 ∧ WfD (goA n b s t).1 ∧ (∀ k, k < 4 → (goA n b s t).1 k = b k) := by
  have stop : ∀ (b : Nat → Nat) (M : ZM), MFd M (stp b) → (stp b).1 = 0 → h_M_goesAll_14 (d + 13) M = some (none, M) := by
    intro b M hS e
    refine e_M_goesAll_14 ?_
    rw [hS.1, e, if_neg (by decide)]
  intro n
  induction n with
  | zero =>
    intro b M s t hm hR hW hD hS h17 h18
    have e : (stp b).1 = 0 := by
      by_cases e : (stp b).1 = 0
      · exact e
      · have := msr_lt hW hD e
        omega
    exact ⟨M, stop b M hS e, fr.refl, hR, h17, h18, hW, hD, fun _ _ => rfl⟩
  | succ n ih =>
    intro b M s t hm hR hW hD hS h17 h18
    by_cases e : (stp b).1 = 0
    · have eG : goA (n + 1) b s t = (b, s, t) := if_pos e
      rw [eG]
      exact ⟨M, stop b M hS e, fr.refl, hR, h17, h18, hW, hD, fun _ _ => rfl⟩
    · have eG : goA (n + 1) b s t = goA n (goS b) (s + 1) (t + (stp b).1) := if_neg e
      have hl := msr_lt hW hD e
      have hk2 := stp_kd b
      rw [eG]
      have x18 : (zpi M 866 17 (nI (s + 1))).1 866 18 = nI t := by rw [m_pi, if_neg (by omega)]; exact h18
      have x12 : (zpi M 866 17 (nI (s + 1))).1 866 12 = nI (stp b).1 := by rw [m_pi, if_neg (by omega)]; exact hS.1
      have f1 : frI pX M (zpi (zpi M 866 17 (nI (s + 1))) 866 18 (nI (t + (stp b).1))) := (fr.refl.pi (show pX 866 17 from Or.inr (Or.inr ⟨rfl, Or.inl rfl⟩))).pi (show pX 866 18 from Or.inr (Or.inr ⟨rfl, Or.inr rfl⟩))
      have r1 : MR b (zpi (zpi M 866 17 (nI (s + 1))) 866 18 (nI (t + (stp b).1))) := fun k hk => by
        rw [m_pi, if_neg (by omega), m_pi, if_neg (by omega)]; exact hR k hk
      have k1 : ∀ y, y ≠ 17 → y ≠ 18 → (zpi (zpi M 866 17 (nI (s + 1))) 866 18 (nI (t + (stp b).1))).1 866 y = M.1 866 y := fun y h1 h2 => by
        rw [m_pi, if_neg (by omega), m_pi, if_neg (by omega)]
      have s1 : MFd (zpi (zpi M 866 17 (nI (s + 1))) 866 18 (nI (t + (stp b).1))) (stp b) := ⟨(k1 12 (by omega) (by omega)).trans hS.1, (k1 13 (by omega) (by omega)).trans hS.2.1, (k1 14 (by omega) (by omega)).trans hS.2.2.1, (k1 16 (by omega) (by omega)).trans hS.2.2.2⟩
      obtain ⟨M2, a1, a2, a3⟩ := s_goesStep (d := d + 10) r1 hW hD s1
      obtain ⟨hW2, hD2⟩ := goS_w hW hD
      obtain ⟨M3, c1, c2, c3⟩ := s_findsStep (d := d) a3 hW2
      have q17 : M3.1 866 17 = nI (s + 1) := by
        rw [c2.1 866 17 (fun z => by unfold pN at z; omega), a2.1 866 17 (fun z => by unfold pR at z; omega), m_pi, if_neg (by omega), m_pi, if_pos ⟨rfl, rfl⟩]
      have q18 : M3.1 866 18 = nI (t + (stp b).1) := by
        rw [c2.1 866 18 (fun z => by unfold pN at z; omega), a2.1 866 18 (fun z => by unfold pR at z; omega), m_pi, if_pos ⟨rfl, rfl⟩]
      obtain ⟨M4, g1, g2, g3, g4, g5, g6, g7, g8⟩ := ih (goS b) M3 (s + 1) (t + (stp b).1) (by omega) (a3.frS (frN_S c2)) hW2 hD2 c3 q17 q18
      refine ⟨M4, ?_, ((f1.trans (a2.mono (fun _ _ z => Or.inr (Or.inl z)) (fun _ _ z => z))).trans (c2.mono (fun _ _ z => Or.inl z) (fun _ _ z => z))).trans g2, g3, g4, g5, g6, g7, fun k hk => ?_⟩
      · refine e_M_goesAll_14 ?_
        simp only [hS.1, h17, n_add, x18, x12, n_lt (show 0 < 2147483648 by omega) (show (stp b).1 < 2147483648 by omega), zL, a1, zC0_some, c1, g1]
        rw [if_pos (by omega)]
      · rw [g8 k hk]
        unfold goS
        cases brk b with
        | true => rfl
        | false =>
          cases fdA b with
          | some c => exact putR_ne (by omega) (by omega)
          | none =>
            cases fdW b with
            | some k => exact setK_ne (by omega)
            | none => rfl
theorem s_goesAll (hR : MR b M) (hW : Wf b) (hD : WfD b) : ∃ M', zEv (d + 14) zmM_goesAll [.ref 866] M = some (none, M') ∧ frI pX M M' ∧ MR (goB b).1 M' ∧ M'.1 866 17 = nI (goB b).2.1 ∧ M'.1 866 18 = nI (goB b).2.2 ∧ Wf (goB b).1 ∧ WfD (goB b).1 ∧ (∀ k, k < 4 → (goB b).1 k = b k) := by
  have f1 : frI pX M (zpi (zpi M 866 17 (nI 0)) 866 18 (nI 0)) := (fr.refl.pi (show pX 866 17 from Or.inr (Or.inr ⟨rfl, Or.inl rfl⟩))).pi (show pX 866 18 from Or.inr (Or.inr ⟨rfl, Or.inr rfl⟩))
  have r1 : MR b (zpi (zpi M 866 17 (nI 0)) 866 18 (nI 0)) := fun k hk => by
    rw [m_pi, if_neg (by omega), m_pi, if_neg (by omega)]; exact hR k hk
  obtain ⟨M2, a1, a2, a3⟩ := s_findsStep (d := d) r1 hW
  obtain ⟨M', g1, g2, g3⟩ := s_goesAll_l (d := d) 1188 b M2 0 0 (msr_le b) (r1.frS (frN_S a2)) hW hD a3 (by rw [a2.1 866 17 (fun z => by unfold pN at z; omega), m_pi, if_neg (by omega), m_pi, if_pos ⟨rfl, rfl⟩]) (by rw [a2.1 866 18 (fun z => by unfold pN at z; omega), m_pi, if_pos ⟨rfl, rfl⟩])
  refine ⟨M', ?_, (f1.trans (a2.mono (fun _ _ z => Or.inl z) (fun _ _ z => z))).trans g2, g3⟩
  refine e_M_goesAll ?_
  simp only [a1, zC0_some]
  exact g1
end MX
