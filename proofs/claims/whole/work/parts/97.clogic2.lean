/-! THE CLASS, 34: the next step -/
/-- a found step, as the class keeps it -/
def LFd (M : ZM) (s : MSt) : Prop := M.1 262 5 = nI s.1 ∧ (s.1 ≠ 0 → (M.1 262 6 = s.2.1 ∧ M.1 262 7 = s.2.2.1) ∧ M.1 262 8 = s.2.2.2)
/-- what is found -/
def pLf : Nat → Nat → Prop := fun a k => a = 262 ∧ (5 ≤ k ∧ k ≤ 9)
section QL2
variable {d : Nat} {M : ZM} {b : Nat → Nat} {q : Nat}
theorem q_found {a : Nat} {x y z : Int32} : ∃ M', zEv (d + 1) zmL_found [.ref 262, .int (nI a), .int x, .int y, .int z] M = some (some (.int (nI 1)), M') ∧ LFd M' (a, x, y, z) ∧ fr pLf (fun _ _ => False) M M' := by
  refine ⟨_, e_L_found rfl, ⟨?_, fun _ => ⟨⟨?_, ?_⟩, ?_⟩⟩, (((fr.refl.pi ⟨rfl, by omega⟩).pi ⟨rfl, by omega⟩).pi ⟨rfl, by omega⟩).pi ⟨rfl, by omega⟩⟩
  · simp (disch := omega) only [m_pi, if_neg, if_true, and_self]
  · simp (disch := omega) only [m_pi, if_neg, if_true, and_self]
  · simp (disch := omega) only [m_pi, if_neg, if_true, and_self]
  · simp (disch := omega) only [m_pi, if_neg, if_true, and_self]
theorem doI_n (hW : Wf b) {c : Nat} (hc : c < 36) (hO : isO b c = true) : doI b (nI c) = decide (0 < b (40 + c)) := by
  unfold doI
  rw [iI_n (by omega), n_toInt (by omega), Int.toNat_natCast, decide_eq_true (isO_cell hO), Bool.true_and]
theorem fdA_36 (hW : Wf b) : fst' (fun c => isO b c && (!decide (0 < b (40 + c)) && decide (popc (b (112 + c)) = 1))) 0 36 = fdA b := by
  rw [fst_all]
  unfold fdA
  have h := hW.n36
  rw [show 36 = b 0 * b 1 + (36 - b 0 * b 1) by omega, List.range_add, List.find?_append]
  have : ((List.range (36 - b 0 * b 1)).map (b 0 * b 1 + ·)).find? (fun c => isO b c && (!decide (0 < b (40 + c)) && decide (popc (b (112 + c)) = 1))) = none := by
    rw [List.find?_eq_none]
    intro x hx
    obtain ⟨y, hy, rfl⟩ := List.mem_map.mp hx
    unfold isO
    rw [decide_eq_false (show ¬ b 0 * b 1 + y < b 0 * b 1 by omega)]
    simp
  rw [this, Option.or_none]
theorem q_findAlone_2 (hq : zkd q = (10, 0)) (hB : BRep b q M) (hW : Wf b) (hD : WfD b) : ∀ n j, j + n = 36 → ∃ M', h_L_findAlone_2 (d + 3) q (nI j) M = some (some (.int (nB (fst' (fun c => isO b c && (!decide (0 < b (40 + c)) && decide (popc (b (112 + c)) = 1))) j n).isSome)), M') ∧ (match fst' (fun c => isO b c && (!decide (0 < b (40 + c)) && decide (popc (b (112 + c)) = 1))) j n with | some c => LFd M' (stpA b c) | none => M' = M) ∧ fr pLf (fun _ _ => False) M M' := by
  intro n
  induction n with
  | zero =>
    intro j h
    refine ⟨M, e_L_findAlone_2 hq ?_, rfl, fr.refl⟩
    rw [if_neg (by rw [n_lt (by omega) (by omega)]; omega)]
    rfl
  | succ n ih =>
    intro j h
    have hj : j < 36 := by omega
    have hm := mk_lt hW hj
    have hpl := popc_le (b (112 + j))
    obtain ⟨M', a1, a2, a3⟩ := ih (j + 1) (by omega)
    rw [fst_step]
    cases hO : isO b j with
    | false =>
      rw [Bool.false_and, if_neg (by simp)]
      refine ⟨M', e_L_findAlone_2 hq ?_, a2, a3⟩
      rw [if_pos ((n_lt (by omega) (by omega)).mpr hj), q_isOpen (d := d + 1) hq hB.sc hW.wk, zC1_some, oI_n (by omega), hO, if_pos (show nB false = nI 0 from rfl), n_add1]
      exact a1
    | true =>
      rw [Bool.true_and]
      cases hd : decide (0 < b (40 + j)) with
      | true =>
        rw [Bool.not_true, Bool.false_and, if_neg (by simp)]
        refine ⟨M', e_L_findAlone_2 hq ?_, a2, a3⟩
        rw [if_pos ((n_lt (by omega) (by omega)).mpr hj), q_isOpen (d := d + 1) hq hB.sc hW.wk, zC1_some, oI_n (by omega), hO, if_neg (show ¬ nB true = nI 0 by decide), q_isDone (d := d) hq hB.sc hW.wk hD, zC1_some, doI_n hW hj hO, hd, if_neg (show ¬ nB true = nI 0 by decide), n_add1]
        exact a1
      | false =>
        rw [Bool.not_false, Bool.true_and]
        by_cases hp : popc (b (112 + j)) = 1
        · rw [decide_eq_true hp, if_pos rfl]
          obtain ⟨M2, b1, b2, b3⟩ := q_found (d := d + 2) (M := M) (a := 1) (x := -2) (y := nI j) (z := nI (lst (b (112 + j))))
          refine ⟨M2, e_L_findAlone_2 hq ?_, b2, b3⟩
          rw [if_pos ((n_lt (by omega) (by omega)).mpr hj), q_isOpen (d := d + 1) hq hB.sc hW.wk, zC1_some, oI_n (by omega), hO, if_neg (show ¬ nB true = nI 0 by decide), q_isDone (d := d) hq hB.sc hW.wk hD, zC1_some, doI_n hW hj hO, hd, if_pos (show nB false = nI 0 from rfl), if_pos ((n_zin (by omega)).mpr hj), n_clamp (by omega), hB.2.2.1 j hj, q_bitI (d := d + 2) (by omega), zC1_some, hp, if_pos rfl, hB.2.2.1 j hj, q_leastDigit (d := d + 2) (by omega), zC1_some, b1, zC1_some, if_pos (Or.inr rfl)]
          rfl
        · rw [decide_eq_false hp, if_neg (by simp)]
          refine ⟨M', e_L_findAlone_2 hq ?_, a2, a3⟩
          rw [if_pos ((n_lt (by omega) (by omega)).mpr hj), q_isOpen (d := d + 1) hq hB.sc hW.wk, zC1_some, oI_n (by omega), hO, if_neg (show ¬ nB true = nI 0 by decide), q_isDone (d := d) hq hB.sc hW.wk hD, zC1_some, doI_n hW hj hO, hd, if_pos (show nB false = nI 0 from rfl), if_pos ((n_zin (by omega)).mpr hj), n_clamp (by omega), hB.2.2.1 j hj, q_bitI (d := d + 2) (by omega), zC1_some, if_neg (by rw [n_eq (by omega) (by omega)]; exact hp), n_add1]
          exact a1
/-- which cage, which place, from there on -/
def fdI' (b : Nat → Nat) (k i n : Nat) : Option Nat := fst' (fun i => !decide (outM b k i = 0)) i n
theorem fdI_all (b : Nat → Nat) (k : Nat) : fdI' b k 0 (cgN b k) = fdI b k := fst_all
theorem q_findWays_12 (hq : zkd q = (10, 0)) (hB : BRep b q M) (hW : Wf b) (hS : SDY b M) {k : Nat} (hk : k < b 3) : ∀ n i, i + n = cgN b k → (∀ r, (match fdI' b k i n with | some i => ∃ M', (LFd M' (stpW b k i) ∧ fr pLf (fun _ _ => False) M M') ∧ r = (some (.int (nI 1)), M') | none => h_L_findWays_2 (d + 1) q (nI (k + 1)) M = some r) → h_L_findWays_12 (d + 1) q (nI k) (nI i) M = some r ∨ ∃ M', h_L_findWays_12 (d + 1) q (nI k) (nI i) M = some (some (.int (nI 1)), M') ∧ (∃ i0, fdI' b k i n = some i0 ∧ LFd M' (stpW b k i0)) ∧ fr pLf (fun _ _ => False) M M') := by
  have h12 := cg_12 hW hk
  have h6 := cgN_le hW hk
  intro n
  induction n with
  | zero =>
    intro i h r hr
    left
    refine e_L_findWays_12 hq ?_
    rw [if_pos ((n_zin (by omega)).mpr h12), n_clamp (by omega), (hB.2.2.2 k hk).1.2.1, if_neg (by rw [n_lt (by omega) (by omega)]; omega), n_add1]
    exact hr
  | succ n ih =>
    intro i h r hr
    have hc := cgC_lt hW hk (show i < cgN b k by omega)
    have hm := mk_lt hW hc
    have hol : outM b k i < 256 := by
      unfold outM
      exact Nat.xor_lt_two_pow (n := 8) hm (Nat.lt_of_le_of_lt Nat.and_le_left hm)
    unfold fdI' at hr ⊢
    rw [fst_step] at hr
    have hhead : ∀ r, (if nI (outM b k i) = nI 0 then h_L_findWays_12 (d + 1) q (nI k) (nI (i + 1)) M else zC1 (zEv (d + 1) zmC_leastDigit [.int (nI (outM b k i))] M) (fun v12 M11 => zC1 (zEv (d + 1) zmL_found [.ref 262, .int (nI 2), .int (nI k), .int (nI (cgC b k i)), .int v12] M11) (fun v15 M14 => (if v15 = nI 0 ∨ v15 = nI 1 then some (some (.int v15), M14) else none)))) = some r → h_L_findWays_12 (d + 1) q (nI k) (nI i) M = some r := fun r hr => by
      refine e_L_findWays_12 hq ?_
      rw [if_pos ((n_zin (by omega)).mpr h12), n_clamp (by omega), (hB.2.2.2 k hk).1.2.1, if_pos ((n_lt (by omega) (by omega)).mpr (by omega)), if_pos ((n_zin (by omega)).mpr (by omega)), n_clamp (by omega), zLr, (hB.2.2.2 k hk).2 i (by omega), if_pos ((n_zin (by omega)).mpr hc), n_clamp (by omega), hB.2.2.1 _ hc, hS.2 k hk i (by omega), n_clr, zLr, n_add1]
      exact hr
    by_cases ho : outM b k i = 0
    · rw [decide_eq_true ho, if_neg (by simp)] at hr
      rw [fst_step, decide_eq_true ho, if_neg (by simp)]
      rcases ih (i + 1) (by omega) r hr with g | ⟨M', g1, g2⟩
      · left
        refine hhead r ?_
        rw [if_pos (by rw [ho])]
        exact g
      · right
        refine ⟨M', hhead _ ?_, g2⟩
        rw [if_pos (by rw [ho])]
        exact g1
    · right
      obtain ⟨M2, b1, b2, b3⟩ := q_found (d := d) (M := M) (a := 2) (x := nI k) (y := nI (cgC b k i)) (z := nI (lst (outM b k i)))
      refine ⟨M2, hhead _ ?_, ⟨i, by rw [fst_step, decide_eq_false ho, if_pos (by rfl)], b2⟩, b3⟩
      rw [if_neg (by rw [n_eq (by omega) (by omega)]; exact ho), q_leastDigit (d := d) (by omega), zC1_some, b1, zC1_some, if_pos (Or.inr rfl)]
theorem q_findWays_2 (hq : zkd q = (10, 0)) (hB : BRep b q M) (hW : Wf b) (hS : SDY b M) : ∀ n k, k + n = b 3 → ∃ M', h_L_findWays_2 (d + 1) q (nI k) M = some (some (.int (nB (fst' (fun k => (fdI b k).isSome) k n).isSome)), M') ∧ (match fst' (fun k => (fdI b k).isSome) k n with | some k => LFd M' (stpW b k ((fdI b k).getD 0)) | none => M' = M) ∧ fr pLf (fun _ _ => False) M M' := by
  intro n
  induction n with
  | zero =>
    intro k h
    have := hW.1.2.2.2
    refine ⟨M, e_L_findWays_2 hq ?_, rfl, fr.refl⟩
    rw [hB.1.2.2, if_neg (by rw [n_lt (by omega) (by omega)]; omega)]
    rfl
  | succ n ih =>
    intro k h
    have := hW.1.2.2.2
    have hk : k < b 3 := by omega
    obtain ⟨M', a1, a2, a3⟩ := ih (k + 1) (by omega)
    have hw := q_findWays_12 (d := d) hq hB hW hS hk (cgN b k) 0 (by omega)
    rw [fdI_all] at hw
    rw [fst_step]
    cases hf : fdI b k with
    | none =>
      rw [hf] at hw
      rw [if_neg (by simp)]
      rcases hw _ a1 with g | ⟨M2, g1, ⟨i0, g2, _⟩, _⟩
      · refine ⟨M', e_L_findWays_2 hq ?_, a2, a3⟩
        rw [hB.1.2.2, if_pos ((n_lt (by omega) (by omega)).mpr hk)]
        exact g
      · cases g2
    | some i =>
      rw [if_pos (by rfl)]
      have hex : ∃ M', h_L_findWays_12 (d + 1) q (nI k) (nI 0) M = some (some (.int (nI 1)), M') ∧ LFd M' (stpW b k i) ∧ fr pLf (fun _ _ => False) M M' := by
        rw [hf] at hw
        obtain ⟨M2, b1, b2, b3⟩ := q_found (d := d) (M := M) (a := 2) (x := nI k) (y := nI (cgC b k i)) (z := nI (lst (outM b k i)))
        rcases hw (some (.int (nI 1)), M2) ⟨M2, ⟨b2, b3⟩, rfl⟩ with g | ⟨M3, g1, ⟨i0, g2, g3⟩, g4⟩
        · exact ⟨M2, g, b2, b3⟩
        · injection g2 with g2
          rw [← g2] at g3
          exact ⟨M3, g1, g3, g4⟩
      obtain ⟨M2, c1, c2, c3⟩ := hex
      refine ⟨M2, e_L_findWays_2 hq ?_, ?_, c3⟩
      · rw [hB.1.2.2, if_pos ((n_lt (by omega) (by omega)).mpr hk)]
        exact c1
      · dsimp only
        rw [hf]
        exact c2
end QL2
