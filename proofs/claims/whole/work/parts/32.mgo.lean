/-! THE MODEL, 21: steps are gone until none is left -/
theorem strR_w {b : Nat → Nat} (h : Wf b) (hD : WfD b) {c x : Nat} (hO : isO b c = true) (h0 : b (40 + c) = 0) : Wf (strR b c x) ∧ WfD (strR b c x) := by
  have hc := isO_lt h hO
  have g := h.2.2.2.1 c hc
  have hle := clr_le (b (112 + c)) x
  refine ⟨wf_setK h hO (Nat.lt_of_le_of_lt hle g.2.1.2.1) (by rw [clr_bit, g.2.1.2.2, Bool.false_and]), fun y hy => ?_⟩
  unfold strR
  rw [setK_ne (k := 76 + y) (by omega), setK_ne (k := 40 + y) (by omega)]
  by_cases e : y = c
  · subst e
    have := hD y hy
    exact ⟨this.1, fun z => by omega⟩
  · rw [setK_ne (k := 112 + y) (by omega)]
    exact hD y hy
theorem fdA_some {b : Nat → Nat} {c : Nat} (h : fdA b = some c) : c < b 0 * b 1 ∧ isO b c = true ∧ b (40 + c) = 0 ∧ popc (b (112 + c)) = 1 := by
  unfold fdA at h
  have h1 := List.mem_range.mp (List.mem_of_find?_eq_some h)
  have h2 := List.find?_some h
  rw [Bool.and_eq_true, Bool.and_eq_true] at h2
  refine ⟨h1, h2.1, ?_, of_decide_eq_true h2.2.2⟩
  have h3 := h2.2.1
  cases e : decide (0 < b (40 + c)) with
  | true => rw [e] at h3; cases h3
  | false => have := of_decide_eq_false e; omega
theorem fdW_some {b : Nat → Nat} (hW : Wf b) (hD : WfD b) (hB : brk b = false) {k : Nat} (h : fdW b = some k) : k < b 3 ∧ (fdI b k).getD 0 < cgN b k ∧ outM b k ((fdI b k).getD 0) ≠ 0 ∧ b (40 + cgC b k ((fdI b k).getD 0)) = 0 := by
  unfold fdW at h
  have hk := List.mem_range.mp (List.mem_of_find?_eq_some h)
  have h2 := List.find?_some h
  cases hF : fdI b k with
  | none => rw [hF] at h2; cases h2
  | some i =>
    rw [Option.getD_some]
    unfold fdI at hF
    have hi := List.mem_range.mp (List.mem_of_find?_eq_some hF)
    have h3 := List.find?_some hF
    have ho : outM b k i ≠ 0 := by
      intro e
      rw [decide_eq_true e] at h3
      cases h3
    refine ⟨hk, hi, ho, ?_⟩
    by_cases hd : b (40 + cgC b k i) = 0
    · exact hd
    · exfalso
      have hc := cgC_lt hW hk hi
      have hm := (hD _ hc).2 (by omega)
      obtain ⟨z, hz1, hz2, hz3⟩ := outM_ex hW hk hi ho
      rw [outM_bit, hm, Nat.testBit_two_pow, Bool.and_eq_true] at hz3
      have ez := of_decide_eq_true hz3.1
      unfold brk at hB
      rw [Bool.or_eq_false_iff] at hB
      have hcw : cgWo b = none := by
        cases e : cgWo b with
        | none => rfl
        | some _ => rw [e] at hB; cases hB.2
      unfold cgWo at hcw
      have hw := List.find?_eq_none.mp hcw k (List.mem_range.mpr hk)
      rw [hasW_ways] at hw
      cases hwl : ways b k with
      | nil => rw [hwl] at hw; exact hw rfl
      | cons w l =>
        have hwm : w ∈ ways b k := by rw [hwl]; exact List.mem_cons_self
        obtain ⟨g1, g2, g3⟩ := wy_all hwm
        have g4 := g2 i hi
        rw [hm, Nat.testBit_two_pow] at g4
        have g5 := of_decide_eq_true g4
        have hcb : (couldD (ways b k) i).testBit z = true := by
          unfold couldD
          rw [msk_bit, decide_eq_true (by omega), Bool.true_and]
          refine List.any_eq_true.mpr ⟨w, hwm, ?_⟩
          rw [Bool.and_eq_true]
          exact ⟨decide_eq_true (by omega), beq_iff_eq.mpr (by omega)⟩
        rw [hcb] at hz3
        cases hz3.2
/-- the row after the next step -/
def goS (b : Nat → Nat) : Nat → Nat := bif brk b then b else match fdA b with
  | some c => putR b c (lst (b (112 + c)))
  | none => match fdW b with
    | some k => strR b (cgC b k ((fdI b k).getD 0)) (lst (outM b k ((fdI b k).getD 0)))
    | none => b
theorem lst_top {b : Nat → Nat} (hW : Wf b) {c : Nat} (hc : c < 36) (h : b (112 + c) ≠ 0) : 1 ≤ lst (b (112 + c)) ∧ lst (b (112 + c)) ≤ b 2 ∧ (b (112 + c)).testBit (lst (b (112 + c))) = true := by
  obtain ⟨h1, h2, h3⟩ := lst_bit (mk_bit hW hc h)
  refine ⟨h1, ?_, h3⟩
  have h4 := Nat.ge_two_pow_of_testBit h3
  have h5 := (hW.2.2.2.1 c hc).2.1.2.1
  have := (Nat.pow_lt_pow_iff_right (a := 2) (by omega)).mp (Nat.lt_of_le_of_lt h4 h5)
  omega
theorem popc_0 {m : Nat} (h : popc m ≠ 0) : m ≠ 0 := by
  rintro rfl
  exact h (by decide)
theorem goS_w {b : Nat → Nat} (hW : Wf b) (hD : WfD b) : Wf (goS b) ∧ WfD (goS b) := by
  unfold goS
  cases hB : brk b with
  | true => exact ⟨hW, hD⟩
  | false =>
    cases hA : fdA b with
    | some c =>
      obtain ⟨h1, h2, h3, h4⟩ := fdA_some hA
      obtain ⟨g1, g2, g3⟩ := lst_top hW (isO_lt hW h2) (popc_0 (by omega))
      exact putR_w hW hD h2 g1 g2
    | none =>
      cases hF : fdW b with
      | some k =>
        obtain ⟨h1, h2, h3, h4⟩ := fdW_some hW hD hB hF
        exact strR_w hW hD ((hW.2.2.2.2.2 k h1).2.2.1 _ h2) h4
      | none => exact ⟨hW, hD⟩
theorem cntlt {p q : Nat → Bool} {x : Nat} (h : ∀ z, q z = true → p z = true) (h1 : p x = true) (h2 : q x = false) : ∀ n, x < n → (List.range n).countP q < (List.range n).countP p
  | n + 1, hn => by
    rw [List.range_succ, List.countP_append, List.countP_append, List.countP_singleton, List.countP_singleton]
    by_cases e : x = n
    · subst e
      rw [h1, h2, if_pos rfl, if_neg (by simp)]
      have := List.countP_mono_left (l := List.range x) (p := q) (q := p) fun z _ hz => h z hz
      omega
    · have := cntlt h h1 h2 n (by omega)
      by_cases hq : q n = true
      · rw [if_pos hq, if_pos (h n hq)]; omega
      · rw [if_neg hq]; omega
/-- how much there is yet to go -/
def msr (b : Nat → Nat) : Nat := sumF (fun c => popc (b (112 + c)) + (if b (40 + c) = 0 then 1 else 0)) 36
theorem msr_lt {b : Nat → Nat} (hW : Wf b) (hD : WfD b) (h : (stp b).1 ≠ 0) : msr (goS b) < msr b := by
  unfold stp at h
  unfold goS msr
  cases hB : brk b with
  | true => rw [hB] at h; exact absurd rfl h
  | false =>
    rw [hB] at h
    cases hA : fdA b with
    | some c =>
      obtain ⟨h1, h2, h3, h4⟩ := fdA_some hA
      have hc := isO_lt hW h2
      obtain ⟨g1, g2, g3⟩ := lst_top hW hc (popc_0 (by omega))
      have e112 : putR b c (lst (b (112 + c))) (112 + c) = 2 ^ lst (b (112 + c)) := if_pos rfl
      have e40 : putR b c (lst (b (112 + c))) (40 + c) = lst (b (112 + c)) := by
        unfold putR
        rw [if_neg (by omega), if_pos rfl]
      have hone : popc (2 ^ lst (b (112 + c))) ≤ 1 := popc_one (x := lst (b (112 + c))) fun z hz => by
        rw [Nat.testBit_two_pow] at hz
        exact (of_decide_eq_true hz).symm
      have hat : popc (putR b c (lst (b (112 + c))) (112 + c)) + (if putR b c (lst (b (112 + c))) (40 + c) = 0 then 1 else 0) < popc (b (112 + c)) + (if b (40 + c) = 0 then 1 else 0) := by
        rw [e112, e40, if_pos h3, if_neg (by omega)]
        omega
      refine sumF_lt (fun y hy => ?_) ⟨c, hc, hat⟩
      by_cases e : y = c
      · subst e; exact Nat.le_of_lt hat
      · show popc (putR b c (lst (b (112 + c))) (112 + y)) + (if putR b c (lst (b (112 + c))) (40 + y) = 0 then 1 else 0) ≤ popc (b (112 + y)) + (if b (40 + y) = 0 then 1 else 0)
        rw [putR_ne (by omega) (by omega), putR_ne (by omega) (by omega)]
        exact Nat.le_refl _
    | none =>
      rw [hA] at h
      cases hF : fdW b with
      | none => rw [hF] at h; exact absurd rfl h
      | some k =>
        obtain ⟨h1, h2, h3, h4⟩ := fdW_some hW hD hB hF
        show sumF (fun y => popc (strR b (cgC b k ((fdI b k).getD 0)) (lst (outM b k ((fdI b k).getD 0))) (112 + y)) + (if strR b (cgC b k ((fdI b k).getD 0)) (lst (outM b k ((fdI b k).getD 0))) (40 + y) = 0 then 1 else 0)) 36 < sumF (fun y => popc (b (112 + y)) + (if b (40 + y) = 0 then 1 else 0)) 36
        generalize (fdI b k).getD 0 = i at h2 h3 h4 ⊢
        have hc := cgC_lt hW h1 h2
        obtain ⟨g1, g2, g3⟩ := lst_bit (outM_ex hW h1 h2 h3)
        rw [outM_bit, Bool.and_eq_true] at g3
        have hat : popc (strR b (cgC b k i) (lst (outM b k i)) (112 + cgC b k i)) + (if strR b (cgC b k i) (lst (outM b k i)) (40 + cgC b k i) = 0 then 1 else 0) < popc (b (112 + cgC b k i)) + (if b (40 + cgC b k i) = 0 then 1 else 0) := by
          unfold strR
          rw [setK_at, setK_ne (by omega)]
          have := cntlt (p := fun z => (b (112 + cgC b k i)).testBit z) (q := fun z => (b (112 + cgC b k i) ^^^ (b (112 + cgC b k i) &&& 2 ^ lst (outM b k i))).testBit z) (x := lst (outM b k i)) (fun z hz => by
            rw [clr_bit, Bool.and_eq_true] at hz
            exact hz.1) g3.1 (by
            rw [clr_bit, decide_eq_true rfl, Bool.not_true, Bool.and_false]) 32 (by omega)
          unfold popc
          omega
        refine sumF_lt (fun y hy => ?_) ⟨cgC b k i, hc, hat⟩
        by_cases e : y = cgC b k i
        · subst e; exact Nat.le_of_lt hat
        · show popc (strR b (cgC b k i) (lst (outM b k i)) (112 + y)) + (if strR b (cgC b k i) (lst (outM b k i)) (40 + y) = 0 then 1 else 0) ≤ popc (b (112 + y)) + (if b (40 + y) = 0 then 1 else 0)
          unfold strR
          rw [setK_ne (by omega), setK_ne (by omega)]
          exact Nat.le_refl _
section MV
variable {d : Nat} {M : ZM} {b : Nat → Nat}
theorem s_goesStep (hR : MR b M) (hW : Wf b) (hD : WfD b) (hS : MFd M (stp b)) : ∃ M', zEv (d + 3) zmM_goesStep [.ref 866] M = some (none, M') ∧ frI pR M M' ∧ MR (goS b) M' := by
  have h27 := hW.1.2.2.1
  unfold stp at hS
  unfold goS
  have still : M.1 866 12 = nI 0 → zEv (d + 3) zmM_goesStep [.ref 866] M = some (none, M) := by
    intro e
    refine e_M_goesStep ?_
    rw [e, if_neg (by decide), if_neg (by decide)]
    refine e_M_goesStep_28 ?_
    rw [e, if_neg (by decide), if_neg (by decide)]
  cases hB : brk b with
  | true =>
    rw [hB] at hS
    exact ⟨M, still hS.1, fr.refl, hR⟩
  | false =>
    rw [hB] at hS
    cases hA : fdA b with
    | some c =>
      rw [hA] at hS
      obtain ⟨h1, h2, h3, h4⟩ := fdA_some hA
      have hc := isO_lt hW h2
      obtain ⟨g1, g2, g3⟩ := lst_top hW hc (popc_0 (by omega))
      have s1 : M.1 866 12 = nI 1 := hS.1
      have s3 : M.1 866 14 = nI c := hS.2.2.1
      have s4 : M.1 866 16 = nI (lst (b (112 + c))) := hS.2.2.2
      have ePl : (1 : Nat) <<< lst (b (112 + c)) = 2 ^ lst (b (112 + c)) := by rw [Nat.shiftLeft_eq, Nat.one_mul]
      have f1 : frI pR M (zpi (zpi M 867 (40 + c) (nI (lst (b (112 + c))))) 867 (112 + c) (nI (2 ^ lst (b (112 + c))))) := (fr.refl.pi (show pR 867 (40 + c) from ⟨rfl, by omega⟩)).pi (show pR 867 (112 + c) from ⟨rfl, by omega⟩)
      refine ⟨_, ?_, f1, fun k hk => ?_⟩
      · have hp : zEv (d + 2) zmM_puts [.ref 866, .int (nI c), .int (nI (lst (b (112 + c))))] M = some (none, zpi (zpi M 867 (40 + c) (nI (lst (b (112 + c))))) 867 (112 + c) (nI (2 ^ lst (b (112 + c))))) := by
          refine e_M_puts ?_
          simp only [n_add, n_zin (show 40 + c < 2147483648 by omega), n_clamp (show 40 + c < 2147483648 by omega), n_zin (show 112 + c < 2147483648 by omega), n_clamp (show 112 + c < 2147483648 by omega), n_shl (show lst (b (112 + c)) < 32 by omega), ePl]
          rw [if_pos (by omega), if_pos (by omega)]
        have k12 : (zpi (zpi M 867 (40 + c) (nI (lst (b (112 + c))))) 867 (112 + c) (nI (2 ^ lst (b (112 + c))))).1 866 12 = nI 1 := (f1.1 866 12 (fun z => by unfold pR at z; omega)).trans s1
        refine e_M_goesStep ?_
        rw [s1, if_pos rfl, s3, s4, hp]
        refine e_M_goesStep_28 ?_
        rw [k12, if_neg (by decide), if_neg (by decide)]
      · show _ = nI (putR b c (lst (b (112 + c))) k)
        unfold putR
        rw [m_pi]
        by_cases e : k = 112 + c
        · rw [if_pos ⟨rfl, e⟩, if_pos e]
        · rw [if_neg (fun z => e z.2), if_neg e, m_pi]
          by_cases e2 : k = 40 + c
          · rw [if_pos ⟨rfl, e2⟩, if_pos e2]
          · rw [if_neg (fun z => e2 z.2), if_neg e2]
            exact hR k hk
    | none =>
      rw [hA] at hS
      cases hF : fdW b with
      | none =>
        rw [hF] at hS
        exact ⟨M, still hS.1, fr.refl, hR⟩
      | some k =>
        rw [hF] at hS
        obtain ⟨h1, h2, h3, h4⟩ := fdW_some hW hD hB hF
        show ∃ M', _ ∧ _ ∧ MR (strR b (cgC b k ((fdI b k).getD 0)) (lst (outM b k ((fdI b k).getD 0)))) M'
        have hS' : MFd M (stpW b k ((fdI b k).getD 0)) := hS
        generalize (fdI b k).getD 0 = i at h2 h3 h4 hS' ⊢
        have hc := cgC_lt hW h1 h2
        obtain ⟨g1, g2, g3⟩ := lst_bit (outM_ex hW h1 h2 h3)
        have s1 : M.1 866 12 = nI 2 := hS'.1
        have s3 : M.1 866 14 = nI (cgC b k i) := hS'.2.2.1
        have s4 : M.1 866 16 = nI (lst (outM b k i)) := hS'.2.2.2
        have ePl : (1 : Nat) <<< lst (outM b k i) = 2 ^ lst (outM b k i) := by rw [Nat.shiftLeft_eq, Nat.one_mul]
        have r1 := mr_setK hR (c := cgC b k i) (m := b (112 + cgC b k i) ^^^ (b (112 + cgC b k i) &&& 2 ^ lst (outM b k i)))
        have f1 : frI pR M (zpi M 867 (112 + cgC b k i) (nI (b (112 + cgC b k i) ^^^ (b (112 + cgC b k i) &&& 2 ^ lst (outM b k i))))) := fr.refl.pi (show pR 867 (112 + cgC b k i) from ⟨rfl, by omega⟩)
        refine ⟨_, ?_, f1, r1⟩
        have k12 := (f1.1 866 12 (fun z => by unfold pR at z; omega)).trans s1
        refine e_M_goesStep ?_
        rw [s1, if_neg (by decide), if_neg (by decide)]
        refine e_M_goesStep_28 ?_
        rw [s1, if_pos rfl, s3, s4]
        simp only [n_add, n_zin (show 112 + cgC b k i < 2147483648 by omega), n_clamp (show 112 + cgC b k i < 2147483648 by omega), hR (112 + cgC b k i) (by omega), n_shl (show lst (outM b k i) < 32 by omega), ePl, n_clr, zL]
        rw [if_pos (by omega), k12, if_neg (by decide)]
end MV
