/-! THE CLASS, 40: settling, round by round -/
def NZ (b ms : Nat → Nat) : Prop := ∀ y, isO b y = true → ms y ≠ 0
/-- each mark of a cage's cell is a digit of one of its ways -/
def zAc (b ms : Nat → Nat) (k : Nat) : Prop := ∀ i x, i < cgN b k → (ms (cgC b k i)).testBit x = true → ∃ w : List Nat, w.length = cgN b k ∧ (∀ j, j < cgN b k → (1 ≤ w.getD j 0 ∧ w.getD j 0 ≤ 7) ∧ (ms (cgC b k j)).testBit (w.getD j 0) = true) ∧ acc (cgD b k) w ∧ w.getD i 0 = x
/-- a settled cage -/
def zHs (b ms : Nat → Nat) (k : Nat) : Prop := hasW (rowM b ms) k = true ∧ zAc b ms k
theorem could_way {b ms : Nat → Nat} (hW : Wf b) (hM : MV b ms) {k : Nat} (hk : k < b 3) {i x : Nat} (hi : i < cgN b k) (h : (couldD (ways (rowM b ms) k) i).testBit x = true) : ∃ w : List Nat, w.length = cgN b k ∧ (∀ j, j < cgN b k → (1 ≤ w.getD j 0 ∧ w.getD j 0 ≤ 7) ∧ (ms (cgC b k j)).testBit (w.getD j 0) = true) ∧ acc (cgD b k) w ∧ w.getD i 0 = x := by
  have hW' := wf_rowM hW hM
  have hk' : k < rowM b ms 3 := by rw [rowM_ne (by omega)]; exact hk
  unfold couldD at h
  rw [msk_bit, Bool.and_eq_true, List.any_eq_true] at h
  obtain ⟨_, w, h1, h2⟩ := h
  rw [Bool.and_eq_true] at h2
  obtain ⟨⟨w1, w2⟩, w3⟩ := (ways_iff hW' hk' w).mp h1
  have ha := (cgD_cg hW' hk' w w1 (wo_dig w2)).mpr w3
  rw [rowM_D] at ha
  rw [rowM_N] at w1
  refine ⟨w, w1, fun j hj => ?_, ha, beq_iff_eq.mp h2.2⟩
  have h3 := (wo_get w 0).mp w2 j (by omega)
  rw [Nat.zero_add, rowM_M hW hk hj] at h3
  exact h3
theorem stI_ac {b ms : Nat → Nat} (hW : Wf b) (hM : MV b ms) {k : Nat} (hk : k < b 3) : zAc b (stI b k ms (cgN b k)) k := fun i x hi hx => by
  rw [stI_in hW hk hi (Nat.le_refl _)] at hx
  obtain ⟨w, w1, w2, w3, w4⟩ := could_way hW hM hk hi hx
  refine ⟨w, w1, fun j hj => ⟨(w2 j hj).1, ?_⟩, w3, w4⟩
  rw [stI_in hW hk hj (Nat.le_refl _)]
  exact could_of hW hM hk w1 w2 w3 hj
theorem zhs_same {b ms ms' : Nat → Nat} (hW : Wf b) (hl : Le b ms' ms) (hM' : MV b ms') (hM : MV b ms) {k : Nat} (hk : k < b 3) (h : ∀ i x, i < cgN b k → (ms (cgC b k i)).testBit x = true → (ms' (cgC b k i)).testBit x = true) (hh : zHs b ms k) : zHs b ms' k := by
  refine ⟨hasW_mono hW hM' hM hk h hh.1, fun i x hi hx => ?_⟩
  obtain ⟨w, w1, w2, w3, w4⟩ := hh.2 i x hi (hl.2 _ x hx)
  exact ⟨w, w1, fun j hj => ⟨(w2 j hj).1, h j _ hj (w2 j hj).2⟩, w3, w4⟩
/-- settled: these marks have the solutions of those, each cage that binds has a way -/
def Settd (b ms ms' : Nat → Nat) : Prop := ((Le b ms' ms ∧ MV b ms') ∧ NZ b ms' ∧ SL b ms' = SL b ms) ∧ ∀ j, j < b 3 → bdC b j = true → zHs b ms' j
def SOut (b ms : Nat → Nat) (dp : Nat) (M : ZM) (rr : ZR) : Prop :=
  (∃ M', rr = (some (.int (nI 0)), M') ∧ SL b ms = [] ∧ fr (pRw dp) pRs M M') ∨ ∃ M' ms', rr = (some (.int (nI 1)), M') ∧ SRw dp ms' M' ∧ Settd b ms ms' ∧ fr (pRw dp) pRs M M'
theorem SOut.from {b ms ms1 : Nat → Nat} {dp : Nat} {M M1 : ZM} {rr : ZR} (h : SOut b ms1 dp M1 rr) (hf : fr (pRw dp) pRs M M1) (hl : Le b ms1 ms) (hs : SL b ms1 = SL b ms) : SOut b ms dp M rr := by
  rcases h with ⟨M', h1, h2, h3⟩ | ⟨M', ms', h1, h2, ⟨⟨⟨h3, h4⟩, h5, h6⟩, h7⟩, h8⟩
  · exact Or.inl ⟨M', h1, by rw [← hs]; exact h2, hf.trans h3⟩
  · exact Or.inr ⟨M', ms', h1, h2, ⟨⟨⟨h3.trans hl, h4⟩, h5, h6.trans hs⟩, h7⟩, hf.trans h8⟩
section QS3
variable {d : Nat} {b : Nat → Nat} {q : Nat}
theorem baJ_hasW (hW : Wf b) {ms : Nat → Nat} (hM : MV b ms) {k : Nat} (hk : k < b 3) : baJ (cgD b k) (fun i => ms (cgC b k i)) (cgN b k) (cgN b k) 0 = hasW (rowM b ms) k := by
  rw [Bool.eq_iff_iff, weigh_iff, hasW_iff hW hM hk]
  constructor
  · rintro ⟨w, h1, h2, h3⟩
    refine ⟨w, h1, fun i hi => ?_, h3⟩
    have := (wo_get w 0).mp h2 i (by omega)
    rw [Nat.zero_add] at this
    exact this
  · rintro ⟨w, h1, h2, h3⟩
    refine ⟨w, h1, (wo_get w 0).mpr fun i hi => ?_, h3⟩
    rw [Nat.zero_add]
    exact h2 i (by omega)
theorem q_settle_29 (hq : zkd q = (10, 0)) (hq2 : q + 18 < 126) (hW : Wf b) {dp : Nat} (hdp : dp < 17) {r mu0 : Nat} (hnext : ∀ (ms : Nat → Nat) U (M : ZM), BRep b q M → SBd b M → SRl b M → SRw dp ms M → MV b ms → NZ b ms → U < 4096 → (∀ j, U.testBit j = true → j < b 3) → (∀ j, j < b 3 → bdC b j = true → U.testBit j = false → zHs b ms j) → muN ms ≤ mu0 → (muN ms < mu0 ∨ U = 0) → ∃ rr, h_S_settle_14 (d + 3) q (547 + dp) (nI U) (nI (r + 1)) M = some rr ∧ SOut b ms dp M rr) : ∀ n k (ms : Nat → Nat) U (M : ZM), k + n = b 3 → BRep b q M → SBd b M → SRl b M → SRw dp ms M → MV b ms → NZ b ms → U < 4096 → (∀ j, U.testBit j = true → j < b 3) → (∀ j, j < b 3 → bdC b j = true → U.testBit j = false → zHs b ms j) → muN ms ≤ mu0 → (muN ms < mu0 ∨ ∀ j, j < k → U.testBit j = false) → ∃ rr, h_S_settle_29 (d + 3) q (547 + dp) (nI U) (nI r) (nI k) M = some rr ∧ SOut b ms dp M rr := by
  have h12 := hW.1.2.2.2
  have hb7 := hW.1.2.2.1
  have zl := zl_4 (q := 546) (i := nI dp) (by decide +kernel) ((n_zin (by omega)).mpr hdp)
  rw [n_clamp (by omega), show 546 + 1 + dp = 547 + dp by omega] at zl
  intro n
  induction n with
  | zero =>
    intro k ms U M h hB hS hL hRw hM hz hU hU3 hP hm hP4
    obtain ⟨rr, a1, a2⟩ := hnext ms U M hB hS hL hRw hM hz hU hU3 hP hm (by
      rcases hP4 with z | z
      · exact Or.inl z
      · right
        apply Nat.eq_of_testBit_eq
        intro i
        rw [Nat.zero_testBit]
        cases hb : U.testBit i with
        | false => rfl
        | true =>
          have h1 := hU3 i hb
          have := z i (by omega)
          rw [hb] at this; cases this)
    refine ⟨rr, e_S_settle_29 hq zl ?_, a2⟩
    rw [hB.1.2.2, if_neg (by rw [n_lt (by omega) (by omega)]; omega), n_add1]
    exact a1
  | succ n ih =>
    intro k ms U M h hB hS hL hRw hM hz hU hU3 hP hm hP4
    have hk : k < b 3 := by omega
    have hk12 := cg_12 hW hk
    have hb0 := n_bit0 (m := U) (d := k) (by omega) (by omega)
    by_cases hbk : U.testBit k = true
    · have hrk := rsk_S.2 k hk12
      rw [show 412 + 12 + 10 * k = 424 + 10 * k by omega] at hrk
      have hMs : MsR (547 + dp) (q + 7 + k) (cgN b k) (fun i => ms (cgC b k i)) M := fun i hi => by
        have hc := cgC_lt hW hk hi
        exact ⟨cgC b k i, hc, (hB.2.2.2 k hk).2 i hi, hRw _ hc, mv_lt hM hb7 hc⟩
      obtain ⟨M1, a1, a2, a3⟩ := q_weigh (d := d) hrk zl (qcl hq hk12) (cgD_ok b k) (hW.2.2.2.2.2 k hk).2.1.1 (hL k hk).2 hMs
      rw [baJ_hasW hW hM hk] at a1
      have f1 : fr (pRw dp) pRs M M1 := a2.mono (fun _ _ z => z.elim) fun a x z => pWg_rs hk12 z
      have hB1 := hB.fr f1 h12 (fun a x z => by unfold pRw at z; omega) fun a x z => by have := prs_B z; omega
      have hS1 : SBd b M1 := fun c hc => (a2.1 545 c fun z => z).trans (hS c hc)
      have hRw1 : SRw dp ms M1 := fun c hc => (a2.1 (547 + dp) c fun z => z).trans (hRw c hc)
      have hL1 := hL.fr h12 f1 fun a x z => by unfold pRw at z; omega
      have head : ∀ rr, (if nB (hasW (rowM b ms) k) = nI 0 then some (some (.int (nI 0)), M1) else h_S_settle_96 (d + 3) q (547 + dp) (nI (U ^^^ (U &&& 2 ^ k))) (nI r) (nI k) (424 + 10 * k) (nI 0) M1) = some rr → h_S_settle_29 (d + 3) q (547 + dp) (nI U) (nI r) (nI k) M = some rr := fun rr hrr => by
        refine e_S_settle_29 hq zl ?_
        rw [hB.1.2.2, if_pos ((n_lt (by omega) (by omega)).mpr hk), if_neg (fun w => by rw [hb0.mp w] at hbk; cases hbk), if_pos ((n_zin (by omega)).mpr hk12), n_clamp (by omega), a1, zC1_some, n_one (by omega), n_clr]
        exact hrr
      cases hh : hasW (rowM b ms) k with
      | false =>
        refine ⟨_, head _ ?_, Or.inl ⟨M1, rfl, sl_none hW hM hk hh, f1⟩⟩
        rw [hh, if_pos (show nB false = nI 0 from rfl)]
      | true =>
        have hu1 : ∀ j, (U ^^^ (U &&& 2 ^ k)).testBit j = (U.testBit j && !decide (j = k)) := fun j => by
          rw [Nat.testBit_xor, Nat.testBit_and, Nat.testBit_two_pow]
          by_cases e : j = k
          · rw [decide_eq_true (show k = j from e.symm), decide_eq_true (show j = k from e), Bool.and_true, Bool.not_true, Bool.and_false, Bool.xor_self]
          · rw [decide_eq_false (show ¬ k = j from fun z => e z.symm), decide_eq_false (show ¬ j = k from e), Bool.and_false, Bool.not_false, Bool.and_true, Bool.xor_false]
        have hU1 : (U ^^^ (U &&& 2 ^ k)) < 4096 := Nat.xor_lt_two_pow (n := 12) hU (Nat.lt_of_le_of_lt Nat.and_le_left hU)
        obtain ⟨M2, U', b1, ⟨b2, b2'⟩, ⟨b3, b4, b5⟩, b6⟩ := q_settle_96 (d := d) (r := r) hq hq2 hW hdp hM hk (cgN b k) 0 (U ^^^ (U &&& 2 ^ k)) M1 (by omega) hB1 hS1 hRw1 (hL1 k hk).2 a3 hU1
        have f2 : fr (pRw dp) pRs M1 M2 := b6.mono (fun _ _ z => z) fun a x z => pWg_rs hk12 z
        obtain ⟨l1, l2⟩ := stI_le hW hM hk (Nat.le_refl (cgN b k))
        have lsl := stI_sl hW hM hk (Nat.le_refl (cgN b k))
        have lmu := mu_le l1
        obtain ⟨rr, c1, c2⟩ := ih (k + 1) (stI b k ms (cgN b k)) U' M2 (by omega) (hB1.fr f2 h12 (fun a x z => by unfold pRw at z; omega) fun a x z => by have := prs_B z; omega) (fun c hc => (b6.1 545 c (by unfold pRw; omega)).trans (hS1 c hc)) (hL1.fr h12 f2 fun a x z => by unfold pRw at z; omega) b2 l2 (stI_nz hW hM hk hh hz (Nat.le_refl _)) b2' (fun j hj => by
            rcases b4 j hj with z | z
            · rw [hu1, Bool.and_eq_true] at z
              exact hU3 j z.1
            · exact z.2.2) (fun j hj hbd hj0 => by
            by_cases e : j = k
            · rw [e]; exact ⟨stI_has hW hM hk hh, stI_ac hW hM hk⟩
            · have huj : U.testBit j = false := by
                cases hx : U.testBit j with
                | false => rfl
                | true =>
                  have := b3 j (by rw [hu1, hx, decide_eq_false e]; rfl)
                  rw [hj0] at this; cases this
              refine zhs_same hW l1 l2 hM hj (fun i x hi hx => ?_) (hP j hj hbd huj)
              by_cases hin : ∃ i', i' < cgN b k ∧ cgC b k i' = cgC b j i
              · obtain ⟨i', h1, h2⟩ := hin
                by_cases hne : stI b k ms (cgN b k) (cgC b k i') = ms (cgC b k i')
                · rw [← h2] at hx ⊢
                  rw [hne]; exact hx
                · have := b5 j i' hj e hbd (Nat.zero_le _) h1 ((inC_iff hW).mpr ⟨i, hi, h2.symm⟩) hne
                  rw [hj0] at this; cases this
              · rw [stI_out fun i' hi' e' => hin ⟨i', hi', e'.symm⟩]
                exact hx) (by omega) (by
            by_cases hst : ∃ i', 0 ≤ i' ∧ i' < cgN b k ∧ stI b k ms (cgN b k) (cgC b k i') ≠ ms (cgC b k i')
            · left
              obtain ⟨i', _, h1, h2⟩ := hst
              have := mu_lt l1 hM hb7 (cgC_lt hW hk h1) h2
              omega
            · rcases hP4 with z | z
              · exact Or.inl (by omega)
              · right
                intro j hj
                cases hx : U'.testBit j with
                | false => rfl
                | true =>
                  rcases b4 j hx with y | y
                  · rw [hu1, Bool.and_eq_true] at y
                    by_cases e : j = k
                    · rw [decide_eq_true e] at y; cases y.2
                    · have := z j (by omega)
                      rw [y.1] at this; cases this
                  · exact absurd y.1 hst)
        refine ⟨rr, head _ ?_, c2.from (f1.trans f2) l1 lsl⟩
        rw [hh, if_neg (show ¬ nB true = nI 0 by decide)]
        exact b1 rr c1
    · rw [Bool.not_eq_true] at hbk
      obtain ⟨rr, c1, c2⟩ := ih (k + 1) ms U M (by omega) hB hS hL hRw hM hz hU hU3 hP hm (by
        rcases hP4 with z | z
        · exact Or.inl z
        · right
          intro j hj
          by_cases e : j = k
          · rw [e]; exact hbk
          · exact z j (by omega))
      refine ⟨rr, e_S_settle_29 hq zl ?_, c2⟩
      rw [hB.1.2.2, if_pos ((n_lt (by omega) (by omega)).mpr hk), if_pos (hb0.mpr hbk), n_add1]
      exact c1
theorem q_settle_14 (hq : zkd q = (10, 0)) (hq2 : q + 18 < 126) (hW : Wf b) {dp : Nat} (hdp : dp < 17) : ∀ n r (ms : Nat → Nat) U (M : ZM), r + n = 114 → BRep b q M → SBd b M → SRl b M → SRw dp ms M → MV b ms → NZ b ms → U < 4096 → (∀ j, U.testBit j = true → j < b 3) → (∀ j, j < b 3 → bdC b j = true → U.testBit j = false → zHs b ms j) → (U = 0 ∨ r + muN ms ≤ 113) → ∃ rr, h_S_settle_14 (d + 3) q (547 + dp) (nI U) (nI r) M = some rr ∧ SOut b ms dp M rr := by
  have zl := zl_4 (q := 546) (i := nI dp) (by decide +kernel) ((n_zin (by omega)).mpr hdp)
  rw [n_clamp (by omega), show 546 + 1 + dp = 547 + dp by omega] at zl
  have done : ∀ r (ms : Nat → Nat) (M : ZM), SRw dp ms M → MV b ms → NZ b ms → (∀ j, j < b 3 → bdC b j = true → Nat.testBit 0 j = false → zHs b ms j) → ∃ rr, h_S_settle_14 (d + 3) q (547 + dp) (nI 0) (nI r) M = some rr ∧ SOut b ms dp M rr := fun r ms M hRw hM hz hP => by
    refine ⟨(some (.int (nI 1)), M), e_S_settle_14 hq zl ?_, Or.inr ⟨M, ms, rfl, hRw, ⟨⟨⟨Le.refl, hM⟩, hz, rfl⟩, fun j hj hbd => hP j hj hbd (Nat.zero_testBit j)⟩, fr.refl⟩⟩
    rw [if_pos rfl]
  intro n
  induction n with
  | zero =>
    intro r ms U M h hB hS hL hRw hM hz hU hU3 hP hr
    rcases hr with z | z
    · subst z
      exact done r ms M hRw hM hz hP
    · omega
  | succ n ih =>
    intro r ms U M h hB hS hL hRw hM hz hU hU3 hP hr
    by_cases hU0 : U = 0
    · subst hU0
      exact done r ms M hRw hM hz hP
    · have hr2 : r + muN ms ≤ 113 := by
        rcases hr with z | z
        · exact absurd z hU0
        · exact z
      obtain ⟨rr, a1, a2⟩ := q_settle_29 (d := d) (r := r) (mu0 := muN ms) hq hq2 hW hdp (fun ms1 U1 M1 g1 g2 g3 g4 g5 g6 g7 g8 g9 g10 g11 => ih (r + 1) ms1 U1 M1 (by omega) g1 g2 g3 g4 g5 g6 g7 g8 g9 (by
        rcases g11 with y | y
        · exact Or.inr (by omega)
        · exact Or.inl y)) (b 3) 0 ms U M (by omega) hB hS hL hRw hM hz hU hU3 hP (Nat.le_refl _) (Or.inr fun j hj => absurd hj (Nat.not_lt_zero j))
      refine ⟨rr, e_S_settle_14 hq zl ?_, a2⟩
      rw [if_neg (by rw [n_eq (by omega) (by omega)]; exact hU0), if_pos ((n_lt (by omega) (by omega)).mpr (by omega))]
      exact a1
theorem q_settle (hq : zkd q = (10, 0)) (hq2 : q + 18 < 126) (hW : Wf b) {dp : Nat} (hdp : dp < 17) {ms : Nat → Nat} {U : Nat} {M : ZM} (hB : BRep b q M) (hS : SBd b M) (hL : SRl b M) (hRw : SRw dp ms M) (hM : MV b ms) (hz : NZ b ms) (hU : U < 4096) (hU3 : ∀ j, U.testBit j = true → j < b 3) (hP : ∀ j, j < b 3 → bdC b j = true → U.testBit j = false → zHs b ms j) : ∃ rr, zEv (d + 4) zmS_settle [.ref 411, .ref q, .int (nI dp), .int (nI U)] M = some rr ∧ SOut b ms dp M rr := by
  have hmu := mu_112 hW hM
  obtain ⟨rr, a1, a2⟩ := q_settle_14 (d := d) hq hq2 hW hdp 114 0 ms U M (by omega) hB hS hL hRw hM hz hU hU3 hP (Or.inr (by omega))
  refine ⟨rr, e_S_settle hq ?_, a2⟩
  rw [if_pos ((n_zin (by omega)).mpr hdp), n_clamp (by omega)]
  exact a1
end QS3
