/-! THE CLASS, 59: hint, wrong, idle -/
/-- a row given the digits of its first places -/
def gvR (b g : Nat → Nat) : Nat → Nat → Nat
  | 0 => b
  | p + 1 => givR (gvR b g p) (opA b p) (lst (g (opA b p)))
theorem gvR_w {b g : Nat → Nat} (hW : Wf b) (hD : WfD b) (hg : ∀ p, p < openN b → 1 ≤ lst (g (opA b p)) ∧ lst (g (opA b p)) ≤ b 2) : ∀ p, p ≤ openN b → (Wf (gvR b g p) ∧ WfD (gvR b g p)) ∧ isO (gvR b g p) = isO b ∧ (∀ k, k < 40 ∨ 148 ≤ k → gvR b g p k = b k) ∧ ∀ r, r < p → gvR b g p (112 + opA b r) = 2 ^ lst (g (opA b r))
  | 0, _ => ⟨⟨hW, hD⟩, rfl, fun _ _ => rfl, fun r hr => absurd hr (Nat.not_lt_zero r)⟩
  | p + 1, hp => by
    obtain ⟨⟨i1, i2⟩, i3, i4, i5⟩ := gvR_w hW hD hg p (by omega)
    obtain ⟨o1, o2⟩ := opA_mem (b := b) (p := p) (by omega)
    have hg' := hg p (by omega)
    have lo : ∀ k, k < 40 ∨ 148 ≤ k → gvR b g (p + 1) k = b k := fun k hk => by
      show givR (gvR b g p) (opA b p) _ k = b k
      unfold givR putR
      rw [if_neg (by omega), if_neg (by omega), if_neg (by omega)]
      exact i4 k hk
    have h36 := hW.n36
    refine ⟨givR_w i1 i2 (by rw [i3]; exact o2) hg'.1 (by rw [i4 2 (by omega)]; exact hg'.2), ?_, lo, fun r hr => ?_⟩
    · funext y
      unfold isO
      rw [lo 0 (by omega), lo 1 (by omega)]
      by_cases h : y < b 0 * b 1
      · rw [lo (4 + y) (by omega)]
      · rw [decide_eq_false h, Bool.false_and, Bool.false_and]
    · show givR (gvR b g p) (opA b p) (lst (g (opA b p))) (112 + opA b r) = _
      obtain ⟨q1, q2⟩ := opA_mem (b := b) (p := r) (by omega)
      unfold givR putR
      rw [if_neg (by omega)]
      by_cases e : r = p
      · rw [e]
        first
        | rw [if_pos rfl]
        | rw [if_neg (by omega), if_pos rfl]
      · have hne : opA b r ≠ opA b p := fun z => e (opA_inj (by omega) (by omega) z)
        rw [if_neg (by omega), if_neg (by omega)]
        exact i5 r (by omega)
/-- the digits that stand in solutions -/
theorem agr_bit {b : Nat → Nat} (hW : Wf b) {c x : Nat} (hO : isO b c = true) : (agrM b c).testBit x = true ↔ ∃ g, g ∈ (SL b fun c => b (112 + c)) ∧ g c = 2 ^ x := by
  have hc := isO_lt hW hO
  unfold agrM
  rw [msk_bit, Bool.and_eq_true, Bool.and_eq_true, decide_eq_true_iff]
  constructor
  · rintro ⟨h1, h2, h3⟩
    have hx1 : 1 ≤ x := by
      by_cases e : x = 0
      · rw [e, (hW.2.2.2.1 c hc).2.1.2.2] at h2; cases h2
      · omega
    have hW' : Wf (setK b c (2 ^ x)) := wf_setK hW hO (Nat.pow_lt_pow_right (by omega) h1) (by rw [Nat.testBit_two_pow]; exact decide_eq_false (by omega))
    rw [slv_emp hW' hW.n36 (setK_hi hc) setK_mk] at h3
    cases hL : SL b (um (fun c => b (112 + c)) c (2 ^ x)) with
    | nil => rw [hL] at h3; cases h3
    | cons g G =>
      have hg : g ∈ SL b (um (fun c => b (112 + c)) c (2 ^ x)) := by rw [hL]; exact List.mem_cons_self
      refine ⟨g, sl_um2 hO h2 hg, ?_⟩
      obtain ⟨y, y1, y2, y3⟩ := (sl_mem.mp hg).1.2 c hO
      rw [um_at, Nat.testBit_two_pow, decide_eq_true_iff] at y2
      rw [y3, y2]
  · rintro ⟨g, hg, e⟩
    obtain ⟨y, y1, y2, y3⟩ := (sl_mem.mp hg).1.2 c hO
    have hxy : y = x := (Nat.pow_right_inj (show 1 < 2 by omega)).mp (y3.symm.trans e)
    subst hxy
    have hb := mv_bit (mv_self hW) hc y2
    refine ⟨by omega, y2, ?_⟩
    have hW' : Wf (setK b c (2 ^ y)) := wf_setK hW hO (Nat.pow_lt_pow_right (by omega) (by omega)) (by rw [Nat.testBit_two_pow]; exact decide_eq_false (by omega))
    rw [slv_emp hW' hW.n36 (setK_hi hc) setK_mk]
    exact nB_ne (List.ne_nil_of_mem (sl_um hO y1 hg e))
theorem agr_0 {b : Nat → Nat} (hW : Wf b) (hn : (SL b fun c => b (112 + c)) = []) {c : Nat} (hO : isO b c = true) : agrM b c = 0 := by
  apply Nat.eq_of_testBit_eq
  intro x
  rw [Nat.zero_testBit]
  cases h : (agrM b c).testBit x with
  | false => rfl
  | true =>
    obtain ⟨g, hg, _⟩ := (agr_bit hW hO).mp h
    rw [hn] at hg
    cases hg
/-- one digit alone, told by the rest having none -/
theorem agr_one {b g0 : Nat → Nat} (hW : Wf b) (hg : g0 ∈ SL b fun c => b (112 + c)) {c : Nat} (hO : isO b c = true) : (agrM b c ≠ 0 ∧ (agrM b c).testBit (lst (g0 c)) = true) ∧ ((SL b (um (fun c => b (112 + c)) c (b (112 + c) ^^^ (b (112 + c) &&& 2 ^ lst (g0 c)))) = []) ↔ popc (agrM b c) = 1) ∧ (popc (agrM b c) = 1 → lst (agrM b c) = lst (g0 c)) := by
  have hc := isO_lt hW hO
  obtain ⟨x, x1, x2, x3⟩ := (sl_mem.mp hg).1.2 c hO
  have hl : lst (g0 c) = x := by rw [x3, lst_pow x x1.1 x1.2]
  rw [hl]
  have hb : (agrM b c).testBit x = true := (agr_bit hW hO).mpr ⟨g0, hg, x3⟩
  have hal := agrM_lt hW (c := c)
  have hone : popc (agrM b c) = 1 → agrM b c = 2 ^ x := fun h => popc_pow1 _ hal x (by omega) h hb
  have vb : ∀ y, (b (112 + c) ^^^ (b (112 + c) &&& 2 ^ x)).testBit y = ((b (112 + c)).testBit y && !decide (x = y)) := fun y => by
    rw [Nat.testBit_xor, Nat.testBit_and, Nat.testBit_two_pow]
    cases (b (112 + c)).testBit y <;> cases decide (x = y) <;> rfl
  refine ⟨⟨fun z => by rw [z, Nat.zero_testBit] at hb; exact absurd hb (by decide), hb⟩, ⟨fun hn => ?_, fun h => ?_⟩, fun h => by rw [hone h, lst_pow x x1.1 x1.2]⟩
  · have : agrM b c = 2 ^ x := by
      apply Nat.eq_of_testBit_eq
      intro y
      rw [Nat.testBit_two_pow]
      by_cases e : x = y
      · rw [decide_eq_true e, ← e]; exact hb
      · rw [decide_eq_false e]
        cases hy : (agrM b c).testBit y with
        | false => rfl
        | true =>
          exfalso
          obtain ⟨g, g1, g2⟩ := (agr_bit hW hO).mp hy
          obtain ⟨⟨h1, h2⟩, h3⟩ := sl_mem.mp g1
          have hin : g ∈ SL b (um (fun c => b (112 + c)) c (b (112 + c) ^^^ (b (112 + c) &&& 2 ^ x))) := sl_mem.mpr ⟨⟨fun z hz => by
              rw [um_ne fun e2 => by rw [e2, hO] at hz; cases hz]
              exact h1 z hz, fun z hz => by
              by_cases e2 : z = c
              · subst e2
                obtain ⟨w, w1, w2, w3⟩ := h2 z hz
                have hwy : w = y := (Nat.pow_right_inj (show 1 < 2 by omega)).mp (w3.symm.trans g2)
                rw [um_at]
                refine ⟨w, w1, ?_, w3⟩
                rw [vb, hwy, decide_eq_false e]
                rw [hwy] at w2
                rw [w2]
                rfl
              · rw [um_ne e2]
                exact h2 z hz⟩, h3⟩
          rw [hn] at hin
          cases hin
    rw [this]
    exact popc_2 x (by omega)
  · have ha := hone h
    cases hL : SL b (um (fun c => b (112 + c)) c (b (112 + c) ^^^ (b (112 + c) &&& 2 ^ x))) with
    | nil => rfl
    | cons g G =>
      exfalso
      have hin : g ∈ SL b (um (fun c => b (112 + c)) c (b (112 + c) ^^^ (b (112 + c) &&& 2 ^ x))) := by rw [hL]; exact List.mem_cons_self
      obtain ⟨⟨h1, h2⟩, h3⟩ := sl_mem.mp hin
      obtain ⟨y, y1, y2, y3⟩ := h2 c hO
      rw [um_at, vb, Bool.and_eq_true, Bool.not_eq_true', decide_eq_false_iff_not] at y2
      have hg2 : g ∈ SL b fun c => b (112 + c) := sl_mem.mpr ⟨⟨fun z hz => by
        have := h1 z hz
        rw [um_ne fun e2 => by rw [e2, hO] at hz; cases hz] at this
        exact this, fun z hz => by
        by_cases e2 : z = c
        · rw [e2]; exact ⟨y, y1, y2.1, y3⟩
        · have := h2 z hz
          rw [um_ne e2] at this
          exact this⟩, h3⟩
      have := (agr_bit hW hO).mpr ⟨g, hg2, y3⟩
      rw [ha, Nat.testBit_two_pow, decide_eq_true_iff] at this
      exact y2.2 this
section QX6
variable {d n : Nat} {b : Nat → Nat} {M : ZM}
theorem c_hint_59 (hW : Wf b) (hD : WfD b) {g : Nat → Nat} {A : List (Nat → Nat)} (hA0 : A.getD 0 (fun _ => 0) = g) (hAl : 0 < A.length) (hg : ∀ p, p < openN b → 1 ≤ lst (g (opA b p)) ∧ lst (g (opA b p)) ≤ b 2) {x : Int32} : ∀ j p (M : ZM), p + j = openN b → BRep (gvR b g p) 105 M → SolT b A M → SPl b M → ∃ M', (∀ r, h_C_hint_102 (d + 4) x (nI 0) M' = some r → h_C_hint_59 (d + 4) x (nI p) M = some r) ∧ BRep (gvR b g (openN b)) 105 M' ∧ fr (pBd 105) (pBd 105) M M' := by
  have h16 := hW.2.2.2.2.1
  have h12 := hW.1.2.2.2
  intro j
  induction j with
  | zero =>
    intro p M h hB hA hP
    obtain rfl : p = openN b := by omega
    have hpl : zEv (d + 4) zmS_places [.ref 411] M = some (some (.int (nI (openN b))), M) := by
      have := e_S_places (d := d + 3) (M := M) rfl
      rw [hP.1] at this
      exact this
    refine ⟨M, fun r hr => e_C_hint_59 ?_, hB, fr.refl⟩
    rw [hpl, zC1_some, if_neg (by rw [n_lt (by omega) (by omega)]; omega)]
    exact hr
  | succ j ih =>
    intro p M h hB hA hP
    have hp : p < openN b := by omega
    obtain ⟨⟨i1, i2⟩, i3, i4, i5⟩ := gvR_w hW hD hg p (by omega)
    obtain ⟨o1, o2⟩ := opA_mem hp
    have hgp := hg p hp
    have hpl : zEv (d + 4) zmS_places [.ref 411] M = some (some (.int (nI (openN b))), M) := by
      have := e_S_places (d := d + 3) (M := M) rfl
      rw [hP.1] at this
      exact this
    have hda := q_SdigitAt (d := d + 3) hA h16 hAl hp
    rw [hA0] at hda
    obtain ⟨M1, a1, a2, a3⟩ := q_giveDigit (d := d + 1) zk105 hB i1.wk (c := opA b p) (x := lst (g (opA b p))) (by rw [i3]; exact o2) hgp.1 (by rw [i4 2 (by omega)]; exact hgp.2)
    obtain ⟨M', b1, b2, b3⟩ := ih (p + 1) M1 (by omega) a2 (hA.fr a3 fun a k z => by unfold pBd at z; unfold pSt; omega) ⟨(a3.1 411 1 (by unfold pBd; omega)).trans hP.1, fun r hr => (a3.1 544 r (by unfold pBd; omega)).trans (hP.2 r hr)⟩
    refine ⟨M', fun r hr => e_C_hint_59 ?_, b2, a3.trans b3⟩
    rw [hpl, zC1_some, if_pos ((n_lt (by omega) (by omega)).mpr hp), q_ScellAt hP h16 hp, zC1_some, hda, zC1_some, a1, zC0_some, n_add1]
    exact b1 r hr
theorem c_hint_102 (hW : Wf b) (hD : WfD b) {g0 : Nat → Nat} (hg : g0 ∈ SL b fun c => b (112 + c)) (hgd : ∀ p, p < openN b → 1 ≤ lst (g0 (opA b p)) ∧ lst (g0 (opA b p)) ≤ b 2) {x : Int32} : ∀ j c m (M : ZM), c + j = 36 → BRep b 86 M → BRep (gvR b g0 (openN b)) 105 M → Sv m M → m + j < 1048576 → ∃ M', h_C_hint_102 (d + 24) x (nI c) M = some (some (.int (hintR b x ((List.range' c j).find? (hintP b)))), M') ∧ Sv (m + j) M' ∧ fr pQy pQy M M' := by
  have h12 := hW.1.2.2.2
  obtain ⟨⟨i1, i2⟩, i3, i4, i5⟩ := gvR_w hW hD hgd (openN b) (Nat.le_refl _)
  intro j
  induction j with
  | zero =>
    intro c m M h hB hB5 hS hm
    refine ⟨M, e_C_hint_102 ?_, hS, fr.refl⟩
    rw [if_neg (by rw [n_lt (by omega) (by omega)]; omega)]
    rfl
  | succ j ih =>
    intro c m M h hB hB5 hS hm
    have hc : c < 36 := by omega
    have ho := q_isOpen (d := d + 22) zk86 hB.sc hW.wk (nI c)
    rw [oI_n (by omega)] at ho
    rw [List.range'_succ, List.find?_cons]
    cases hO : isO b c with
    | false =>
      rw [hO] at ho
      obtain ⟨M', a1, a2, a3⟩ := ih (c + 1) m M (by omega) hB hB5 hS (by omega)
      have hp : hintP b c = false := by unfold hintP; rw [hO]; rfl
      rw [hp]
      refine ⟨M', e_C_hint_102 ?_, a2.le (by omega), a3⟩
      rw [if_pos ((n_lt (by omega) (by omega)).mpr hc), ho, zC1_some, if_pos (show nB false = nI 0 from rfl), n_add1]
      exact a1
    | true =>
      rw [hO] at ho
      have hdn := q_isDone (d := d + 21) zk86 hB.sc hW.wk hD (nI c)
      rw [doI_n hW hc hO] at hdn
      by_cases hd0 : 0 < b (40 + c)
      · rw [decide_eq_true hd0] at hdn
        obtain ⟨M', a1, a2, a3⟩ := ih (c + 1) m M (by omega) hB hB5 hS (by omega)
        have hp : hintP b c = false := by unfold hintP; rw [decide_eq_true hd0, Bool.not_true, Bool.and_false, Bool.false_and]
        rw [hp]
        refine ⟨M', e_C_hint_102 ?_, a2.le (by omega), a3⟩
        rw [if_pos ((n_lt (by omega) (by omega)).mpr hc), ho, zC1_some, if_neg (show ¬ nB true = nI 0 by decide), hdn, zC1_some, if_neg (show ¬ nB true = nI 0 by decide), n_add1]
        exact a1
      · rw [decide_eq_false hd0] at hdn
        obtain ⟨p, hp, ep⟩ := opA_ex hc hO
        obtain ⟨⟨u1, u2⟩, u3, u4⟩ := agr_one hW hg hO
        have h106 : M.1 106 c = nI (2 ^ lst (g0 c)) := by
          have := hB5.2.2.1 c hc
          rw [← ep, i5 p hp, ep] at this
          exact this
        have h87 : M.1 87 c = nI (b (112 + c)) := hB.2.2.1 c hc
        obtain ⟨M1, b1, b2, b3⟩ := c_solvW (d := d + 1) (v := b (112 + c) ^^^ (b (112 + c) &&& 2 ^ lst (g0 c))) hB hW hS (by omega) hO (fun y hy => by
          rw [Nat.testBit_xor, Nat.testBit_and] at hy
          cases hb : (b (112 + c)).testBit y with
          | true => rfl
          | false => rw [hb] at hy; cases hy)
        have hpe : hintP b c = decide (popc (agrM b c) = 1) := by
          unfold hintP
          rw [hO, decide_eq_false hd0, decide_eq_false u1]
          rfl
        have head : ∀ rr, (if nB (!(SL b (um (fun c => b (112 + c)) c (b (112 + c) ^^^ (b (112 + c) &&& 2 ^ lst (g0 c))))).isEmpty) = nI 0 then (if x = nI 0 then some (some (.int (nI c)), M1) else zC1 (zEv (d + 24) zmB_digitOf [.ref 105, .int (nI c)] M1) (fun v18 M17 => some (some (.int v18), M17))) else h_C_hint_102 (d + 24) x (nI (c + 1)) M1) = some rr → h_C_hint_102 (d + 24) x (nI c) M = some rr := fun rr hrr => by
          refine e_C_hint_102 ?_
          rw [if_pos ((n_lt (by omega) (by omega)).mpr hc), ho, zC1_some, if_neg (show ¬ nB true = nI 0 by decide), hdn, zC1_some, if_pos (show nB false = nI 0 from rfl), if_pos ((n_zin (by omega)).mpr hc), n_clamp (by omega), h87, h106, n_clr, b1, zC1_some, n_add1]
          exact hrr
        have hB1 := brq hB hW (fr_Sw b3)
        have hB51 : BRep (gvR b g0 (openN b)) 105 M1 := hB5.fr b3 (by rw [i4 3 (by omega)]; exact h12) (fun a k z => by unfold pSw at z; omega) fun a k z => by unfold pSw at z; omega
        cases hL : SL b (um (fun c => b (112 + c)) c (b (112 + c) ^^^ (b (112 + c) &&& 2 ^ lst (g0 c)))) with
        | nil =>
          have h1 := u3.mp hL
          rw [hpe, decide_eq_true h1]
          refine ⟨M1, head _ ?_, b2.le (by omega), fr_Sw b3⟩
          rw [hL, if_pos (show nB (!(([] : List (Nat → Nat)).isEmpty)) = nI 0 by decide)]
          show _ = some (some (Value.int (if agrM b c = 0 then -2 else if x = nI 0 then nI c else nI (lst (agrM b c)))), M1)
          rw [if_neg u1]
          by_cases hx : x = nI 0
          · rw [if_pos hx, if_pos hx]
          · have hdo := q_digitOf (d := d + 22) zk105 hB51 i1.wk (c := c) (by rw [i4 0 (by omega), i4 1 (by omega)]; exact isO_cell hO)
            have hm : gvR b g0 (openN b) (112 + c) = 2 ^ lst (g0 c) := by
              have := i5 p hp
              rw [ep] at this
              exact this
            have hgp := hgd p hp
            rw [ep] at hgp
            have h27 := hW.1.2.2.1
            rw [hm, lst_pow _ hgp.1 (by omega)] at hdo
            rw [if_neg hx, if_neg hx, hdo, zC1_some, u4 h1]
        | cons g G =>
          have h1 : ¬ popc (agrM b c) = 1 := fun z => by have := u3.mpr z; rw [hL] at this; cases this
          rw [hpe, decide_eq_false h1]
          obtain ⟨M', a1, a2, a3⟩ := ih (c + 1) (m + 1) M1 (by omega) hB1 hB51 b2 (by omega)
          refine ⟨M', head _ ?_, a2.le (by omega), (fr_Sw b3).trans a3⟩
          rw [hL, if_neg (show ¬ nB (!((g :: G).isEmpty)) = nI 0 from fun z => by cases (nB0 _).mp z)]
          exact a1
theorem find_36 {b : Nat → Nat} (hN : b 0 * b 1 ≤ 36) : (List.range' 0 36).find? (hintP b) = (List.range (b 0 * b 1)).find? (hintP b) := by
  rw [← List.range_eq_range', show 36 = b 0 * b 1 + (36 - b 0 * b 1) by omega, List.range_add, List.find?_append]
  have : ((List.range (36 - b 0 * b 1)).map (b 0 * b 1 + ·)).find? (hintP b) = none := by
    rw [List.find?_eq_none]
    intro y hy
    obtain ⟨z, _, rfl⟩ := List.mem_map.mp hy
    unfold hintP isO
    rw [decide_eq_false (by omega), Bool.false_and, Bool.false_and, Bool.false_and]
    decide
  rw [this, Option.or_none]
theorem c_hint (hB : BRep b 86 M) (hW : Wf b) (hD : WfD b) (hS : Sv n M) (hn : n + 40 < 1048576) (x : Int32) : ∃ M', zEv (d + 25) zmC_hint [.ref 64, .int x] M = some (some (.int (spHint b x)), M') ∧ Sv (n + 40) M' ∧ fr pQy pQy M M' := by
  unfold spHint
  have h16 := hW.2.2.2.2.1
  have h12 := hW.1.2.2.2
  have ht := q_isTold (d := d + 23) zk86 hB.sc hW.wk
  rw [told_eq hW] at ht
  cases hto : decide (0 < b 2) with
  | false =>
    rw [hto] at ht
    refine ⟨M, e_C_hint ?_, hS.le (by omega), fr.refl⟩
    rw [ht, zC1_some, if_pos (show nB false = nI 0 from rfl)]
    rfl
  | true =>
    rw [hto] at ht
    rw [Bool.true_and]
    cases hx : iI x 2 with
    | false =>
      have hx' : ¬ iI x 2 = true := by rw [hx]; decide
      rw [iI_if] at hx'
      refine ⟨M, e_C_hint ?_, hS.le (by omega), fr.refl⟩
      rw [ht, zC1_some, if_neg (show ¬ nB true = nI 0 by decide), cond_false]
      by_cases h0 : x < nI 0
      · rw [if_pos h0]
      · rw [if_neg h0, if_pos]
        rw [Int32.lt_iff_toInt_lt, n_toInt (by omega)] at h0 ⊢
        omega
    | true =>
      obtain ⟨v, hv, rfl⟩ := iI_ex (by omega) hx
      obtain ⟨M1, a1, a2, a3, a4, a5⟩ := c_look (d := d + 1) hB hW hS (by omega) zk87 (by omega) (mv_self hW) hB.2.2.1 (m := 1) (by omega) (by omega)
      have hB1 := brq hB hW (fr_Se a5)
      have head : ∀ rr, (if nI (min 1 (SL b fun c => b (112 + c)).length) = nI 0 then some (some (.int (-2 : Int32)), M1) else zC0 (zEv (d + 24) zmB_copyFrom [.ref 105, .ref 86] M1) (fun M12 => h_C_hint_59 (d + 24) (nI v) (nI 0) M12)) = some rr → zEv (d + 25) zmC_hint [.ref 64, .int (nI v)] M = some rr := fun rr hrr => by
        refine e_C_hint ?_
        rw [ht, zC1_some, if_neg (show ¬ nB true = nI 0 by decide), if_neg (by rw [n_lt (by omega) (by omega)]; omega), if_neg (by rw [n_lt (by omega) (by omega)]; omega), a1, zC1_some]
        exact hrr
      rw [cond_true, ← find_36 hW.n36]
      cases hL : SL b fun c => b (112 + c) with
      | nil =>
        refine ⟨M1, head _ ?_, a4.le (by omega), fr_Se a5⟩
        rw [hL, if_pos (show nI (min 1 ([] : List (Nat → Nat)).length) = nI 0 from rfl)]
        cases hf : (List.range' 0 36).find? (hintP b) with
        | none => rfl
        | some c =>
          have hp := List.find?_some hf
          have hO : isO b c = true := by
            unfold hintP at hp
            rw [Bool.and_eq_true, Bool.and_eq_true] at hp
            exact hp.1.1
          show _ = some (some (Value.int (if agrM b c = 0 then -2 else _)), M1)
          rw [if_pos (agr_0 hW hL hO)]
      | cons g0 G =>
        have hg : g0 ∈ SL b fun c => b (112 + c) := by rw [hL]; exact List.mem_cons_self
        have hgd : ∀ p, p < openN b → 1 ≤ lst (g0 (opA b p)) ∧ lst (g0 (opA b p)) ≤ b 2 := fun p hp => by
          obtain ⟨o1, o2⟩ := opA_mem hp
          obtain ⟨y, y1, y2, y3⟩ := (sl_mem.mp hg).1.2 _ o2
          rw [y3, lst_pow y y1.1 y1.2]
          exact mv_bit (mv_self hW) o1 y2
        obtain ⟨M2, b1, b2, b3⟩ := q_copyFrom (d := d + 23) zk105 zk86 (by omega) hB1 hW
        have o1 : ∀ a k, pBd 105 a k → 105 ≤ a ∧ a ≤ 123 := fun a k z => by unfold pBd at z; omega
        have f3 : fr pQy pQy M1 M2 := b3.mono (fun a k z => by have := o1 a k z; unfold pQy; omega) fun a k z => by have := o1 a k z; unfold pQy; omega
        rw [hL] at a2
        obtain ⟨M3, c1, c2, c3⟩ := c_hint_59 (d := d + 20) hW hD (g := g0) (A := [g0]) rfl (Nat.zero_lt_succ _) hgd (x := nI v) (openN b) 0 M2 (by omega) b2 (a2.fr b3 fun a k z => by have := o1 a k z; unfold pSt; omega) ⟨(b3.1 411 1 (by unfold pBd; omega)).trans a3.1, fun r hr => (b3.1 544 r (by unfold pBd; omega)).trans (a3.2 r hr)⟩
        have f4 : fr pQy pQy M2 M3 := c3.mono (fun a k z => by have := o1 a k z; unfold pQy; omega) fun a k z => by have := o1 a k z; unfold pQy; omega
        have hS3 : Sv (n + 1) M3 := (a4.out b3 (fun a k z => by have := o1 a k z; omega) fun a k z => by have := o1 a k z; omega).out c3 (fun a k z => by have := o1 a k z; omega) fun a k z => by have := o1 a k z; omega
        obtain ⟨M', e1, e2, e3⟩ := c_hint_102 (d := d) hW hD hg hgd (x := nI v) 36 0 (n + 1) M3 (by omega) (brq (brq hB1 hW f3) hW f4) c2 hS3 (by omega)
        refine ⟨M', head _ ?_, e2.le (by omega), (((fr_Se a5).trans f3).trans f4).trans e3⟩
        rw [hL, if_neg (show ¬ nI (min 1 (g0 :: G).length) = nI 0 from by rw [show min 1 (g0 :: G).length = 1 by rw [List.length_cons]; omega]; decide), b1, zC0_some]
        exact c1 _ e1
end QX6
