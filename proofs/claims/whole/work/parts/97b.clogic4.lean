/-! THE CLASS, 36: logic finds, does, does all -/
theorem gM_K {b : Nat → Nat} {c m : Nat} : gM (setK b c m) = gM b := msk_congr fun x hx => by rw [setK_ne (by omega)]
theorem pM_K {b : Nat → Nat} {c m : Nat} : pM (setK b c m) = pM b := msk_congr fun x hx => by rw [setK_ne (by omega), setK_ne (by omega)]
theorem BRep.mark {b : Nat → Nat} {q c m : Nat} {M : ZM} (h : BRep b q M) (hW : Wk b) (hc : c < 36) : BRep (setK b c m) q (zpi M (q + 1) c (nI m)) :=
  h.cell hW.n36 hW.1.2.2.2 hc (fun k _ _ h3 => setK_ne h3) (fun a k _ _ z => by rw [m_pi, if_neg z]) (fun a k _ _ _ => rfl) (by rw [m_pi, if_pos ⟨rfl, rfl⟩, setK_at]) (by rw [gM_K]; exact h.2.1.1.2) (by rw [pM_K]; exact h.2.1.2.1)
/-- how much there is to go in open cells -/
def msrO (b : Nat → Nat) : Nat := sumF (fun c => if isO b c = true then popc (b (112 + c)) + (if b (40 + c) = 0 then 1 else 0) else 0) 36
def msrC (b : Nat → Nat) : Nat := sumF (fun c => if isO b c = true then 0 else 1) 36
theorem msr_split {b : Nat → Nat} (hW : Wf b) : msr b = msrO b + msrC b := by
  unfold msr msrO msrC
  rw [← sumF_add]
  refine sumF_congr fun c hc => ?_
  cases hO : isO b c with
  | true => rw [if_pos rfl, if_pos rfl, Nat.add_zero]
  | false =>
    obtain ⟨h1, h2, h3⟩ := (hW.2.2.2.1 c hc).2.2 hO
    rw [h1, h2, show popc 0 = 0 from by decide +kernel]
    rfl
theorem popc_7 : ∀ m, m < 256 → m.testBit 0 = false → popc m ≤ 7 := by decide +kernel
theorem sumF_cnt {p : Nat → Bool} {f : Nat → Nat} (hf : ∀ c, f c ≤ 8) : ∀ n, sumF (fun c => if p c = true then f c else 0) n ≤ 8 * ((List.range n).filter p).length
  | 0 => Nat.le_refl 0
  | n + 1 => by
    have ih := sumF_cnt (p := p) hf n
    show sumF (fun c => if p c = true then f c else 0) n + (if p n = true then f n else 0) ≤ _
    rw [List.range_succ, List.filter_append, List.length_append]
    have := hf n
    by_cases h : p n = true
    · rw [if_pos h, List.filter_cons_of_pos (p := p) h, List.filter_nil, List.length_singleton]
      omega
    · rw [if_neg h, List.filter_cons_of_neg (p := p) h, List.filter_nil, List.length_nil]
      omega
theorem msrO_le {b : Nat → Nat} (hW : Wf b) : msrO b ≤ 128 := by
  unfold msrO
  have h16 := hW.2.2.2.2.1
  have h := sumF_cnt (p := isO b) (f := fun c => if c < 36 then popc (b (112 + c)) + (if b (40 + c) = 0 then 1 else 0) else 0) (fun c => by
    by_cases hc : c < 36
    · have h1 := popc_7 _ (mk_lt hW hc) (hW.2.2.2.1 c hc).2.1.2.2
      rw [if_pos hc]
      split <;> omega
    · rw [if_neg hc]; omega) 36
  rw [sumF_congr (g := fun c => if isO b c = true then (if c < 36 then popc (b (112 + c)) + (if b (40 + c) = 0 then 1 else 0) else 0) else 0) fun c hc => by rw [if_pos hc]]
  have e : ((List.range 36).filter (isO b)).length = openN b := rfl
  rw [e] at h
  omega
theorem goS_lo {b : Nat → Nat} {k : Nat} (hk : k < 40) : goS b k = b k := by
  unfold goS
  cases brk b with
  | true => rfl
  | false =>
    cases fdA b with
    | some c =>
      show putR b c (lst (b (112 + c))) k = b k
      unfold putR
      rw [if_neg (by omega), if_neg (by omega)]
    | none =>
      cases fdW b with
      | some c => exact setK_ne (by omega)
      | none => rfl
theorem goS_O {b : Nat → Nat} (hN : b 0 * b 1 ≤ 36) : isO (goS b) = isO b := funext fun x => by
  unfold isO
  rw [goS_lo (by omega), goS_lo (by omega)]
  by_cases h : x < b 0 * b 1
  · rw [goS_lo (by omega)]
  · rw [decide_eq_false h, Bool.false_and, Bool.false_and]
section QL4
variable {d : Nat} {b : Nat → Nat} {q : Nat}
theorem SDY.fr {M M' : ZM} {p p2 : Nat → Nat → Prop} (h : SDY b M) (hf : fr p p2 M M') (h12 : b 3 ≤ 12) (hp : ∀ a k, p a k → ¬ (a = 262 ∧ (k = 3 ∨ k = 4)) ∧ ¬ (399 ≤ a ∧ a ≤ 410)) : SDY b M' := by
  refine ⟨⟨?_, ?_⟩, fun k hk i hi => ?_⟩
  · rw [hf.1 262 3 fun z => (hp _ _ z).1 ⟨rfl, Or.inl rfl⟩]; exact h.1.1
  · rw [hf.1 262 4 fun z => (hp _ _ z).1 ⟨rfl, Or.inr rfl⟩]; exact h.1.2
  · rw [hf.1 (399 + k) i fun z => (hp _ _ z).2 (by omega)]; exact h.2 k hk i hi
theorem LFd.fr {s : MSt} {M M' : ZM} {p p2 : Nat → Nat → Prop} (h : LFd M s) (hf : fr p p2 M M') (hp : ∀ a k, p a k → ¬ (a = 262 ∧ 5 ≤ k ∧ k ≤ 8)) : LFd M' s := by
  have e : ∀ k, 5 ≤ k → k ≤ 8 → M'.1 262 k = M.1 262 k := fun k h1 h2 => hf.1 262 k fun z => hp _ _ z ⟨rfl, h1, h2⟩
  unfold LFd
  rw [e 5 (by omega) (by omega), e 6 (by omega) (by omega), e 7 (by omega) (by omega), e 8 (by omega) (by omega)]
  exact h
theorem q_find_70 (hq : zkd q = (10, 0)) (hW : Wf b) (hD : WfD b) {M : ZM} (hB : BRep b q M) (hN : fdW b = none) : ∀ n k, k + n = b 3 → h_L_find_70 (d + 4) q (nI k) M = some (none, M) := by
  have h12 := hW.1.2.2.2
  intro n
  induction n with
  | zero =>
    intro k h
    refine e_L_find_70 hq ?_
    rw [hB.1.2.2, if_neg (by rw [n_lt (by omega) (by omega)]; omega)]
  | succ n ih =>
    intro k h
    have hk : k < b 3 := by omega
    refine e_L_find_70 hq ?_
    rw [hB.1.2.2, if_pos ((n_lt (by omega) (by omega)).mpr hk), q_isAlike (d := d + 3) hq hB.sc hW.wk hk, zC1_some, n_add1]
    cases hu : cgU b k with
    | true =>
      rw [Bool.not_true, if_pos (show nB false = nI 0 from rfl), q_findTwins hq hW hD hB hN hk hu, zC1_some, if_pos rfl]
      exact ih (k + 1) (by omega)
    | false =>
      rw [Bool.not_false, if_neg (show ¬ nB true = nI 0 by decide)]
      exact ih (k + 1) (by omega)
theorem q_find_36 (hq : zkd q = (10, 0)) (hq2 : q + 18 < 126) (hW : Wf b) (hD : WfD b) (hN : fdW b = none) : ∀ n k (M : ZM), k + n = b 3 → BRep b q M → RSI 263 M → ∃ M', h_L_find_36 (d + 13) q (nI k) M = some (none, M') ∧ RSI 263 M' ∧ fr pLm pLm M M' := by
  have h12 := hW.1.2.2.2
  intro n
  induction n with
  | zero =>
    intro k M h hB hI
    refine ⟨M, e_L_find_36 hq ?_, hI, fr.refl⟩
    rw [hB.1.2.2, if_neg (by rw [n_lt (by omega) (by omega)]; omega)]
    exact q_find_70 (d := d + 9) hq hW hD hB hN (b 3) 0 (by omega)
  | succ n ih =>
    intro k M h hB hI
    have hk : k < b 3 := by omega
    cases hu : cgU b k with
    | true =>
      obtain ⟨M1, a1, a2, a3⟩ := q_findMust (d := d) hq hq2 hW hD hB hI hN hk
      obtain ⟨M', c1, c2, c3⟩ := ih (k + 1) M1 (by omega) (hB.fr a3 h12 (fun a x z => by unfold pLm at z; omega) fun a x z => by unfold pLm at z; omega) a2
      refine ⟨M', e_L_find_36 hq ?_, c2, a3.trans c3⟩
      rw [hB.1.2.2, if_pos ((n_lt (by omega) (by omega)).mpr hk), q_isAlike (d := d + 12) hq hB.sc hW.wk hk, zC1_some, n_add1, hu, Bool.not_true, if_pos (show nB false = nI 0 from rfl), a1, zC1_some, if_pos rfl]
      exact c1
    | false =>
      obtain ⟨M', c1, c2⟩ := ih (k + 1) M (by omega) hB hI
      refine ⟨M', e_L_find_36 hq ?_, c2⟩
      rw [hB.1.2.2, if_pos ((n_lt (by omega) (by omega)).mpr hk), q_isAlike (d := d + 12) hq hB.sc hW.wk hk, zC1_some, n_add1, hu, Bool.not_false, if_neg (show ¬ nB true = nI 0 by decide)]
      exact c1
theorem q_find (hq : zkd q = (10, 0)) (hq2 : q + 18 < 126) (hW : Wf b) (hD : WfD b) {M : ZM} (hB : BRep b q M) (hI : RSI 263 M) : ∃ M', zEv (d + 14) zmL_find [.ref 262, .ref q] M = some (none, M') ∧ (SDY b M' ∧ LFd M' (stp b)) ∧ RSI 263 M' ∧ fr pLg pLg M M' := by
  have h12 := hW.1.2.2.2
  obtain ⟨M1, a1, a2, a3, a4⟩ := q_study (d := d + 7) hq hq2 hW hB hI
  have f2 : fr (fun a k => a = 262 ∧ k = 5) (fun _ _ => False) M1 (zpi M1 262 5 (nI 0)) := fr.refl.pi ⟨rfl, rfl⟩
  have f2g : fr pLg pLg M (zpi M1 262 5 (nI 0)) := a4.trans (f2.mono (fun a k z => by unfold pLg; omega) fun _ _ z => z.elim)
  have hB2 := hB.fr f2g h12 (fun a x z => by unfold pLg at z; omega) fun a x z => by unfold pLg at z; omega
  have hS2 := a2.fr f2 h12 fun a k z => by omega
  have hI2 : RSI 263 (zpi M1 262 5 (nI 0)) := ⟨fun k' hk' => (a3.1 k' hk').fr f2 (fun a x h1 h2 h3 => by omega) fun a x h1 h2 h3 z => z, a3.2.fr f2 (fun a x h1 h2 h3 => by omega) fun a x h1 h2 h3 z => z⟩
  have hk2 : (zpi M1 262 5 (nI 0)).1 262 5 = nI 0 := by rw [m_pi, if_pos ⟨rfl, rfl⟩]
  revert hB2 hS2 hI2 hk2 f2g
  generalize hM2 : zpi M1 262 5 (nI 0) = M2
  intro f2g hB2 hS2 hI2 hk2
  have l0 : LFd M2 stp0 := ⟨hk2, fun h => absurd rfl h⟩
  have fL : ∀ {M M' : ZM}, fr pLf (fun _ _ => False) M M' → fr pLg pLg M M' := fun h => h.mono (fun a k z => by unfold pLf at z; unfold pLg; omega) fun _ _ z => z.elim
  have isf : ∀ {M M' : ZM}, RSI 263 M → fr pLf (fun _ _ => False) M M' → RSI 263 M' := fun h f => ⟨fun k' hk' => (h.1 k' hk').fr f (fun a x h1 h2 h3 => by unfold pLf; omega) fun a x h1 h2 h3 z => z, h.2.fr f (fun a x h1 h2 h3 => by unfold pLf; omega) fun a x h1 h2 h3 z => z⟩
  have sdf : ∀ {M M' : ZM}, SDY b M → fr pLf (fun _ _ => False) M M' → SDY b M' := fun h f => h.fr f h12 fun a k z => by unfold pLf at z; omega
  unfold stp
  cases hbk : brk b with
  | true =>
    refine ⟨M2, e_L_find hq ?_, ⟨hS2, l0⟩, hI2, f2g⟩
    rw [a1, zC0_some, hM2, q_LisBroken (d := d + 12) hS2 hW, zC1_some, hbk, if_neg (show ¬ nB true = nI 0 by decide)]
  | false =>
    rw [cond_false]
    obtain ⟨M3, c1, c2, c3⟩ := q_findAlone_2 (d := d + 9) hq hB2 hW hD 36 0 (by omega)
    rw [fdA_36 hW] at c1 c2
    cases hA : fdA b with
    | some c =>
      rw [hA] at c1 c2
      refine ⟨M3, e_L_find hq ?_, ⟨sdf hS2 c3, c2⟩, isf hI2 c3, f2g.trans (fL c3)⟩
      rw [a1, zC0_some, hM2, q_LisBroken (d := d + 12) hS2 hW, zC1_some, hbk, if_pos (show nB false = nI 0 from rfl), e_L_findAlone hq c1, zC1_some, if_neg (show ¬ nB (some c).isSome = nI 0 from (by decide : ¬ nB true = nI 0))]
    | none =>
      rw [hA] at c1 c2
      have c2 : M3 = M2 := c2
      rw [c2] at c1
      dsimp only
      obtain ⟨M4, e1, e2, e3⟩ := q_findWays_2 (d := d + 11) hq hB2 hW hS2 (b 3) 0 (by omega)
      rw [fst_all] at e1 e2
      rw [show (List.range (b 3)).find? (fun k => (fdI b k).isSome) = fdW b from rfl] at e1 e2
      cases hF : fdW b with
      | some k =>
        rw [hF] at e1 e2
        refine ⟨M4, e_L_find hq ?_, ⟨sdf hS2 e3, e2⟩, isf hI2 e3, f2g.trans (fL e3)⟩
        rw [a1, zC0_some, hM2, q_LisBroken (d := d + 12) hS2 hW, zC1_some, hbk, if_pos (show nB false = nI 0 from rfl), e_L_findAlone hq c1, zC1_some, if_pos (show nB (none : Option Nat).isSome = nI 0 from rfl), e_L_findWays hq e1, zC1_some, if_neg (show ¬ nB (some k).isSome = nI 0 from (by decide : ¬ nB true = nI 0))]
      | none =>
        rw [hF] at e1 e2
        have e2 : M4 = M2 := e2
        rw [e2] at e1
        obtain ⟨M5, g1, g2, g3⟩ := q_find_36 (d := d) hq hq2 hW hD hF (b 3) 0 M2 (by omega) hB2 hI2
        refine ⟨M5, e_L_find hq ?_, ⟨hS2.fr g3 h12 fun a k z => by unfold pLm at z; omega, l0.fr g3 fun a k z => by unfold pLm at z; omega⟩, g2, f2g.trans (g3.mono (fun a k z => by unfold pLm at z; unfold pLg; omega) fun a k z => by unfold pLm at z; unfold pLg; omega)⟩
        rw [a1, zC0_some, hM2, q_LisBroken (d := d + 12) hS2 hW, zC1_some, hbk, if_pos (show nB false = nI 0 from rfl), e_L_findAlone hq c1, zC1_some, if_pos (show nB (none : Option Nat).isSome = nI 0 from rfl), e_L_findWays hq e1, zC1_some, if_pos (show nB (none : Option Nat).isSome = nI 0 from rfl)]
        exact g1
theorem q_apply (hq : zkd q = (10, 0)) (hq2 : q + 18 < 126) (hW : Wf b) (hD : WfD b) {M : ZM} (hB : BRep b q M) (hL : LFd M (stp b)) (h0 : (stp b).1 ≠ 0) : ∃ M', zEv (d + 4) zmL_apply [.ref 262, .ref q] M = some (none, M') ∧ BRep (goS b) q M' ∧ fr (pBd q) (pBd q) M M' := by
  have hL2 := hL.2 h0
  revert hL hL2 h0
  unfold stp goS
  cases hbk : brk b with
  | true => intro _ h _; exact absurd rfl h
  | false =>
    rw [cond_false, cond_false]
    cases hA : fdA b with
    | some c =>
      intro hL h0 hL2
      obtain ⟨g1, g2, g3, g4⟩ := fdA_some hA
      have hc := isO_lt hW g2
      obtain ⟨u1, u2, u3⟩ := lst_top hW hc (popc_0 (by omega))
      have hG : b (76 + c) ≠ 1 := fun z => by have := (hD c hc).1 z; omega
      obtain ⟨M', a1, a2, a3⟩ := q_putDigit (d := d) hq hB hW.wk g2 hG u1 u2
      have e5 : M.1 262 5 = nI 1 := hL.1
      have e7 : M.1 262 7 = nI c := hL2.1.2
      have e8 : M.1 262 8 = nI (lst (b (112 + c))) := hL2.2
      refine ⟨M', e_L_apply hq ?_, a2, a3⟩
      rw [e7, q_isOpen (d := d + 1) hq hB.sc hW.wk, zC1_some, oI_n (by omega), g2, if_neg (show ¬ nB true = nI 0 by decide), e5, if_pos rfl, e7, e8, a1, zC0_some]
    | none =>
      dsimp only
      cases hF : fdW b with
      | none => intro _ h _; exact absurd rfl h
      | some k =>
        intro hL h0 hL2
        obtain ⟨h1, h2, h3, h4⟩ := fdW_some hW hD hbk hF
        have e5 : M.1 262 5 = nI 2 := hL.1
        have e7 : M.1 262 7 = nI (cgC b k ((fdI b k).getD 0)) := hL2.1.2
        have e8 : M.1 262 8 = nI (lst (outM b k ((fdI b k).getD 0))) := hL2.2
        dsimp only
        generalize (fdI b k).getD 0 = i at h2 h3 h4 e7 e8 ⊢
        have hc := cgC_lt hW h1 h2
        have hO := (hW.2.2.2.2.2 k h1).2.2.1 i h2
        obtain ⟨g1, g2, g3⟩ := lst_bit (outM_ex hW h1 h2 h3)
        have hx : lst (outM b k i) < 32 := by omega
        refine ⟨zpi M (q + 1) (cgC b k i) (nI (b (112 + cgC b k i) ^^^ (b (112 + cgC b k i) &&& 2 ^ lst (outM b k i)))), e_L_apply hq ?_, hB.mark hW.wk hc, fr.refl.pi (by unfold pBd; omega)⟩
        rw [e7, q_isOpen (d := d + 1) hq hB.sc hW.wk, zC1_some, oI_n (by omega), hO, if_neg (show ¬ nB true = nI 0 by decide), e5, if_neg (by decide), if_pos rfl, e7, if_pos ((n_zin (by omega)).mpr hc), zLr, n_clamp (by omega), hB.2.2.1 _ hc, e8, n_one hx, n_clr]
theorem q_applyAll_10 (hq : zkd q = (10, 0)) (hq2 : q + 18 < 126) (hq3 : 86 ≤ q) : ∀ n (b : Nat → Nat) s t (M : ZM), Wf b → WfD b → BRep b q M → RSI 263 M → SDY b M → LFd M (stp b) → M.1 262 10 = nI s → M.1 262 11 = nI t → msr b ≤ n → s + msrO b ≤ 128 → ∃ M', h_L_applyAll_10 (d + 14) q M = some (none, M') ∧ ((BRep (goA n b s t).1 q M' ∧ SDY (goA n b s t).1 M') ∧ Wf (goA n b s t).1 ∧ WfD (goA n b s t).1) ∧ (M'.1 262 10 = nI (goA n b s t).2.1 ∧ M'.1 262 11 = nI (goA n b s t).2.2) ∧ RSI 263 M' ∧ fr (fun a k => (262 ≤ a ∧ a ≤ 410) ∨ pBd q a k) (fun a k => (262 ≤ a ∧ a ≤ 410) ∨ pBd q a k) M M' := by
  intro n
  induction n with
  | zero =>
    intro b s t M hW hD hB hI hS hL h10 h11 hm hs
    have hk : (stp b).1 = 0 := by
      by_cases h : (stp b).1 = 0
      · exact h
      · have := msr_lt hW hD h; omega
    refine ⟨M, e_L_applyAll_10 hq ?_, ⟨⟨hB, hS⟩, hW, hD⟩, ⟨h10, h11⟩, hI, fr.refl⟩
    rw [hL.1, hk, if_pos rfl]
  | succ n ih =>
    intro b s t M hW hD hB hI hS hL h10 h11 hm hs
    have hkd := stp_kd b
    unfold goA
    by_cases hk : (stp b).1 = 0
    · rw [if_pos hk]
      refine ⟨M, e_L_applyAll_10 hq ?_, ⟨⟨hB, hS⟩, hW, hD⟩, ⟨h10, h11⟩, hI, fr.refl⟩
      rw [hL.1, hk, if_pos rfl]
    · rw [if_neg hk]
      have hml := msr_lt hW hD hk
      obtain ⟨hW', hD'⟩ := goS_w hW hD
      have s1 := msr_split hW
      have s2 := msr_split hW'
      have s3 : msrC (goS b) = msrC b := by unfold msrC; rw [goS_O hW.n36]
      have f1 : fr (fun a k => a = 262 ∧ (k = 10 ∨ k = 11)) (fun _ _ => False) M (zpi (zpi M 262 10 (nI (s + 1))) 262 11 (nI (t + (stp b).1))) := (fr.refl.pi ⟨rfl, Or.inl rfl⟩).pi ⟨rfl, Or.inr rfl⟩
      have hB1 := hB.fr f1 hW.1.2.2.2 (fun a x z => by omega) fun a x z => z.elim
      obtain ⟨M2, a1, a2, a3⟩ := q_apply (d := d + 10) hq hq2 hW hD hB1 (hL.fr f1 fun a k z => by omega) hk
      have hI2 : RSI 263 M2 := by
        have fz : fr (fun a k => (a = 262 ∧ (k = 10 ∨ k = 11)) ∨ pBd q a k) (pBd q) M M2 := (f1.mono (fun _ _ z => Or.inl z) fun _ _ z => z.elim).trans (a3.mono (fun _ _ z => Or.inr z) fun _ _ z => z)
        exact ⟨fun k' hk' => (hI.1 k' hk').fr fz (fun a x h1 h2 h3 => by unfold pBd; omega) fun a x h1 h2 h3 => by unfold pBd; omega, hI.2.fr fz (fun a x h1 h2 h3 => by unfold pBd; omega) fun a x h1 h2 h3 => by unfold pBd; omega⟩
      obtain ⟨M3, c1, ⟨c2, c2'⟩, c3, c4⟩ := q_find (d := d) hq hq2 hW' hD' a2 hI2
      have e10 : ∀ k, 10 ≤ k → k ≤ 11 → M3.1 262 k = (zpi (zpi M 262 10 (nI (s + 1))) 262 11 (nI (t + (stp b).1))).1 262 k := fun k h1 h2 => (c4.1 262 k (by unfold pLg; omega)).trans (a3.1 262 k (by unfold pBd; omega))
      obtain ⟨M', g1, g2, g3, g4, g5⟩ := ih (goS b) (s + 1) (t + (stp b).1) M3 hW' hD' (a2.fr c4 hW'.1.2.2.2 (fun a x z => by unfold pLg at z; omega) fun a x z => by unfold pLg at z; omega) c3 c2 c2' (by rw [e10 10 (by omega) (by omega), m_pi, if_neg (by omega), m_pi, if_pos ⟨rfl, rfl⟩]) (by rw [e10 11 (by omega) (by omega), m_pi, if_pos ⟨rfl, rfl⟩]) (by omega) (by omega)
      refine ⟨M', e_L_applyAll_10 hq ?_, g2, g3, g4, ((f1.mono (fun a k z => Or.inl (by omega)) fun _ _ z => z.elim).trans (a3.mono (fun _ _ z => Or.inr z) fun _ _ z => Or.inr z)).trans ((c4.mono (fun a k z => Or.inl (by unfold pLg at z; omega)) fun a k z => Or.inl (by unfold pLg at z; omega)).trans g5)⟩
      have hks : ¬ nI (stp b).1 = nI 0 := by rw [n_eq (by omega) (by omega)]; exact hk
      have e5 : (zpi M 262 10 (nI (s + 1))).1 262 5 = nI (stp b).1 := by rw [m_pi, if_neg (by omega)]; exact hL.1
      have e11 : (zpi M 262 10 (nI (s + 1))).1 262 11 = nI t := by rw [m_pi, if_neg (by omega)]; exact h11
      rw [hL.1, if_neg hks, h10, if_pos ((n_lt (by omega) (by omega)).mpr (by omega)), zLr, n_add1, e5, e11, n_add, a1, zC0_some, c1, zC0_some]
      exact g1
theorem q_applyAll (hq : zkd q = (10, 0)) (hq2 : q + 18 < 126) (hq3 : 86 ≤ q) (hW : Wf b) (hD : WfD b) {M : ZM} (hB : BRep b q M) (hI : RSI 263 M) (hS : SDY b M) (hL : LFd M (stp b)) : ∃ M', zEv (d + 15) zmL_applyAll [.ref 262, .ref q] M = some (none, M') ∧ ((BRep (goB b).1 q M' ∧ SDY (goB b).1 M') ∧ Wf (goB b).1 ∧ WfD (goB b).1) ∧ (M'.1 262 10 = nI (goB b).2.1 ∧ M'.1 262 11 = nI (goB b).2.2) ∧ RSI 263 M' ∧ fr (fun a k => (262 ≤ a ∧ a ≤ 410) ∨ pBd q a k) (fun a k => (262 ≤ a ∧ a ≤ 410) ∨ pBd q a k) M M' := by
  have f1 : fr (fun a k => a = 262 ∧ (k = 10 ∨ k = 11)) (fun _ _ => False) M (zpi (zpi M 262 10 (nI 0)) 262 11 (nI 0)) := (fr.refl.pi ⟨rfl, Or.inl rfl⟩).pi ⟨rfl, Or.inr rfl⟩
  obtain ⟨M', g1, g2, g3, g4, g5⟩ := q_applyAll_10 (d := d) hq hq2 hq3 1188 b 0 0 _ hW hD (hB.fr f1 hW.1.2.2.2 (fun a x z => by omega) fun a x z => z.elim) ⟨fun k' hk' => (hI.1 k' hk').fr f1 (fun a x h1 h2 h3 => by omega) fun a x h1 h2 h3 z => z, hI.2.fr f1 (fun a x h1 h2 h3 => by omega) fun a x h1 h2 h3 z => z⟩ (hS.fr f1 hW.1.2.2.2 fun a k z => by omega) (hL.fr f1 fun a k z => by omega) (by rw [m_pi, if_neg (by omega), m_pi, if_pos ⟨rfl, rfl⟩]) (by rw [m_pi, if_pos ⟨rfl, rfl⟩]) (msr_le b) (by have := msrO_le hW; omega)
  exact ⟨M', e_L_applyAll hq g1, g2, g3, g4, (f1.mono (fun a k z => Or.inl (by omega)) fun _ _ z => z.elim).trans g5⟩
end QL4
