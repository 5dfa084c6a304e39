/-! THE CLASS, 48: solutions gathered in order -/
def SolT (b : Nat → Nat) (A : List (Nat → Nat)) (M : ZM) : Prop := (M.1 411 10 = nI A.length ∧ A.length ≤ 50) ∧ ∀ j, j < A.length → ∀ p, p < openN b → M.1 (578 + j) p = nI (lst ((A.getD j fun _ => 0) (opA b p)))
def pSt : Nat → Nat → Prop := fun a k => (a = 411 ∧ k = 10) ∨ (578 ≤ a ∧ a ≤ 627)
def pGa (dp : Nat) : Nat → Nat → Prop := fun a k => pSo dp a k ∨ pSt a k
theorem SolT.fr {b : Nat → Nat} {A : List (Nat → Nat)} {p p2 : Nat → Nat → Prop} {M M' : ZM} (h : SolT b A M) (hf : fr p p2 M M') (hp : ∀ a k, p a k → ¬ pSt a k) : SolT b A M' := by
  refine ⟨⟨(hf.1 411 10 fun z => hp _ _ z (Or.inl ⟨rfl, rfl⟩)).trans h.1.1, h.1.2⟩, fun j hj r hr => (hf.1 (578 + j) r fun z => hp _ _ z (Or.inr ?_)).trans (h.2 j hj r hr)⟩
  have := h.1.2
  omega
theorem enF_leaf {b : Nat → Nat} : ∀ (n c : Nat) (ms : Nat → Nat), (∀ y, isO b y = true → ∃ x, (1 ≤ x ∧ x ≤ 7) ∧ ms y = 2 ^ x) → enF b n ms c = [ms]
  | 0, _, _, _ => rfl
  | n + 1, c, ms, h => by
    unfold enF
    by_cases hO : isO b c = true
    · obtain ⟨x, x1, x2⟩ := h c hO
      rw [if_pos hO, x2, flat_one (f := fun x => enF b n (um ms c (2 ^ x)) (c + 1)) x1, um_same x2, enF_leaf n (c + 1) ms h]
    · rw [if_neg hO, enF_leaf n (c + 1) ms h]
theorem sl_leaf {b ms : Nat → Nat} (h : ∀ y, isO b y = true → ∃ x, (1 ≤ x ∧ x ≤ 7) ∧ ms y = 2 ^ x) (hne : SL b ms ≠ []) : SL b ms = [ms] := by
  unfold SL at hne ⊢
  rw [enF_leaf _ _ _ h] at hne ⊢
  by_cases hk : okA b ms = true
  · rw [List.filter_cons_of_pos hk, List.filter_nil]
  · rw [List.filter_cons_of_neg hk, List.filter_nil] at hne
    exact absurd rfl hne
theorem su_all {b ms : Nat → Nat} (hW : Wf b) (hM : MV b ms) (hz : NZ b ms) {y : Nat} (hO : isO b y = true) (h : popc (ms y) ≤ 1) : ∃ x, (1 ≤ x ∧ x ≤ 7) ∧ ms y = 2 ^ x := by
  have hc := isO_lt hW hO
  obtain ⟨z, z1, z2⟩ := msk_nz (mv_lt hM hW.1.2.2.1 hc) (hM y hc).1.2 (hz y hO)
  have := popc_pos (by omega) z2
  exact mv_su hM hW.1.2.2.1 hc (by omega)
def Sx (b ms : Nat → Nat) (c : Nat) : Nat → List (Nat → Nat) := fun y => if (ms c).testBit y then SL b (um ms c (2 ^ y)) else []
section QG
variable {d : Nat} {b : Nat → Nat} {q : Nat}
theorem q_store_18 {ms : Nat → Nat} (hW : Wf b) (hM : MV b ms) {dp f : Nat} (hdp : dp < 17) (hf : f < 50) : ∀ n p (M : ZM), p + n = openN b → SPl b M → SRw dp ms M → M.1 411 10 = nI f → (∀ p', p' < p → M.1 (578 + f) p' = nI (lst (ms (opA b p')))) → ∃ M', h_S_store_18 (d + 1) (nI dp) (nI p) M = some (none, M') ∧ M'.1 411 10 = nI (f + 1) ∧ (∀ p', p' < openN b → M'.1 (578 + f) p' = nI (lst (ms (opA b p')))) ∧ frI (fun a k => (a = 411 ∧ k = 10) ∨ a = 578 + f) M M' := by
  intro n
  have h16 := hW.2.2.2.2.1
  induction n with
  | zero =>
    intro p M h hP hR h9 hd
    refine ⟨zpi M 411 10 (nI (f + 1)), e_S_store_18 ?_, by rw [m_pi, if_pos ⟨rfl, rfl⟩], fun p' hp' => by rw [m_pi, if_neg (by omega)]; exact hd p' (by omega), fr.refl.pi (Or.inl ⟨rfl, rfl⟩)⟩
    rw [hP.1, if_neg (by rw [n_lt (by omega) (by omega)]; omega), h9, n_add1]
  | succ n ih =>
    intro p M h hP hR h9 hd
    have hp : p < openN b := by omega
    obtain ⟨o1, o2⟩ := opA_mem hp
    have hm := mv_lt hM hW.1.2.2.1 o1
    have f1 : frI (fun a k => (a = 411 ∧ k = 10) ∨ a = 578 + f) M (zpi M (578 + f) p (nI (lst (ms (opA b p))))) := fr.refl.pi (Or.inr rfl)
    obtain ⟨M', a1, a2, a3, a4⟩ := ih (p + 1) (zpi M (578 + f) p (nI (lst (ms (opA b p))))) (by omega) ⟨by rw [m_pi, if_neg (by omega)]; exact hP.1, fun r hr => by rw [m_pi, if_neg (by omega)]; exact hP.2 r hr⟩ (fun y hy => by rw [m_pi, if_neg (by omega)]; exact hR y hy) (by rw [m_pi, if_neg (by omega)]; exact h9) (fun p' hp' => by
      rw [m_pi]
      by_cases e : p' = p
      · rw [if_pos ⟨rfl, e⟩, e]
      · rw [if_neg (by omega)]; exact hd p' (by omega))
    refine ⟨M', e_S_store_18 ?_, a2, a3, f1.trans a4⟩
    rw [hP.1, if_pos ((n_lt (by omega) (by omega)).mpr hp), h9, if_pos ((n_zin (by omega)).mpr hf), if_pos ((n_zin (by omega)).mpr hdp), if_pos ((n_zin (by omega)).mpr (by omega)), n_clamp (by omega), n_clamp (by omega), n_clamp (by omega), hP.2 p hp, if_pos ((n_zin (by omega)).mpr o1), n_clamp (by omega), hR _ o1, q_leastDigit (by omega), zC1_some, n_add1]
    exact a1
theorem q_store {ms : Nat → Nat} (hW : Wf b) (hM : MV b ms) {dp : Nat} (hdp : dp < 17) {A : List (Nat → Nat)} {M : ZM} (hP : SPl b M) (hR : SRw dp ms M) (hA : SolT b A M) (hl : A.length < 50) : ∃ M', zEv (d + 2) zmS_store [.ref 411, .int (nI dp)] M = some (none, M') ∧ SolT b (A ++ [ms]) M' ∧ frI pSt M M' := by
  obtain ⟨M', a1, a2, a3, a4⟩ := q_store_18 (d := d) hW hM hdp hl (openN b) 0 M (by omega) hP hR hA.1.1 (fun p hp => absurd hp (Nat.not_lt_zero p))
  refine ⟨M', e_S_store ?_, ⟨⟨by rw [a2, List.length_append, List.length_singleton], by rw [List.length_append, List.length_singleton]; omega⟩, fun j hj p hp => ?_⟩, a4.mono (fun a k z => by unfold pSt; omega) fun _ _ z => z⟩
  · rw [hA.1.1, if_neg (by rw [n_lt (by omega) (by omega)]; omega), if_pos ((n_lt (by omega) (by omega)).mpr hl)]
    exact a1
  · rw [List.length_append, List.length_singleton] at hj
    by_cases e : j = A.length
    · rw [e, a3 p hp, List.getD_eq_getElem?_getD, List.getElem?_append_right (Nat.le_refl _), Nat.sub_self]
      rfl
    · rw [a4.1 (578 + j) p (by omega), hA.2 j (by omega) p hp, List.getD_eq_getElem?_getD, List.getD_eq_getElem?_getD, List.getElem?_append_left (by omega)]
def GvR (b : Nat → Nat) (ms0 : Nat → Nat) (L dp m : Nat) (A : List (Nat → Nat)) (M : ZM) (rr : ZR) : Prop := ∃ M', rr = (none, M') ∧ MI b ms0 L M' ∧ SolT b (A.take m) M' ∧ fr (pGa dp) pSl M M'
theorem q_gather_36 {e : Nat} (hq : zkd q = (10, 0)) (hq2 : q + 18 < 126) (hW : Wf b) {ms0 ms : Nat → Nat} {L dp c m : Nat} (hm50 : m ≤ 50) (hdp : dp < 16) (hI : Inv b ms0 ms) (hO : isO b c = true) (hp : 1 < popc (ms c)) (hsu : dp ≤ suC b ms) (IH : ∀ (ms' : Nat → Nat) (A : List (Nat → Nat)) (M : ZM), SSt b q ms0 L M → SRw (dp + 1) ms' M → Inv b ms0 ms' → dp + 1 ≤ suC b ms' → SolT b A M → M.1 411 9 = nI m → A.length < m → ∃ rr, zEv (e + 4) zmS_gather [.ref 411, .ref q, .int (nI (dp + 1))] M = some rr ∧ GvR b ms0 L (dp + 1) m (A ++ SL b ms') M rr) : ∀ j x (B : List (Nat → Nat)) (M : ZM), x + j = 8 → 1 ≤ x → SSt b q ms0 L M → SRw dp ms M → SolT b (B.take m) M → M.1 411 9 = nI m → ∃ rr, h_S_gather_36 (e + 4) q (nI dp) (nI c) (nI x) M = some rr ∧ GvR b ms0 L dp m (B ++ (List.range' x j).flatMap (Sx b ms c)) M rr := by
  have hc := isO_lt hW hO
  have hm := mv_lt hI.1.1.2 hW.1.2.2.1 hc
  intro j
  induction j with
  | zero =>
    intro x B M h h1 hS hR hT h8
    refine ⟨_, e_S_gather_36 (r := (none, M)) hq (by rw [if_pos (by rw [n_lt (by omega) (by omega)]; omega)]), M, rfl, hS.2.2, ?_, fr.refl⟩
    rw [List.range'_zero, List.flatMap_nil, List.append_nil]
    exact hT
  | succ j ih =>
    intro x B M h h1 hS hR hT h8
    have hx7 : x ≤ 7 := by omega
    have htl : (B.take m).length = min m B.length := List.length_take
    have hT1 := hT.1.2
    rw [List.range'_succ, List.flatMap_cons, ← List.append_assoc]
    by_cases hfull : B.length < m
    · have htk : B.take m = B := List.take_of_length_le (by omega)
      have hlt : M.1 411 10 < M.1 411 9 := by
        rw [hT.1.1, h8, htk, n_lt (by omega) (by omega)]
        exact hfull
      obtain ⟨en0, en1⟩ := q_enter (d := e + 3) (x := x) hdp hc (by omega) hm hR
      cases hb : (ms c).testBit x with
      | false =>
        obtain ⟨rr, a1, a2⟩ := ih (x + 1) B M (by omega) (by omega) hS hR hT h8
        have e1 : Sx b ms c x = [] := if_neg (by rw [hb]; decide)
        rw [e1, List.append_nil]
        refine ⟨rr, e_S_gather_36 hq ?_, a2⟩
        rw [if_neg (by rw [n_lt (by omega) (by omega)]; omega), if_pos hlt, en0 hb, zC1_some, if_pos rfl, n_add1]
        exact a1
      | true =>
        have e1 : Sx b ms c x = SL b (um ms c (2 ^ x)) := if_pos hb
        obtain ⟨M1, b1, b2, b3⟩ := en1 hb
        have f1 : fr (pGa dp) pSl M M1 := b3.mono (fun a _ z => by unfold pRw at z; unfold pGa pSo; omega) fun _ _ z => z.elim
        have fw : ∀ {M M' : ZM}, fr (pGa dp) pSl M M' → SSt b q ms0 L M → MI b ms0 L M' → SSt b q ms0 L M' := fun f hS hm => hS.fr hW hq2 f (fun a k z => by unfold pGa pSo pSt at z; omega) hm
        have hS1 : SSt b q ms0 L M1 := fw f1 hS (hS.2.2.fr fun a k _ => b3.2 a k fun z => z)
        obtain ⟨rr2, c1, c2⟩ := q_settleIn (d := e) hq hq2 hW hdp hS1 hI hO ⟨h1, hx7⟩ hb b2
        have h545 : M1.1 545 c = nI (bnM b c) := hS1.1.1.2 c hc
        have hR1 : SRw dp ms M1 := fun y hy => (b3.1 (547 + dp) y (by unfold pRw; omega)).trans (hR y hy)
        have hT2 : SolT b B M1 := by
          rw [htk] at hT
          exact hT.fr b3 fun a k z => by unfold pRw at z; unfold pSt; omega
        have h81 : M1.1 411 9 = nI m := (b3.1 411 9 (by unfold pRw; omega)).trans h8
        have head : ∀ rr, (zC1 (some rr2) (fun v10 M9 => (if v10 = (nI 0) then h_S_gather_36 (e + 4) q (nI dp) (nI c) (nI (x + 1)) M9 else zC0 (zEv (e + 4) zmS_gather [.ref 411, .ref q, .int (nI (dp + 1))] M9) (fun M13 => h_S_gather_36 (e + 4) q (nI dp) (nI c) (nI (x + 1)) M13)))) = some rr → h_S_gather_36 (e + 4) q (nI dp) (nI c) (nI x) M = some rr := fun rr hrr => by
          refine e_S_gather_36 hq ?_
          rw [if_neg (by rw [n_lt (by omega) (by omega)]; omega), if_pos hlt, b1, zC1_some, if_neg (show ¬ nI 1 = nI 0 by decide), if_pos ((n_zin (by omega)).mpr hc), n_clamp (by omega), h545, n_add1, n_add1, c1]
          exact hrr
        rcases c2 with ⟨M2, rfl, c3, c4⟩ | ⟨M2, ms', rfl, c3, c4, c5⟩
        · have f2 : fr (pGa dp) pSl M1 M2 := c4.mono (fun a _ z => by unfold pRw at z; unfold pGa pSo; omega) fun _ _ z => Or.inl z
          have hm2 : MI b ms0 L M2 := hS1.2.2.fr fun a k ha => c4.2 a k fun z => by have := prs_B z; omega
          obtain ⟨rr, a1, M', a2, a3, a4, a5⟩ := ih (x + 1) B M2 (by omega) (by omega) (fw f2 hS1 hm2) (fun y hy => (c4.1 (547 + dp) y (by unfold pRw; omega)).trans (hR1 y hy)) (by rw [htk]; exact hT2.fr c4 fun a k z => by unfold pRw at z; unfold pSt; omega) ((c4.1 411 9 (by unfold pRw; omega)).trans h81)
          refine ⟨rr, head _ ?_, M', a2, a3, ?_, (f1.trans f2).trans a5⟩
          · rw [zC1_some, if_pos rfl]
            exact a1
          · rw [e1, c3, List.append_nil]
            exact a4
        · have f2 : fr (pGa dp) pSl M1 M2 := c5.mono (fun a _ z => by unfold pRw at z; unfold pGa pSo; omega) fun _ _ z => Or.inl z
          have hm2 : MI b ms0 L M2 := hS1.2.2.fr fun a k ha => c5.2 a k fun z => by have := prs_B z; omega
          have hS2 := fw f2 hS1 hm2
          have hst := suC_step hW hI.1.1.2 hO ⟨h1, hx7⟩ hb (by omega) c4
          have hsl : SL b ms' = SL b (um ms c (2 ^ x)) := c4.1.2.2
          obtain ⟨rr3, d1, M3, rfl, d3, d4, d5⟩ := IH ms' B M2 hS2 c3 (inv_step hW hI hO ⟨h1, hx7⟩ hb c4) (by omega) (hT2.fr c5 fun a k z => by unfold pRw at z; unfold pSt; omega) ((c5.1 411 9 (by unfold pRw; omega)).trans h81) hfull
          have f3 : fr (pGa dp) pSl M2 M3 := d5.mono (fun a k z => z.elim (fun y => Or.inl (by unfold pSo at y ⊢; omega)) Or.inr) fun _ _ z => z
          obtain ⟨rr, a1, M', a2, a3, a4, a5⟩ := ih (x + 1) (B ++ SL b ms') M3 (by omega) (by omega) (fw f3 hS2 d3) (fun y hy => ((d5.1 (547 + dp) y (by unfold pGa pSo pSt; omega)).trans (c5.1 (547 + dp) y (by unfold pRw; omega))).trans (hR1 y hy)) d4 ((d5.1 411 9 (by unfold pGa pSo pSt; omega)).trans ((c5.1 411 9 (by unfold pRw; omega)).trans h81))
          refine ⟨rr, head _ ?_, M', a2, a3, ?_, ((f1.trans f2).trans f3).trans a5⟩
          · rw [zC1_some, if_neg (show ¬ nI 1 = nI 0 by decide), d1, zC0_some]
            exact a1
          · rw [e1, ← hsl]
            exact a4
    · refine ⟨_, e_S_gather_36 (r := (none, M)) hq (by rw [if_neg (by rw [n_lt (by omega) (by omega)]; omega), if_neg (by rw [hT.1.1, h8, n_lt (by omega) (by omega)]; omega)]), M, rfl, hS.2.2, ?_, fr.refl⟩
      rw [List.append_assoc, List.take_append_of_le_length (by omega)]
      exact hT
theorem q_gather (hq : zkd q = (10, 0)) (hq2 : q + 18 < 126) (hW : Wf b) {ms0 : Nat → Nat} {L m : Nat} (h0 : MV b ms0) (hL : L < 1048576) (hm50 : m ≤ 50) : ∀ n dp (ms : Nat → Nat) (A : List (Nat → Nat)) (M : ZM), dp + n = 16 → SSt b q ms0 L M → SRw dp ms M → Inv b ms0 ms → dp ≤ suC b ms → SolT b A M → M.1 411 9 = nI m → A.length < m → ∃ rr, zEv (d + n + 6) zmS_gather [.ref 411, .ref q, .int (nI dp)] M = some rr ∧ GvR b ms0 L dp m (A ++ SL b ms) M rr := by
  have h16 := hW.2.2.2.2.1
  intro n
  induction n with
  | zero =>
    intro dp ms A M h hS hR hI hsu hA h8 hAm
    obtain ⟨rr1, a1, M1, rfl, a3, a4⟩ := q_isSolvable (d := d) hq hq2 hW h0 hL 0 dp ms M h hS hR hI hsu
    have f1 : fr (pGa dp) pSl M M1 := a4.mono (fun _ _ z => Or.inl z) fun _ _ z => z
    have hS1 := hS.fr hW hq2 f1 (fun a k z => by unfold pGa pSo pSt at z; omega) a3
    have hA1 : SolT b A M1 := hA.fr a4 fun a k z => by unfold pSo at z; unfold pSt; omega
    have hR1 : SRw dp ms M1 := fun y hy => (a4.1 (547 + dp) y (by unfold pSo; omega)).trans (hR y hy)
    have hall : ∀ p, p < openN b → popc (ms (opA b p)) ≤ 1 := fun p hp => by
      obtain ⟨o1, o2⟩ := opA_mem hp
      by_cases e : popc (ms (opA b p)) = 1
      · omega
      · have := suC_lt o1 o2 e
        omega
    have hne := sl_some hW hI.1.1.2 hI.1.2 (fun j hj hbd => (hI.2.2 j hj hbd).1) fun p hp => Or.inl (hall p hp)
    have hlf := sl_leaf (fun y hy => by
      obtain ⟨p, hp, rfl⟩ := opA_ex (isO_lt hW hy) hy
      exact su_all hW hI.1.1.2 hI.1.2 hy (hall p hp)) hne
    obtain ⟨v, b1, b2⟩ := q_firstUnsure (d := d + 3) hW hI.1.1.2 (show dp < 17 by omega) hS1.1.2.2 hR1
    obtain ⟨M2, c1, c2, c3⟩ := q_store (d := d + 3) hW hI.1.1.2 (show dp < 17 by omega) hS1.1.2.2 hR1 hA1 (by omega)
    refine ⟨(none, M2), e_S_gather hq ?_, M2, rfl, a3.fr fun a k _ => c3.2 a k fun z => z, ?_, f1.trans (c3.mono (fun _ _ z => Or.inr z) fun _ _ z => z.elim)⟩
    · rw [show d + 0 + 5 = d + 5 by omega] at a1 ⊢
      rw [a1, zC1_some, nB_ne hne, if_neg (show ¬ nB true = nI 0 by decide), b1, zC1_some]
      by_cases hv : v = -1
      · rw [if_pos hv, c1, zC0_some]
      · rw [if_neg hv, if_neg (by rw [n_lt (by omega) (by omega)]; omega), c1, zC0_some]
    · rw [hlf, List.take_of_length_le (by rw [List.length_append, List.length_singleton]; omega)]
      exact c2
  | succ n ih =>
    intro dp ms A M h hS hR hI hsu hA h8 hAm
    obtain ⟨rr1, a1, M1, rfl, a3, a4⟩ := q_isSolvable (d := d) hq hq2 hW h0 hL (n + 1) dp ms M h hS hR hI hsu
    have f1 : fr (pGa dp) pSl M M1 := a4.mono (fun _ _ z => Or.inl z) fun _ _ z => z
    have hS1 := hS.fr hW hq2 f1 (fun a k z => by unfold pGa pSo pSt at z; omega) a3
    have hA1 : SolT b A M1 := hA.fr a4 fun a k z => by unfold pSo at z; unfold pSt; omega
    have hR1 : SRw dp ms M1 := fun y hy => (a4.1 (547 + dp) y (by unfold pSo; omega)).trans (hR y hy)
    have h81 : M1.1 411 9 = nI m := (a4.1 411 9 (by unfold pSo; omega)).trans h8
    cases hem : SL b ms with
    | nil =>
      rw [hem] at a1
      refine ⟨(none, M1), e_S_gather hq ?_, M1, rfl, a3, ?_, f1⟩
      · rw [a1, zC1_some, if_pos (show nB (!(([] : List (Nat → Nat)).isEmpty)) = nI 0 by decide)]
      · rw [List.append_nil, List.take_of_length_le (by omega)]
        exact hA1
    | cons g0 G0 =>
      have hne : SL b ms ≠ [] := by rw [hem]; exact List.cons_ne_nil _ _
      rw [← hem]
      rw [nB_ne hne] at a1
      obtain ⟨v, b1, b2⟩ := q_firstUnsure (d := d + (n + 1) + 3) hW hI.1.1.2 (show dp < 17 by omega) hS1.1.2.2 hR1
      rcases b2 with ⟨rfl, b2⟩ | ⟨r, rfl, r1, r2, r3⟩
      · have hlf := sl_leaf (fun y hy => by
          obtain ⟨p, hp, rfl⟩ := opA_ex (isO_lt hW hy) hy
          exact su_all hW hI.1.1.2 hI.1.2 hy (b2 p hp)) hne
        obtain ⟨M2, c1, c2, c3⟩ := q_store (d := d + (n + 1) + 3) hW hI.1.1.2 (show dp < 17 by omega) hS1.1.2.2 hR1 hA1 (by omega)
        refine ⟨(none, M2), e_S_gather hq ?_, M2, rfl, a3.fr fun a k _ => c3.2 a k fun z => z, ?_, f1.trans (c3.mono (fun _ _ z => Or.inr z) fun _ _ z => z.elim)⟩
        · rw [a1, zC1_some, if_neg (show ¬ nB true = nI 0 by decide), b1, zC1_some, if_pos rfl, c1, zC0_some]
        · rw [hlf, List.take_of_length_le (by rw [List.length_append, List.length_singleton]; omega)]
          exact c2
      · obtain ⟨o1, o2⟩ := opA_mem r1
        obtain ⟨rr, c1, c2⟩ := q_gather_36 (e := d + (n + 1) + 1) hq hq2 hW (c := opA b r) hm50 (show dp < 16 by omega) hI o2 r2 hsu (fun ms' A' M' u1 u2 u3 u4 u5 u6 u7 => by
          obtain ⟨rr, v1, v2⟩ := ih (dp + 1) ms' A' M' (by omega) u1 u2 u3 u4 u5 u6 u7
          rw [show d + n + 6 = d + (n + 1) + 1 + 4 by omega] at v1
          exact ⟨rr, v1, v2⟩) 7 1 A M1 (by omega) (Nat.le_refl 1) hS1 hR1 (by rw [List.take_of_length_le (by omega)]; exact hA1) h81
        rw [show d + (n + 1) + 1 + 4 = d + (n + 1) + 5 by omega] at c1
        have hsp : SL b ms = (List.range' 1 7).flatMap (Sx b ms (opA b r)) := sl_split o2 fun y hy hyO => by
          obtain ⟨p, hp, rfl⟩ := opA_ex (isO_lt hW hyO) hyO
          refine su_all hW hI.1.1.2 hI.1.2 hyO (r3 p ?_)
          by_cases e : p < r
          · exact e
          · by_cases e2 : r = p
            · rw [e2] at hy; omega
            · have := opA_lt r p (by omega) hp; omega
        obtain ⟨M', d1, d2, d3, d4⟩ := c2
        refine ⟨rr, e_S_gather hq ?_, M', d1, d2, ?_, f1.trans d4⟩
        · rw [a1, zC1_some, if_neg (show ¬ nB true = nI 0 by decide), b1, zC1_some, if_neg (n_nem1 (by omega)), if_pos ((n_lt (by omega) (by omega)).mpr (by omega))]
          exact c1
        · rw [hsp]
          exact d3
end QG
