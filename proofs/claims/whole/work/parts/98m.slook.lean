/-! THE CLASS, 49: a look -/
def SGl (L : Nat) (M : ZM) : Prop := (RSI 412 M ∧ M.2 411 11 = nJ L) ∧ ∀ s, s < 4096 → ∃ l h : Nat, (M.2 628 s = nJ l ∧ M.2 629 s = nJ h) ∧ l < 9223372036854775808 ∧ h < (L + 1) * 137438953472
def pSb : Nat → Nat → Prop := fun a k => (411 ≤ a ∧ a ≤ 577) ∧ ¬ (a = 411 ∧ (k = 9 ∨ k = 10))
def pSbL : Nat → Nat → Prop := fun a _ => (411 ≤ a ∧ a ≤ 543) ∨ a = 628 ∨ a = 629
theorem rsi_fr {p p2 : Nat → Nat → Prop} {M M' : ZM} (h : RSI 412 M) (hf : fr p p2 M M') (hp : ∀ a k, p a k → a < 414 ∨ 543 < a) (hp2 : ∀ a k, p2 a k → (a < 414 ∨ 543 < a) ∨ pRs a k) : RSI 412 M' := by
  refine ⟨fun k hk => (h.1 k hk).fr hf (fun a x h1 h2 h3 z => by have := hp a x z; omega) fun a x h1 h2 h3 z => ?_, h.2.fr hf (fun a x h1 h2 h3 z => by have := hp a x z; omega) fun a x h1 h2 h3 z => ?_⟩
  · rcases hp2 a x z with z | ⟨j, hj, z⟩
    · omega
    · unfold pWg at z
      omega
  · rcases hp2 a x z with z | ⟨j, hj, z⟩
    · omega
    · unfold pWg at z
      omega
theorem bnM_eq {b : Nat → Nat} {c : Nat} : cagesM b c &&& abM b = bnM b c := by
  apply Nat.eq_of_testBit_eq
  intro z
  unfold cagesM abM bnM
  rw [Nat.testBit_and, msk_bit, msk_bit, msk_bit]
  cases decide (z < b 3) <;> cases inC b z c <;> cases bdC b z <;> rfl
theorem abM_succ {b : Nat → Nat} {k : Nat} : msk (k + 1) (bdC b) = msk k (bdC b) ||| (bif bdC b k then 2 ^ k else 0) := msk_succ k (bdC b)
section QB2
variable {d : Nat} {b : Nat → Nat} {q : Nat}
theorem lay_tail {K : ZM → Option ZR} {b : Nat → Nat} {k a : Nat} {V : ZM} (h5 : V.1 411 5 = nB (zOu b k)) (h2 : V.1 a k = nI (b (148 + 10 * k))) (h3 : b (148 + 10 * k) ≤ 3) : (if (V.1 411 5) = (nI 0) then (if (nI 0) = nI 0 ∨ (nI 0) = nI 1 then K (zpi V 411 5 (nI 0)) else none) else (if (V.1 a k) = (nI 3) then (if (nI 1) = nI 0 ∨ (nI 1) = nI 1 then K (zpi V 411 5 (nI 1)) else none) else (if (nI 0) = nI 0 ∨ (nI 0) = nI 1 then K (zpi V 411 5 (nI 0)) else none))) = K (zpi V 411 5 (nB (zOu b (k + 1)))) := by
  rw [h5, h2, zOu_succ, if_pos (show nI 0 = nI 0 ∨ nI 0 = nI 1 from Or.inl rfl), if_pos (show nI 1 = nI 0 ∨ nI 1 = nI 1 from Or.inr rfl)]
  cases zOu b k with
  | false => rw [if_pos (show nB false = nI 0 from rfl)]; rfl
  | true =>
    rw [if_neg (show ¬ nB true = nI 0 by decide)]
    by_cases h : b (148 + 10 * k) = 3
    · rw [h, if_pos rfl]; rfl
    · rw [if_neg (by rw [n_eq (by omega) (by omega)]; exact h), decide_eq_false h]; rfl
theorem q_layOut_12 (hq : zkd q = (10, 0)) (hq2 : q + 18 < 126) (hW : Wf b) : ∀ n k (M : ZM), k + n = b 3 → BRep b q M → M.1 411 4 = nI (msk k (bdC b)) → M.1 411 5 = nB (zOu b k) → ∃ M', (∀ rr, h_S_layOut_93 (d + 2) q (nI 0) M' = some rr → h_S_layOut_12 (d + 2) q (nI k) M = some rr) ∧ (M'.1 411 4 = nI (abM b) ∧ M'.1 411 1 = nI 0 ∧ M'.1 411 5 = nB (zOu b (b 3))) ∧ frI (fun a k => a = 411 ∧ (k = 4 ∨ k = 1 ∨ k = 5)) M M' := by
  have h12 := hW.1.2.2.2
  intro n
  induction n with
  | zero =>
    intro k M h hB h4 h5
    refine ⟨zpi M 411 1 (nI 0), fun rr hrr => e_S_layOut_12 hq ?_, ⟨by rw [m_pi, if_neg (by omega), h4, show k = b 3 by omega]; rfl, by rw [m_pi, if_pos ⟨rfl, rfl⟩], by rw [m_pi, if_neg (by omega), h5, show k = b 3 by omega]⟩, fr.refl.pi ⟨rfl, Or.inr (Or.inl rfl)⟩⟩
    rw [hB.1.2.2, if_neg (by rw [n_lt (by omega) (by omega)]; omega)]
    exact hrr
  | succ n ih =>
    intro k M h hB h4 h5
    have hk : k < b 3 := by omega
    have h3 := (hW.2.2.2.2.2 k hk).1.1
    have f1 : ∀ v w, frI (fun a k => a = 411 ∧ (k = 4 ∨ k = 1 ∨ k = 5)) M (zpi (zpi M 411 4 v) 411 5 w) := fun v w => (fr.refl.pi ⟨rfl, Or.inl rfl⟩).pi ⟨rfl, Or.inr (Or.inr rfl)⟩
    have hB1 : ∀ v w, BRep b q (zpi (zpi M 411 4 v) 411 5 w) := fun v w => hB.fr (f1 v w) h12 (fun a x z => by omega) fun a x z => z.elim
    have hsq : M.1 (q + 2) k = nI (b (148 + 10 * k)) := (hB.2.2.2 k hk).1.1.1
    have step : ∀ v, v = nI (msk (k + 1) (bdC b)) → ∃ M', (∀ rr, h_S_layOut_93 (d + 2) q (nI 0) M' = some rr → (if ((zpi M 411 4 v).1 411 5) = (nI 0) then (if (nI 0) = nI 0 ∨ (nI 0) = nI 1 then h_S_layOut_12 (d + 2) q (nI (k + 1)) (zpi (zpi M 411 4 v) 411 5 (nI 0)) else none) else (if ((zpi M 411 4 v).1 (q + 2) k) = (nI 3) then (if (nI 1) = nI 0 ∨ (nI 1) = nI 1 then h_S_layOut_12 (d + 2) q (nI (k + 1)) (zpi (zpi M 411 4 v) 411 5 (nI 1)) else none) else (if (nI 0) = nI 0 ∨ (nI 0) = nI 1 then h_S_layOut_12 (d + 2) q (nI (k + 1)) (zpi (zpi M 411 4 v) 411 5 (nI 0)) else none))) = some rr) ∧ (M'.1 411 4 = nI (abM b) ∧ M'.1 411 1 = nI 0 ∧ M'.1 411 5 = nB (zOu b (b 3))) ∧ frI (fun a k => a = 411 ∧ (k = 4 ∨ k = 1 ∨ k = 5)) M M' := fun v hv => by
      obtain ⟨M', a1, a2, a3⟩ := ih (k + 1) (zpi (zpi M 411 4 v) 411 5 (nB (zOu b (k + 1)))) (by omega) (hB1 v _) (by rw [m_pi, if_neg (by omega), m_pi, if_pos ⟨rfl, rfl⟩]; exact hv) (by rw [m_pi, if_pos ⟨rfl, rfl⟩])
      exact ⟨M', fun rr hrr => (lay_tail (K := h_S_layOut_12 (d + 2) q (nI (k + 1))) (V := zpi M 411 4 v) (by rw [m_pi, if_neg (by omega)]; exact h5) (by rw [m_pi, if_neg (by omega)]; exact hsq) h3).trans (a1 rr hrr), a2, (f1 v _).trans a3⟩
    have s1 : bdC b k = true → nI (msk k (bdC b)) ||| (nI 1 <<< (nI k &&& 31)) = nI (msk (k + 1) (bdC b)) := fun hb => by
      rw [n_one (by omega), n_or, abM_succ, hb]
      rfl
    have s0 : bdC b k = false → nI (msk k (bdC b)) ||| nI 0 = nI (msk (k + 1) (bdC b)) := fun hb => by
      rw [n_or, abM_succ, hb]
      rfl
    by_cases hs : b (148 + 10 * k) = 3
    · cases hu : cgU b k with
      | true =>
        have hb : bdC b k = true := by unfold bdC; rw [hu, Bool.not_true, Bool.and_false]; rfl
        obtain ⟨M', a1, a2⟩ := step _ (s1 hb)
        refine ⟨M', fun rr hrr => e_S_layOut_12 hq ?_, a2⟩
        rw [hB.1.2.2, if_pos ((n_lt (by omega) (by omega)).mpr hk), if_pos ((n_zin (by omega)).mpr (by omega)), n_clamp (by omega), hsq, hs, if_pos rfl, q_isAlike hq hB.sc hW.wk hk, zC1_some, hu, if_pos (show nB (!true) = nI 0 by decide), h4, n_add1]
        exact a1 rr hrr
      | false =>
        have hb : bdC b k = false := by unfold bdC; rw [hu, decide_eq_true hs]; rfl
        obtain ⟨M', a1, a2⟩ := step _ (s0 hb)
        refine ⟨M', fun rr hrr => e_S_layOut_12 hq ?_, a2⟩
        rw [hB.1.2.2, if_pos ((n_lt (by omega) (by omega)).mpr hk), if_pos ((n_zin (by omega)).mpr (by omega)), n_clamp (by omega), hsq, hs, if_pos rfl, q_isAlike hq hB.sc hW.wk hk, zC1_some, hu, if_neg (show ¬ nB (!false) = nI 0 by decide), h4, n_add1]
        exact a1 rr hrr
    · have hb : bdC b k = true := by unfold bdC; rw [decide_eq_false hs]; rfl
      obtain ⟨M', a1, a2⟩ := step _ (s1 hb)
      refine ⟨M', fun rr hrr => e_S_layOut_12 hq ?_, a2⟩
      rw [hB.1.2.2, if_pos ((n_lt (by omega) (by omega)).mpr hk), if_pos ((n_zin (by omega)).mpr (by omega)), n_clamp (by omega), hsq, if_neg (by rw [n_eq (by omega) (by omega)]; exact hs), h4, n_add1]
      exact a1 rr hrr
theorem opR_succ {b : Nat → Nat} {i : Nat} : (List.range (i + 1)).filter (isO b) = (List.range i).filter (isO b) ++ (if isO b i = true then [i] else []) := by
  rw [List.range_succ, List.filter_append]
  congr 1
  cases hO : isO b i with
  | true => rw [List.filter_cons_of_pos hO]; rfl
  | false => rw [List.filter_cons_of_neg (by rw [hO]; simp)]; rfl
theorem opR_le {b : Nat → Nat} {i : Nat} (h : i ≤ 36) : ((List.range i).filter (isO b)).length ≤ openN b := by
  have : ((List.range i).filter (isO b)).length = sumF (fun x => if isO b x = true then 1 else 0) i := (sumF_filter (isO b) i).symm
  rw [this, show openN b = sumF (fun x => if isO b x = true then 1 else 0) 36 from (sumF_filter (isO b) 36).symm]
  have mono : ∀ n, sumF (fun x => if isO b x = true then 1 else 0) i ≤ sumF (fun x => if isO b x = true then 1 else 0) (i + n) := fun n => by
    induction n with
    | zero => exact Nat.le_refl _
    | succ n ih => exact Nat.le_trans ih (Nat.le_add_right _ _)
  have := mono (36 - i)
  rw [show i + (36 - i) = 36 by omega] at this
  exact this
def pLo : Nat → Nat → Prop := fun a k => (a = 411 ∧ k = 1) ∨ a = 544 ∨ a = 545
theorem q_layOut_93 (hq : zkd q = (10, 0)) (hq2 : q + 18 < 126) (hW : Wf b) : ∀ n i (M : ZM), i + n = 36 → BRep b q M → M.1 411 4 = nI (abM b) → M.1 411 1 = nI ((List.range i).filter (isO b)).length → (∀ p, p < ((List.range i).filter (isO b)).length → M.1 544 p = nI (((List.range i).filter (isO b)).getD p 0)) → (∀ c, c < i → M.1 545 c = nI (bnM b c)) → ∃ M', h_S_layOut_93 (d + 2) q (nI i) M = some (none, M') ∧ SPl b M' ∧ SBd b M' ∧ frI pLo M M' := by
  have h12 := hW.1.2.2.2
  have h16 := hW.2.2.2.2.1
  intro n
  induction n with
  | zero =>
    intro i M h hB h4 h1 h544 h545
    obtain rfl : i = 36 := by omega
    refine ⟨M, e_S_layOut_93 hq ?_, ⟨h1, h544⟩, h545, fr.refl⟩
    rw [if_neg (by decide)]
  | succ n ih =>
    intro i M h hB h4 h1 h544 h545
    have hi : i < 36 := by omega
    have hle := opR_le (b := b) (i := i) (by omega)
    have hle2 := opR_le (b := b) (i := i + 1) (by omega)
    have hcg : zEv (d + 2) zmB_cagesOf [.ref q, .int (nI i)] M = some (some (.int (nI (cagesM b i))), M) := by
      by_cases hN : i < b 0 * b 1
      · exact q_cagesOf hq hB hW.wk hN
      · have e : cagesM b i = 0 := by
          apply Nat.eq_of_testBit_eq
          intro z
          unfold cagesM
          rw [msk_bit, Nat.zero_testBit]
          by_cases hz : z < b 3
          · cases hic : inC b z i with
            | false => rw [Bool.and_false]
            | true =>
              have := inC_isO hW hz hic
              unfold isO at this
              rw [decide_eq_false hN, Bool.false_and] at this
              cases this
          · rw [decide_eq_false hz, Bool.false_and]
        rw [e]
        exact q_cagesOf_n hq hB hW.wk (by rw [iI_n (by omega)]; exact decide_eq_false hN)
    have f1 : frI pLo M (zpi M 545 i (nI (bnM b i))) := fr.refl.pi (Or.inr (Or.inr rfl))
    have hB1 := hB.fr f1 h12 (fun a x z => by unfold pLo at z; omega) fun a x z => z.elim
    have head : ∀ rr, (if nB (isO b i) = nI 0 then h_S_layOut_93 (d + 2) q (nI (i + 1)) (zpi M 545 i (nI (bnM b i))) else h_S_layOut_93 (d + 2) q (nI (i + 1)) (zpi (zpi (zpi M 545 i (nI (bnM b i))) 544 ((List.range i).filter (isO b)).length (nI i)) 411 1 (nI (((List.range i).filter (isO b)).length + 1)))) = some rr → (isO b i = true → ((List.range i).filter (isO b)).length < 16) → h_S_layOut_93 (d + 2) q (nI i) M = some rr := fun rr hrr hl => by
      have e9 : (zpi M 545 i (nI (bnM b i))).1 411 1 = nI ((List.range i).filter (isO b)).length := by rw [m_pi, if_neg (by omega)]; exact h1
      refine e_S_layOut_93 hq ?_
      rw [if_pos ((n_lt (by omega) (by omega)).mpr hi), hcg, zC1_some, if_pos ((n_zin (by omega)).mpr hi), h4, n_and, bnM_eq, n_clamp (by omega), q_isOpen hq hB1.sc hW.wk, zC1_some, oI_n (by omega), n_add1, e9]
      cases hO : isO b i with
      | false =>
        rw [hO, if_pos (show nB false = nI 0 from rfl)] at hrr
        rw [if_pos (show nB false = nI 0 from rfl)]
        exact hrr
      | true =>
        rw [hO, if_neg (show ¬ nB true = nI 0 by decide)] at hrr
        have := hl hO
        rw [if_neg (show ¬ nB true = nI 0 by decide), if_pos ((n_lt (by omega) (by omega)).mpr this), if_pos ((n_zin (by omega)).mpr this), n_clamp (by omega), m_pi, if_neg (by omega), e9, n_add1]
        exact hrr
    have g545 : ∀ c, c < i + 1 → (zpi M 545 i (nI (bnM b i))).1 545 c = nI (bnM b c) := fun c hc => by
      rw [m_pi]
      by_cases e : c = i
      · rw [if_pos ⟨rfl, e⟩, e]
      · rw [if_neg (by omega)]; exact h545 c (by omega)
    have eR := opR_succ (b := b) (i := i)
    cases hO : isO b i with
    | false =>
      rw [hO, if_neg (by decide), List.append_nil] at eR
      obtain ⟨M', a1, a2, a3, a4⟩ := ih (i + 1) (zpi M 545 i (nI (bnM b i))) (by omega) hB1 (by rw [m_pi, if_neg (by omega)]; exact h4) (by rw [eR, m_pi, if_neg (by omega)]; exact h1) (by
        rw [eR]
        intro p hp
        rw [m_pi, if_neg (by omega)]; exact h544 p hp) g545
      refine ⟨M', head _ ?_ (fun z => by rw [hO] at z; cases z), a2, a3, f1.trans a4⟩
      rw [hO, if_pos (show nB false = nI 0 from rfl)]
      exact a1
    | true =>
      rw [hO, if_pos rfl] at eR
      rw [eR, List.length_append, List.length_singleton] at hle2
      have f2 : frI pLo M (zpi (zpi (zpi M 545 i (nI (bnM b i))) 544 ((List.range i).filter (isO b)).length (nI i)) 411 1 (nI (((List.range i).filter (isO b)).length + 1))) := (f1.pi (Or.inr (Or.inl rfl))).pi (Or.inl ⟨rfl, rfl⟩)
      obtain ⟨M', a1, a2, a3, a4⟩ := ih (i + 1) (zpi (zpi (zpi M 545 i (nI (bnM b i))) 544 ((List.range i).filter (isO b)).length (nI i)) 411 1 (nI (((List.range i).filter (isO b)).length + 1))) (by omega) (hB.fr f2 h12 (fun a x z => by unfold pLo at z; omega) fun a x z => z.elim) (by rw [m_pi, if_neg (by omega), m_pi, if_neg (by omega), m_pi, if_neg (by omega)]; exact h4) (by rw [eR, m_pi, if_pos ⟨rfl, rfl⟩, List.length_append, List.length_singleton]) (by
        rw [eR]
        intro p hp
        rw [List.length_append, List.length_singleton] at hp
        rw [m_pi, if_neg (by omega), m_pi]
        by_cases e : p = ((List.range i).filter (isO b)).length
        · rw [if_pos ⟨rfl, e⟩, e, List.getD_eq_getElem?_getD, List.getElem?_append_right (Nat.le_refl _), Nat.sub_self]
          rfl
        · rw [if_neg (by omega), m_pi, if_neg (by omega), h544 p (by omega), List.getD_eq_getElem?_getD, List.getD_eq_getElem?_getD, List.getElem?_append_left (by omega)]) (fun c hc => by rw [m_pi, if_neg (by omega), m_pi, if_neg (by omega)]; exact g545 c hc)
      refine ⟨M', head _ ?_ (fun _ => by omega), a2, a3, f2.trans a4⟩
      rw [hO, if_neg (show ¬ nB true = nI 0 by decide)]
      exact a1
theorem q_layOut {M : ZM} (hq : zkd q = (10, 0)) (hq2 : q + 18 < 126) (hW : Wf b) (hB : BRep b q M) : ∃ M', zEv (d + 3) zmS_layOut [.ref 411, .ref q] M = some (none, M') ∧ (SPl b M' ∧ SBd b M') ∧ (M'.1 411 4 = nI (abM b) ∧ M'.1 411 5 = nB (zOu b (b 3))) ∧ frI (fun a k => (a = 411 ∧ (k = 4 ∨ k = 1 ∨ k = 5)) ∨ a = 544 ∨ a = 545) M M' := by
  have h12 := hW.1.2.2.2
  have f0 : frI (fun a k => a = 411 ∧ (k = 4 ∨ k = 1 ∨ k = 5)) M (zpi (zpi M 411 4 (nI 0)) 411 5 (nI 1)) := (fr.refl.pi ⟨rfl, Or.inl rfl⟩).pi ⟨rfl, Or.inr (Or.inr rfl)⟩
  obtain ⟨M1, a1, ⟨a2, a3, a5⟩, a4⟩ := q_layOut_12 (d := d) hq hq2 hW (b 3) 0 (zpi (zpi M 411 4 (nI 0)) 411 5 (nI 1)) (by omega) (hB.fr f0 h12 (fun a x z => by omega) fun a x z => z.elim) (by rw [m_pi, if_neg (by omega), m_pi, if_pos ⟨rfl, rfl⟩]; rfl) (by rw [m_pi, if_pos ⟨rfl, rfl⟩]; rfl)
  have f1 := f0.trans a4
  obtain ⟨M2, b1, b2, b3, b4⟩ := q_layOut_93 (d := d) hq hq2 hW 36 0 M1 (by omega) (hB.fr f1 h12 (fun a x z => by omega) fun a x z => z.elim) a2 a3 (fun p hp => absurd hp (Nat.not_lt_zero p)) (fun c hc => absurd hc (Nat.not_lt_zero c))
  refine ⟨M2, e_S_layOut hq ?_, ⟨b2, b3⟩, ⟨(b4.1 411 4 (by unfold pLo; omega)).trans a2, (b4.1 411 5 (by unfold pLo; omega)).trans a5⟩, (f1.mono (fun a k z => Or.inl z) fun _ _ z => z).trans (b4.mono (fun a k z => by unfold pLo at z; omega) fun _ _ z => z)⟩
  rw [if_pos (show nI 1 = nI 0 ∨ nI 1 = nI 1 from Or.inr rfl)]
  exact a1 _ b1
theorem q_begin_12 {e : Nat} (hq : zkd q = (10, 0)) (hq2 : q + 18 < 126) (he : zkd e = (1, 36)) (hW : Wf b) : ∀ n k (M : ZM), k + n = b 3 → BRep b q M → RSI 412 M → (∀ j, j < k → RCk b j (424 + 10 * j) M) → ∃ M', (∀ rr, h_S_begin_12 (d + 4) q e (nI (b 3)) M' = some rr → h_S_begin_12 (d + 4) q e (nI k) M = some rr) ∧ BRep b q M' ∧ RSI 412 M' ∧ SRl b M' ∧ fr pRl pRl M M' := by
  have h12 := hW.1.2.2.2
  intro n
  induction n with
  | zero =>
    intro k M h hB hI hL
    obtain rfl : k = b 3 := by omega
    exact ⟨M, fun _ z => z, hB, hI, hL, fr.refl⟩
  | succ n ih =>
    intro k M h hB hI hL
    have hk : k < b 3 := by omega
    obtain ⟨M1, a1, a2, a3, a4⟩ := q_ready (d := d) rsk_S hq hB hW hk hI
    rw [show 412 + 12 + 10 * k = 424 + 10 * k by omega] at a1 a2 a4
    have hrk := rsk_S.2 k (by omega)
    rw [show 412 + 12 + 10 * k = 424 + 10 * k by omega] at hrk
    have f1 : fr pRl pRl M M1 := a4.mono (fun a x z => by unfold pRu at z; unfold pRl; omega) fun a x z => by unfold pRu at z; unfold pRl; omega
    obtain ⟨M', b1, b2, b3, b4, b5⟩ := ih (k + 1) M1 (by omega) (hB.fr a4 h12 (fun a x z => by unfold pRu at z; omega) fun a x z => by unfold pRu at z; omega) a3 (fun j hj => by
      by_cases e : j = k
      · rw [e]; exact a2
      · exact (hL j (by omega)).fr a4 (fun a x z => by unfold pRu at z; omega) fun a x h1 h2 h3 z => by unfold pRu at z; omega)
    refine ⟨M', fun rr hrr => e_S_begin_12 hq he ?_, b2, b3, b4, f1.trans b5⟩
    rw [hB.1.2.2, if_pos ((n_lt (by omega) (by omega)).mpr hk), a1, zC3_some, if_pos hrk, n_add1]
    exact b1 rr hrr
def BgR (b : Nat → Nat) (q : Nat) (mk : Nat → Nat) (L : Nat) (M : ZM) (rr : ZR) : Prop := ∃ M' v, rr = (some (.int (nB v)), M') ∧ (v = false → SL b mk = []) ∧ (v = true → ∃ ms, SSt b q mk L M' ∧ SRw 0 ms M' ∧ Inv b mk ms ∧ SL b ms = SL b mk) ∧ SPl b M' ∧ SGl L M' ∧ fr pSb pSbL M M'
theorem q_begin_62 (hq : zkd q = (10, 0)) (hq2 : q + 18 < 126) (hW : Wf b) {mk : Nat → Nat} (hM : MV b mk) {L : Nat} {M : ZM} (hS : SSt b q mk L M) (hG : SGl L M) (h4 : M.1 411 4 = nI (abM b)) (hR : SRw 0 mk M) : ∀ n p, p + n = openN b → (∀ p', p' < p → mk (opA b p') ≠ 0) → ∃ rr, h_S_begin_62 (d + 4) q (nI p) M = some rr ∧ BgR b q mk L M rr := by
  have h12 := hW.1.2.2.2
  have h16 := hW.2.2.2.2.1
  intro n
  induction n with
  | zero =>
    intro p h hz
    have hNZ : NZ b mk := fun y hy => by
      obtain ⟨p', hp', rfl⟩ := opA_ex (isO_lt hW hy) hy
      exact hz p' (by omega)
    obtain ⟨rr1, a1, a2⟩ := q_settle (d := d) hq hq2 hW (dp := 0) (by omega) hS.1.1.1 hS.1.1.2 hS.1.2.1 hR hM hNZ (msk_lt12 h12 (bdC b)) (fun j hj => by
      rw [msk_bit, Bool.and_eq_true, decide_eq_true_iff] at hj
      exact hj.1) (fun j hj hbd hu => by
      rw [msk_bit, decide_eq_true hj, hbd] at hu
      cases hu)
    have head : ∀ rr, (zC1 (some rr1) (fun v7 M6 => (if v7 = (nI 0) then some (some (.int (nI 0)), M6) else zC1 (zEv (d + 4) zmS_sumsFit [.ref 411, .ref q] M6) (fun v11 M10 => (if v11 = (nI 0) then some (some (.int (nI 0)), M10) else some (some (.int (nI 1)), M10)))))) = some rr → h_S_begin_62 (d + 4) q (nI p) M = some rr := fun rr hrr => by
      refine e_S_begin_62 hq ?_
      rw [hS.1.2.2.1, if_neg (by rw [n_lt (by omega) (by omega)]; omega), h4]
      have a1' : zEv (d + 4) zmS_settle [.ref 411, .ref q, .int (nI 0), .int (nI (abM b))] M = some rr1 := a1
      rw [a1']
      exact hrr
    have hGf : ∀ {p' p2 : Nat → Nat → Prop} {M M' : ZM}, fr p' p2 M M' → SGl L M → (∀ a k, p' a k → a < 414 ∨ 543 < a) → (∀ a k, p2 a k → pRs a k) → SGl L M' := fun f hG u v => ⟨⟨rsi_fr hG.1.1 f u fun a k z => Or.inr (v a k z), (f.2 411 11 fun z => by have := prs_B (v _ _ z); omega).trans hG.1.2⟩, fun s hs => by
      obtain ⟨l, g, g1, g2⟩ := hG.2 s hs
      exact ⟨l, g, by rw [f.2 628 s fun z => by have := prs_B (v _ _ z); omega, f.2 629 s fun z => by have := prs_B (v _ _ z); omega]; exact g1, g2⟩⟩
    rcases a2 with ⟨M1, rfl, b2, b3⟩ | ⟨M1, ms, rfl, b2, b3, b4⟩
    · have fb : fr pSb pSbL M M1 := b3.mono (fun a k z => by unfold pRw at z; unfold pSb; omega) fun a k z => by have := prs_B z; unfold pSbL; omega
      refine ⟨_, head (some (.int (nI 0)), M1) (by rw [zC1_some, if_pos rfl]), M1, false, rfl, fun _ => b2, (fun z => by cases z), ⟨(b3.1 411 1 (by unfold pRw; omega)).trans hS.1.2.2.1, fun r hr => (b3.1 544 r (by unfold pRw; omega)).trans (hS.1.2.2.2 r hr)⟩, hGf b3 hG (fun a k z => by unfold pRw at z; omega) fun _ _ z => z, fb⟩
    · have f1 : fr (pRw 0) pSl M M1 := b4.mono (fun _ _ z => z) fun _ _ z => Or.inl z
      have fb : fr pSb pSbL M M1 := b4.mono (fun a k z => by unfold pRw at z; unfold pSb; omega) fun a k z => by have := prs_B z; unfold pSbL; omega
      have hm1 : MI b mk L M1 := hS.2.2.fr fun a k ha => b4.2 a k fun z => by have := prs_B z; omega
      have hS1 := hS.fr hW hq2 f1 (fun a k z => by unfold pRw at z; omega) hm1
      have hG1 := hGf b4 hG (fun a k z => by unfold pRw at z; omega) fun _ _ z => z
      obtain ⟨v, M2, c1, c2, c3⟩ := q_sumsFit (d := d + 1) hq hq2 hW b3.1.1.2 hS1.1.1.1 hS1.1.2.2 b2
      have fb2 : fr pSb pSbL M1 M2 := c3.mono (fun a k z => by unfold pEq at z; unfold pSb; omega) fun _ _ z => z.elim
      have hG2 := hGf c3 hG1 (fun a k z => by unfold pEq at z; omega) fun _ _ z => z.elim
      have hP2 : SPl b M2 := ⟨(c3.1 411 1 (by unfold pEq; omega)).trans hS1.1.2.2.1, fun r hr => (c3.1 544 r (by unfold pEq; omega)).trans (hS1.1.2.2.2 r hr)⟩
      refine ⟨(some (.int (nB v)), M2), head _ ?_, M2, v, rfl, fun hv => by rw [← b3.1.2.2]; exact c2 hv, fun _ => ⟨ms, ⟨⟨⟨hS1.1.1.1.fr c3 h12 (fun a x z => by unfold pEq at z; omega) fun a x z => z.elim, fun c hc => (c3.1 545 c (by unfold pEq; omega)).trans (hS1.1.1.2 c hc)⟩, srl_fr2 hS1.1.2.1 h12 (c3.mono (fun _ _ z => z) fun _ _ z => z.elim) (fun a x z => by unfold pEq at z; omega), hP2⟩, ⟨hG2.1.2, (c3.1 411 5 (by unfold pEq; omega)).trans hS1.2.1.2⟩, hm1.fr fun a k _ => c3.2 a k fun z => z⟩, fun c hc => (c3.1 (547 + 0) c (by unfold pEq; omega)).trans (b2 c hc), inv_start b3, b3.1.2.2⟩, hP2, hG2, fb.trans fb2⟩
      rw [zC1_some, if_neg (show ¬ nI 1 = nI 0 by decide), c1, zC1_some]
      cases v with
      | false => rw [if_pos (show nB false = nI 0 from rfl)]; rfl
      | true => rw [if_neg (show ¬ nB true = nI 0 by decide)]; rfl
  | succ n ih =>
    intro p h hz
    have hp : p < openN b := by omega
    obtain ⟨o1, o2⟩ := opA_mem hp
    have hm := mv_lt hM hW.1.2.2.1 o1
    have head : ∀ rr, (if nI (mk (opA b p)) = nI 0 then some (some (.int (nI 0)), M) else h_S_begin_62 (d + 4) q (nI (p + 1)) M) = some rr → h_S_begin_62 (d + 4) q (nI p) M = some rr := fun rr hrr => by
      refine e_S_begin_62 hq ?_
      have hR0 : M.1 547 (opA b p) = nI (mk (opA b p)) := hR _ o1
      rw [hS.1.2.2.1, if_pos ((n_lt (by omega) (by omega)).mpr hp), if_pos ((n_zin (by omega)).mpr (by omega)), n_clamp (by omega), hS.1.2.2.2 p hp, if_pos ((n_zin (by omega)).mpr o1), n_clamp (by omega), hR0, n_add1]
      exact hrr
    by_cases h0 : mk (opA b p) = 0
    · refine ⟨_, head (some (.int (nI 0)), M) (by rw [h0, if_pos rfl]), M, false, rfl, fun _ => ?_, (fun z => by cases z), hS.1.2.2, hG, fr.refl⟩
      cases hL : SL b mk with
      | nil => rfl
      | cons g G =>
        have hg : g ∈ SL b mk := by rw [hL]; exact List.mem_cons_self
        obtain ⟨x, x1, x2, x3⟩ := (sl_mem.mp hg).1.2 _ o2
        rw [h0, Nat.zero_testBit] at x2
        cases x2
    · obtain ⟨rr, a1, a2⟩ := ih (p + 1) (by omega) (fun p' hp' => by
        by_cases e : p' = p
        · rw [e]; exact h0
        · exact hz p' (by omega))
      exact ⟨rr, head _ (by rw [if_neg (by rw [n_eq (by omega) (by omega)]; exact h0)]; exact a1), a2⟩
end QB2
