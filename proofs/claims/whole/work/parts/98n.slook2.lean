/-! THE CLASS, 50: looks for solutions -/
def pSe : Nat → Nat → Prop := fun a _ => 411 ≤ a ∧ a ≤ 629
theorem MI.gl {b mk : Nat → Nat} {L : Nat} {M : ZM} (h : MI b mk L M) : ∀ s, s < 4096 → ∃ l h : Nat, (M.2 628 s = nJ l ∧ M.2 629 s = nJ h) ∧ l < 9223372036854775808 ∧ h < (L + 1) * 137438953472 := fun s hs => by
  obtain ⟨l, g, g1, g2, _⟩ := h s hs
  exact ⟨l, g, g1, g2⟩
section QN
variable {d : Nat} {b : Nat → Nat} {q e : Nat} {mk : Nat → Nat} {L : Nat} {M : ZM}
theorem q_begin (hq : zkd q = (10, 0)) (hq2 : q + 18 < 126) (he : zkd e = (1, 36)) (he2 : e < 411 ∨ 629 < e) (hW : Wf b) (hM : MV b mk) (hB : BRep b q M) (hG : SGl L M) (hmk : ∀ c, c < 36 → M.1 e c = nI (mk c)) : ∃ rr, zEv (d + 5) zmS_begin [.ref 411, .ref q, .ref e] M = some rr ∧ BgR b q mk (L + 1) M rr := by
  have h12 := hW.1.2.2.2
  have f0 : fr (fun _ _ => False) (fun a k => a = 411 ∧ k = 11) M (zpl M 411 11 (nJ (L + 1))) := fr.refl.pl ⟨rfl, rfl⟩
  obtain ⟨M1, a1, a2, a3, a4, a5⟩ := q_begin_12 (d := d) (e := e) hq hq2 he hW (b 3) 0 (zpl M 411 11 (nJ (L + 1))) (by omega) (hB.fr f0 h12 (fun a x z => z.elim) fun a x z => by omega) (rsi_fr hG.1.1 f0 (fun a k z => z.elim) fun a k z => by omega) (fun j hj => absurd hj (Nat.not_lt_zero j))
  obtain ⟨M2, b1, ⟨b2, b3⟩, b4, b5⟩ := q_layOut (d := d + 1) hq hq2 hW a2
  have f2 : fr (fun a k => ¬ (a = 411 ∧ (k = 9 ∨ k = 10)) ∧ ((411 ≤ a ∧ a ≤ 411) ∨ (424 ≤ a ∧ a ≤ 543) ∨ a = 544 ∨ a = 545)) (fun a k => (a = 411 ∧ k = 11) ∨ (424 ≤ a ∧ a ≤ 543)) M M2 := ((f0.mono (fun _ _ z => z.elim) fun a k z => Or.inl z).trans (a5.mono (fun a k z => by unfold pRl at z; omega) fun a k z => by unfold pRl at z; omega)).trans (b5.mono (fun a k z => by omega) fun _ _ z => z.elim)
  have hB2 : BRep b q M2 := hB.fr f2 h12 (fun a x z => by omega) fun a x z => by omega
  have hL2 : SRl b M2 := a4.fr h12 (b5.mono (fun _ _ z => z) fun _ _ z => z.elim) (fun a x z => by omega)
  have f3 : frI (fun a _ => a = 547) M2 (zsi M2 547 (va_cpy (M2.1 e) (M2.1 547) 0 0 36)) := fr.refl.si fun k => rfl
  have hI3 : RSI 412 (zsi M2 547 (va_cpy (M2.1 e) (M2.1 547) 0 0 36)) := rsi_fr (rsi_fr a3 b5 (fun a k z => by omega) fun a k z => z.elim) f3 (fun a k z => by omega) fun a k z => z.elim
  have hlo : (zsi M2 547 (va_cpy (M2.1 e) (M2.1 547) 0 0 36)).2 411 11 = nJ (L + 1) := by
    show M2.2 411 11 = _
    rw [b5.2 411 11 (fun z => z), a5.2 411 11 (by unfold pRl; omega), m_pl, if_pos ⟨rfl, rfl⟩]
  have hmem : ∀ s, s < 4096 → ∃ l h : Nat, ((zsi M2 547 (va_cpy (M2.1 e) (M2.1 547) 0 0 36)).2 628 s = nJ l ∧ (zsi M2 547 (va_cpy (M2.1 e) (M2.1 547) 0 0 36)).2 629 s = nJ h) ∧ l < 9223372036854775808 ∧ h < (L + 1) * 137438953472 := fun s hs => by
    obtain ⟨l, g, g1, g2⟩ := hG.2 s hs
    refine ⟨l, g, ?_, g2⟩
    show M2.2 628 s = nJ l ∧ M2.2 629 s = nJ g
    rw [f2.2 628 s (by omega), f2.2 629 s (by omega)]
    exact g1
  have hS3 : SSt b q mk (L + 1) (zsi M2 547 (va_cpy (M2.1 e) (M2.1 547) 0 0 36)) := by
    refine ⟨⟨⟨hB2.fr f3 h12 (fun a x z => by omega) fun a x z => z.elim, fun c hc => (f3.1 545 c (by omega)).trans (b3 c hc)⟩, hL2.fr h12 (f3.mono (fun _ _ z => z) fun _ _ z => z.elim) (fun a x z => by omega), (f3.1 411 1 (by omega)).trans b2.1, fun r hr => (f3.1 544 r (by omega)).trans (b2.2 r hr)⟩, ⟨hlo, (f3.1 411 5 (by omega)).trans b4.2⟩, fun s hs => ?_⟩
    obtain ⟨l, g, g1, g2, g3⟩ := hmem s hs
    exact ⟨l, g, g1, ⟨g2, Nat.lt_of_lt_of_le g3 (Nat.mul_le_mul_right _ (Nat.le_succ _))⟩, fun z => absurd g3 (Nat.not_lt.mpr z)⟩
  have hG3 : SGl (L + 1) (zsi M2 547 (va_cpy (M2.1 e) (M2.1 547) 0 0 36)) := ⟨⟨hI3, hlo⟩, fun s hs => by
    obtain ⟨l, g, g1, g2, g3⟩ := hmem s hs
    exact ⟨l, g, g1, g2, Nat.lt_of_lt_of_le g3 (Nat.mul_le_mul_right _ (Nat.le_succ _))⟩⟩
  obtain ⟨rr, c1, M', v, c2, c3, c4, c5, c6, c7⟩ := q_begin_62 (d := d) hq hq2 hW hM hS3 hG3 ((f3.1 411 4 (by omega)).trans b4.1) (fun c hc => by
    show (zsi M2 547 (va_cpy (M2.1 e) (M2.1 547) 0 0 36)).1 547 c = nI (mk c)
    rw [m_six, if_pos rfl, cpy0, if_pos hc, f2.1 e c (by omega)]
    exact hmk c hc) (openN b) 0 (by omega) (fun p hp => absurd hp (Nat.not_lt_zero p))
  refine ⟨rr, e_S_begin hq he ?_, M', v, c2, c3, c4, c5, c6, ((f2.mono (fun a k z => by unfold pSb; omega) fun a k z => by unfold pSbL; omega).trans (f3.mono (fun a k z => by unfold pSb; omega) fun _ _ z => z.elim)).trans c7⟩
  rw [hG.1.2, l_add]
  refine a1 _ (e_S_begin_12 hq he ?_)
  rw [a2.1.2.2, if_neg (by rw [n_lt (by omega) (by omega)]; omega), b1, zC0_some, s_min (by omega) (by omega), zC1_some, show (if (36 : Nat) < 36 then 36 else 36) = 36 from rfl, if_pos (show e ≠ 547 by omega), n_clamp (by omega), if_pos (by decide)]
  exact c1
def LkR (b mk : Nat → Nat) (m L : Nat) (M : ZM) (rr : ZR) : Prop := ∃ M', rr = (some (.int (nI (min m (SL b mk).length))), M') ∧ SolT b ((SL b mk).take m) M' ∧ SPl b M' ∧ SGl (L + 1) M' ∧ fr pSe pSe M M'
theorem q_look (hq : zkd q = (10, 0)) (hq2 : q + 18 < 126) (he : zkd e = (1, 36)) (he2 : e < 411 ∨ 629 < e) (hW : Wf b) (hM : MV b mk) (hB : BRep b q M) (hG : SGl L M) (hL : L + 1 < 1048576) (hmk : ∀ c, c < 36 → M.1 e c = nI (mk c)) {m : Nat} (h1 : 1 ≤ m) (h50 : m ≤ 50) : ∃ rr, zEv (d + 23) zmS_look [.ref 411, .ref q, .ref e, .int (nI m)] M = some rr ∧ LkR b mk m L M rr := by
  have h12 := hW.1.2.2.2
  have f0 : frI (fun a k => a = 411 ∧ (k = 9 ∨ k = 10)) M (zpi (zpi M 411 10 (nI 0)) 411 9 (nI m)) := (fr.refl.pi ⟨rfl, Or.inr rfl⟩).pi ⟨rfl, Or.inl rfl⟩
  obtain ⟨rr1, a1, M1, v, rfl, a3, a4, a5, a6, a7⟩ := q_begin (d := d + 17) (e := e) hq hq2 he he2 hW hM (hB.fr f0 h12 (fun a x z => by omega) fun a x z => z.elim) (⟨⟨rsi_fr hG.1.1 f0 (fun a k z => by omega) fun a k z => z.elim, hG.1.2⟩, hG.2⟩ : SGl L (zpi (zpi M 411 10 (nI 0)) 411 9 (nI m))) (fun c hc => (f0.1 e c (by omega)).trans (hmk c hc))
  have hmax : zEv (d + 22) zmJM_max [.int (nI 1), .int (nI m)] (zpi M 411 10 (nI 0)) = some (some (.int (nI m)), zpi M 411 10 (nI 0)) := by
    refine e_JM_max ?_
    by_cases e1 : m = 1
    · rw [e1, if_neg (by decide)]
    · rw [if_pos ((n_lt (by omega) (by omega)).mpr (by omega))]
  have hmin : zEv (d + 22) zmJM_min [.int (nI 50), .int (nI m)] (zpi M 411 10 (nI 0)) = some (some (.int (nI m)), zpi M 411 10 (nI 0)) := by
    refine e_JM_min ?_
    by_cases e1 : m = 50
    · rw [e1, if_neg (by decide)]
    · rw [if_pos ((n_lt (by omega) (by omega)).mpr (by omega))]
  have h9 : M1.1 411 10 = nI 0 := by
    rw [a7.1 411 10 (by unfold pSb; omega), m_pi, if_neg (by omega), m_pi, if_pos ⟨rfl, rfl⟩]
  have h8 : M1.1 411 9 = nI m := by
    rw [a7.1 411 9 (by unfold pSb; omega), m_pi, if_pos ⟨rfl, rfl⟩]
  have hA : SolT b [] M1 := ⟨⟨h9, by decide⟩, fun j hj => absurd hj (Nat.not_lt_zero j)⟩
  have fe : fr pSe pSe M M1 := (f0.mono (fun a k z => by unfold pSe; omega) fun _ _ z => z.elim).trans (a7.mono (fun a k z => by unfold pSb at z; unfold pSe; omega) fun a k z => by unfold pSbL at z; unfold pSe; omega)
  have head : ∀ rr, (if nB v = nI 0 then some (some (.int (M1.1 411 10)), M1) else zC0 (zEv (d + 22) zmS_gather [.ref 411, .ref q, .int (nI 0)] M1) (fun M12 => some (some (.int (M12.1 411 10)), M12))) = some rr → zEv (d + 23) zmS_look [.ref 411, .ref q, .ref e, .int (nI m)] M = some rr := fun rr hrr => by
    refine e_S_look hq he ?_
    rw [hmin, zC1_some, hmax, zC1_some, a1, zC1_some]
    exact hrr
  cases v with
  | false =>
    have hn := a3 rfl
    refine ⟨_, head (some (.int (nI 0)), M1) (by rw [if_pos (show nB false = nI 0 from rfl), h9]), M1, by rw [hn, List.length_nil, Nat.min_zero], by rw [hn, List.take_nil]; exact hA, a5, a6, fe⟩
  | true =>
    obtain ⟨ms, s1, s2, s3, s4⟩ := a4 rfl
    obtain ⟨rr, b1, M2, rfl, b3, b4, b5⟩ := q_gather (d := d) hq hq2 hW hM hL h50 16 0 ms [] M1 (by omega) s1 s2 s3 (Nat.zero_le _) hA h8 (by rw [List.length_nil]; omega)
    rw [List.nil_append, s4] at b4
    have hlen : ((SL b mk).take m).length = min m (SL b mk).length := List.length_take
    refine ⟨_, head (some (.int (nI (min m (SL b mk).length))), M2) ?_, M2, rfl, b4, ⟨(b5.1 411 1 (by unfold pGa pSo pSt; omega)).trans a5.1, fun r hr => (b5.1 544 r (by unfold pGa pSo pSt; omega)).trans (a5.2 r hr)⟩, ⟨⟨rsi_fr a6.1.1 b5 (fun a k z => by unfold pGa pSo pSt at z; omega) fun a k z => ?_, (b5.2 411 11 fun z => ?_).trans a6.1.2⟩, b3.gl⟩, fe.trans (b5.mono (fun a k z => by unfold pGa pSo pSt at z; unfold pSe; omega) fun a k z => ?_)⟩
    · rw [if_neg (show ¬ nB true = nI 0 by decide)]
      have b1' : zEv (d + 22) zmS_gather [.ref 411, .ref q, .int (nI 0)] M1 = some (none, M2) := b1
      rw [b1', zC0_some, b4.1.1, hlen]
    · rcases z with z | z
      · exact Or.inr z
      · left; omega
    · rcases z with z | z
      · have := prs_B z; omega
      · omega
    · unfold pSe
      rcases z with z | z
      · have := prs_B z; omega
      · omega
def CsR (b mk : Nat → Nat) (L : Nat) (M : ZM) (rr : ZR) : Prop := ∃ M', rr = (some (.int (nB (!(SL b mk).isEmpty))), M') ∧ SGl (L + 1) M' ∧ fr pSe pSe M M'
theorem q_canSolve (hq : zkd q = (10, 0)) (hq2 : q + 18 < 126) (he : zkd e = (1, 36)) (he2 : e < 411 ∨ 629 < e) (hW : Wf b) (hM : MV b mk) (hB : BRep b q M) (hG : SGl L M) (hL : L + 1 < 1048576) (hmk : ∀ c, c < 36 → M.1 e c = nI (mk c)) : ∃ rr, zEv (d + 22) zmS_canSolve [.ref 411, .ref q, .ref e] M = some rr ∧ CsR b mk L M rr := by
  have h12 := hW.1.2.2.2
  have f0 : frI (fun a k => a = 411 ∧ k = 10) M (zpi M 411 10 (nI 0)) := fr.refl.pi ⟨rfl, rfl⟩
  obtain ⟨rr1, a1, M1, v, rfl, a3, a4, a5, a6, a7⟩ := q_begin (d := d + 16) (e := e) hq hq2 he he2 hW hM (hB.fr f0 h12 (fun a x z => by omega) fun a x z => z.elim) (⟨⟨rsi_fr hG.1.1 f0 (fun a k z => by omega) fun a k z => z.elim, hG.1.2⟩, hG.2⟩ : SGl L (zpi M 411 10 (nI 0))) (fun c hc => (f0.1 e c (by omega)).trans (hmk c hc))
  have fe : fr pSe pSe M M1 := (f0.mono (fun a k z => by unfold pSe; omega) fun _ _ z => z.elim).trans (a7.mono (fun a k z => by unfold pSb at z; unfold pSe; omega) fun a k z => by unfold pSbL at z; unfold pSe; omega)
  have head : ∀ rr, (if nB v = nI 0 then some (some (.int (nI 0)), M1) else zC1 (zEv (d + 21) zmS_isSolvable [.ref 411, .ref q, .int (nI 0)] M1) (fun v7 M6 => (if v7 = (nI 0) then some (some (.int (nI 0)), M6) else some (some (.int (nI 1)), M6)))) = some rr → zEv (d + 22) zmS_canSolve [.ref 411, .ref q, .ref e] M = some rr := fun rr hrr => by
    refine e_S_canSolve hq he ?_
    rw [a1, zC1_some]
    exact hrr
  cases v with
  | false =>
    refine ⟨_, head (some (.int (nI 0)), M1) (by rw [if_pos (show nB false = nI 0 from rfl)]), M1, by rw [a3 rfl]; rfl, a6, fe⟩
  | true =>
    obtain ⟨ms, s1, s2, s3, s4⟩ := a4 rfl
    obtain ⟨rr, b1, M2, rfl, b3, b4⟩ := q_isSolvable (d := d) hq hq2 hW hM hL 16 0 ms M1 (by omega) s1 s2 s3 (Nat.zero_le _)
    rw [s4] at b1
    refine ⟨_, head (some (.int (nB (!(SL b mk).isEmpty))), M2) ?_, M2, rfl, ⟨⟨rsi_fr a6.1.1 b4 (fun a k z => by unfold pSo at z; omega) fun a k z => ?_, (b4.2 411 11 fun z => ?_).trans a6.1.2⟩, b3.gl⟩, fe.trans (b4.mono (fun a k z => by unfold pSo at z; unfold pSe; omega) fun a k z => ?_)⟩
    · rw [if_neg (show ¬ nB true = nI 0 by decide)]
      have b1' : zEv (d + 21) zmS_isSolvable [.ref 411, .ref q, .int (nI 0)] M1 = some (some (.int (nB (!(SL b mk).isEmpty))), M2) := b1
      rw [b1', zC1_some]
      cases (SL b mk).isEmpty with
      | true => rw [if_pos (show nB (!true) = nI 0 by decide)]; rfl
      | false => rw [if_neg (show ¬ nB (!false) = nI 0 by decide)]; rfl
    · rcases z with z | z
      · exact Or.inr z
      · left; omega
    · rcases z with z | z
      · have := prs_B z; omega
      · omega
    · unfold pSe
      rcases z with z | z
      · have := prs_B z; omega
      · omega
end QN
