/-! THE CLASS, 7: its tape -/
def CTp (tp : List Nat) (M : ZM) : Prop := (M.1 65 1 = nI tp.length ∧ tp.length ≤ 400) ∧ ∀ k, k < tp.length → M.1 66 k = nI (tq tp k) ∧ tq tp k < 256
def pCf : Nat → Nat → Prop := fun a k => (a = 65 ∧ k = 1) ∨ a = 66
def pTc : Nat → Nat → Prop := fun a k => a = 65 ∧ (k = 3 ∨ k = 4)
theorem CTp.fr {tp : List Nat} {p q : Nat → Nat → Prop} {M M' : ZM} (h : CTp tp M) (hf : fr p q M M') (hp : ∀ a k, p a k → a ≠ 66 ∧ ¬ (a = 65 ∧ k = 1)) : CTp tp M' :=
  ⟨⟨(hf.1 65 1 (fun z => (hp _ _ z).2 ⟨rfl, rfl⟩)).trans h.1.1, h.1.2⟩, fun k hk => by rw [hf.1 66 k (fun z => (hp _ _ z).1 rfl)]; exact h.2 k hk⟩
theorem CTp.frT {tp : List Nat} {M M' : ZM} (h : CTp tp M) (hf : frI pTc M M') : CTp tp M' := h.fr hf fun a k z => by unfold pTc at z; omega
theorem ctq_lt {tp : List Nat} {M : ZM} (h : CTp tp M) (k : Nat) : tq tp k < 256 := by
  rcases Nat.lt_or_ge k tp.length with g | g
  · exact (h.2 k g).2
  · unfold tq
    rw [List.getD_eq_getElem?_getD, List.getElem?_eq_none g]
    show 0 < 256
    omega
section QH
variable {d : Nat} {M : ZM} {tp : List Nat} {s : Nat}
theorem q_add1 {M : ZM} {tp : List Nat} (h : CTp tp M) (hl : tp.length < 400) (v : Int32) {sh : Nat} (hs : sh ≤ 24) : ∃ M1, CTp (tp ++ [byt v sh]) M1 ∧ frI pCf M M1 ∧ ∀ r, h_T_add_3 d v (nI sh + (-8 : Int32)) M1 = some r → h_T_add_3 d v (nI sh) M = some r := by
  refine ⟨zpi (zpi M 66 tp.length (nI (byt v sh))) 65 1 (nI (tp.length + 1)), ⟨⟨?_, ?_⟩, fun k hk => ?_⟩, (fr.refl.pi (Or.inr rfl)).pi (Or.inl ⟨rfl, rfl⟩), fun r hr => e_T_add_3 ?_⟩
  · rw [m_pi, if_pos ⟨rfl, rfl⟩, List.length_append]; rfl
  · rw [List.length_append]; show tp.length + 1 ≤ 400; omega
  · rw [List.length_append] at hk
    have hk2 : k < tp.length + 1 := hk
    rw [m_pi, if_neg (by omega), m_pi]
    by_cases e : k = tp.length
    · have e2 : tq (tp ++ [byt v sh]) k = byt v sh := by
        unfold tq
        rw [e, getD_b (Nat.le_refl _), Nat.sub_self]; rfl
      rw [if_pos ⟨rfl, e⟩, e2]
      exact ⟨rfl, byt_lt v sh⟩
    · have e2 : tq (tp ++ [byt v sh]) k = tq tp k := getD_a (by omega)
      rw [if_neg (fun z => e z.2), e2]
      exact h.2 k (by omega)
  · rw [if_neg (by rw [n_lt (by omega) (by omega)]; omega), h.1.1, if_neg (by rw [n_lt (by omega) (by omega)]; omega), if_pos ((n_lt (by omega) (by omega)).mpr hl), if_pos ((n_zin (by omega)).mpr hl), n_clamp (by omega), n_byt1 v sh hs, zLr, m_pi, if_neg (by omega), h.1.1, n_add1]
    exact hr
theorem q_add {M : ZM} {tp : List Nat} (h : CTp tp M) (hl : tp.length + 4 ≤ 400) (v : Int32) : ∃ M', zEv (d + 1) zmT_add [.ref 65, .int v] M = some (none, M') ∧ CTp (tp ++ byts v) M' ∧ frI pCf M M' := by
  obtain ⟨M1, a1, a2, a3⟩ := q_add1 (d := d) h (by omega) v (sh := 24) (by omega)
  obtain ⟨M2, b1, b2, b3⟩ := q_add1 (d := d) a1 (by rw [List.length_append]; show tp.length + 1 < 400; omega) v (sh := 16) (by omega)
  obtain ⟨M3, c1, c2, c3⟩ := q_add1 (d := d) b1 (by rw [List.length_append, List.length_append]; show tp.length + 1 + 1 < 400; omega) v (sh := 8) (by omega)
  obtain ⟨M4, e1, e2, e3⟩ := q_add1 (d := d) c1 (by rw [List.length_append, List.length_append, List.length_append]; show tp.length + 1 + 1 + 1 < 400; omega) v (sh := 0) (by omega)
  have g4 : h_T_add_3 d v (nI 0 + (-8 : Int32)) M4 = some (none, M4) := e_T_add_3 (by rw [if_pos (by decide)])
  have g3 := e3 _ g4
  have g2 := c3 _ (show h_T_add_3 d v (nI 8 + (-8 : Int32)) M3 = some (none, M4) from g3)
  have g1 := b3 _ (show h_T_add_3 d v (nI 16 + (-8 : Int32)) M2 = some (none, M4) from g2)
  have g0 := a3 _ (show h_T_add_3 d v (nI 24 + (-8 : Int32)) M1 = some (none, M4) from g1)
  refine ⟨M4, e_T_add g0, ?_, ((a2.trans b2).trans c2).trans e2⟩
  rw [List.append_assoc, List.append_assoc, List.append_assoc] at e1
  exact e1
theorem c_feed (h : CTp tp M) (a b c e g : Int32) : ∃ M', zEv (d + 2) zmC_feed [.ref 64, .int a, .int b, .int c, .int e, .int g] M = some (some (.int (spFeed tp a b c e g).1), M') ∧ CTp (spFeed tp a b c e g).2 M' ∧ frI pCf M M' := by
  have h400 := h.1.2
  have hR : zEv (d + 1) zmT_hasRoom [.ref 65, .int (nI 20)] M = some (some (.int (nB (!decide (380 < tp.length)))), M) := by
    refine e_T_hasRoom ?_
    rw [h.1.1, n_add]
    by_cases hl : 380 < tp.length
    · rw [if_pos ((n_lt (by omega) (by omega)).mpr (by omega)), decide_eq_true hl]; rfl
    · rw [if_neg (by rw [n_lt (by omega) (by omega)]; omega), decide_eq_false hl]; rfl
  unfold spFeed
  by_cases hl : 380 < tp.length
  · rw [if_pos hl]
    refine ⟨M, e_C_feed ?_, h, fr.refl⟩
    rw [hR, zC1_some, decide_eq_true hl, if_pos (by rfl)]
  · rw [if_neg hl]
    have hb : ∀ v, (byts v).length = 4 := fun _ => rfl
    obtain ⟨M1, a1, a2, a3⟩ := q_add (d := d) h (by omega) a
    obtain ⟨M2, b1, b2, b3⟩ := q_add (d := d) a2 (by rw [List.length_append, hb]; omega) b
    obtain ⟨M3, c1, c2, c3⟩ := q_add (d := d) b2 (by rw [List.length_append, List.length_append, hb, hb]; omega) c
    obtain ⟨M4, e1, e2, e3⟩ := q_add (d := d) c2 (by rw [List.length_append, List.length_append, List.length_append, hb, hb, hb]; omega) e
    obtain ⟨M5, g1, g2, g3⟩ := q_add (d := d) e2 (by rw [List.length_append, List.length_append, List.length_append, List.length_append, hb, hb, hb, hb]; omega) g
    refine ⟨M5, e_C_feed ?_, g2, (((a3.trans b3).trans c3).trans e3).trans g3⟩
    rw [hR, zC1_some, decide_eq_false hl, if_neg (by decide), a1, zC0_some, b1, zC0_some, c1, zC0_some, e1, zC0_some, g1, zC0_some, e_T_length (d := d) rfl, zC1_some, g2.1.1]
    rw [List.length_append, List.length_append, List.length_append, List.length_append, List.length_append, hb, hb, hb, hb, hb]
theorem q_cut (h : CTp tp M) (x : Int32) : ∃ M', zEv (d + 1) zmT_cut [.ref 65, .int x] M = some (some (.int (nB (iI x (tp.length + 1)))), M') ∧ CTp (bif iI x (tp.length + 1) then tp.take x.toInt.toNat else tp) M' ∧ frI pCf M M' := by
  have h400 := h.1.2
  cases hx : iI x (tp.length + 1) with
  | false =>
    refine ⟨M, e_T_cut ?_, h, fr.refl⟩
    by_cases h0 : x < nI 0
    · rw [if_pos h0]; rfl
    · rw [if_neg h0, h.1.1, if_pos]
      · rfl
      · rw [Int32.lt_iff_toInt_lt, n_toInt (by omega)] at h0 ⊢
        unfold iI at hx
        rw [decide_eq_true (show 0 ≤ x.toInt by omega), Bool.true_and] at hx
        have := of_decide_eq_false hx
        omega
  | true =>
    obtain ⟨k, hk, rfl⟩ := iI_ex (by omega) hx
    have eT : (nI k).toInt.toNat = k := by rw [n_toInt (by omega)]; rfl
    refine ⟨zpi M 65 1 (nI k), e_T_cut ?_, ⟨⟨?_, ?_⟩, fun i hi => ?_⟩, fr.refl.pi (Or.inl ⟨rfl, rfl⟩)⟩
    · rw [if_neg (by rw [n_lt (by omega) (by omega)]; omega), h.1.1, if_neg (by rw [n_lt (by omega) (by omega)]; omega)]
      rfl
    · show _ = nI (tp.take (nI k).toInt.toNat).length
      rw [m_pi, if_pos ⟨rfl, rfl⟩, eT, List.length_take, Nat.min_eq_left (by omega)]
    · show (tp.take (nI k).toInt.toNat).length ≤ 400
      rw [eT, List.length_take]
      omega
    · have hi2 : i < (tp.take (nI k).toInt.toNat).length := hi
      rw [eT, List.length_take] at hi2
      have e2 : tq (tp.take (nI k).toInt.toNat) i = tq tp i := by
        unfold tq
        rw [eT, List.getD_eq_getElem?_getD, List.getElem?_take_of_lt (by omega), ← List.getD_eq_getElem?_getD]
      show _ = nI (tq (tp.take (nI k).toInt.toNat) i) ∧ tq (tp.take (nI k).toInt.toNat) i < 256
      rw [e2, m_pi, if_neg (by omega)]
      exact h.2 i (by omega)
theorem c_end (h : CTp tp M) (x : Int32) : ∃ M', zEv (d + 2) zmC_end [.ref 64, .int x] M = some (some (.int (spEnd tp x).1), M') ∧ CTp (spEnd tp x).2 M' ∧ frI pCf M M' := by
  obtain ⟨M', a1, a2, a3⟩ := q_cut (d := d) h x
  unfold spEnd
  cases hx : iI x (tp.length + 1) with
  | false =>
    rw [hx] at a1 a2
    refine ⟨M', e_C_end ?_, a2, a3⟩
    rw [a1, zC1_some, if_pos (show nB false = nI 0 from rfl)]
    rfl
  | true =>
    rw [hx] at a1 a2
    refine ⟨M', e_C_end ?_, a2, a3⟩
    rw [a1, zC1_some, if_neg (by decide)]
    rfl
/-! reading -/
theorem q_skip_l : ∀ j s (M : ZM), s + j = tp.length → CTp tp M → M.1 65 3 = nI s → ∃ M', h_T_skipBlanks_0 d M = some (none, M') ∧ M'.1 65 3 = nI (skp tp s) ∧ frI (fun a k => a = 65 ∧ k = 3) M M' := by
  intro j
  induction j with
  | zero =>
    intro s M h hT h3
    have hl := hT.1.2
    refine ⟨M, e_T_skipBlanks_0 ?_, by rw [skp_n (by omega), h3, show tp.length = s by omega], fr.refl⟩
    rw [h3, hT.1.1, if_neg (by rw [n_lt (by omega) (by omega)]; omega)]
  | succ j ih =>
    intro s M h hT h3
    have hl := hT.1.2
    have hs : s < tp.length := by omega
    obtain ⟨h2, h256⟩ := hT.2 s hs
    by_cases h32 : tq tp s = 32
    · have f1 : frI (fun a k => a = 65 ∧ k = 3) M (zpi M 65 3 (nI (s + 1))) := fr.refl.pi ⟨rfl, rfl⟩
      obtain ⟨M', a1, a2, a3⟩ := ih (s + 1) (zpi M 65 3 (nI (s + 1))) (by omega) (hT.fr f1 (fun a k z => by omega)) (by rw [m_pi, if_pos ⟨rfl, rfl⟩])
      rw [skp_b hs h32]
      refine ⟨M', e_T_skipBlanks_0 ?_, a2, f1.trans a3⟩
      rw [h3, hT.1.1, if_pos ((n_lt (by omega) (by omega)).mpr hs), if_pos ((n_zin (by omega)).mpr (by omega)), n_clamp (by omega), h2, h32, if_pos rfl, n_add1]
      exact a1
    · rw [skp_s hs h32]
      refine ⟨M, e_T_skipBlanks_0 ?_, h3, fr.refl⟩
      rw [h3, hT.1.1, if_pos ((n_lt (by omega) (by omega)).mpr hs), if_pos ((n_zin (by omega)).mpr (by omega)), n_clamp (by omega), h2, if_neg (by rw [n_eq (by omega) (by omega)]; exact h32)]
theorem q_skip (hT : CTp tp M) (hs : s ≤ tp.length) (h3 : M.1 65 3 = nI s) : ∃ M', zEv (d + 1) zmT_skipBlanks [.ref 65] M = some (none, M') ∧ M'.1 65 3 = nI (skp tp s) ∧ frI (fun a k => a = 65 ∧ k = 3) M M' := by
  obtain ⟨M', a1, a2⟩ := q_skip_l (d := d) (tp.length - s) s M (by omega) hT h3
  exact ⟨M', e_T_skipBlanks a1, a2⟩
theorem q_isDigitAt (hT : CTp tp M) {k : Nat} (hk : k < 2147483648) : zEv (d + 1) zmT_isDigitAt [.ref 65, .int (nI k)] M = some (some (.int (nB (inB tp k 48 57))), M) := by
  have hl := hT.1.2
  refine e_T_isDigitAt ?_
  unfold inB
  rw [if_neg (by rw [n_lt (by omega) (by omega)]; omega), hT.1.1]
  by_cases h : k < tp.length
  · obtain ⟨h2, h256⟩ := hT.2 k h
    rw [if_pos ((n_lt (by omega) (by omega)).mpr h), if_pos ((n_zin (by omega)).mpr (by omega)), n_clamp (by omega), h2, decide_eq_true h, Bool.true_and]
    by_cases h3 : tq tp k < 48
    · rw [if_pos ((n_lt (by omega) (by omega)).mpr h3), decide_eq_false (by omega)]; rfl
    · rw [if_neg (by rw [n_lt (by omega) (by omega)]; exact h3), decide_eq_true (by omega), Bool.true_and]
      by_cases h4 : 57 < tq tp k
      · rw [if_pos ((n_lt (by omega) (by omega)).mpr h4), decide_eq_false (by omega)]; rfl
      · rw [if_neg (by rw [n_lt (by omega) (by omega)]; exact h4), decide_eq_true (by omega)]; rfl
  · rw [if_neg (by rw [n_lt (by omega) (by omega)]; exact h), decide_eq_false h]; rfl
theorem q_isLetterAt (hT : CTp tp M) {k : Nat} (hk : k < 2147483648) : zEv (d + 1) zmT_isLetterAt [.ref 65, .int (nI k)] M = some (some (.int (nB (inB tp k 97 122))), M) := by
  have hl := hT.1.2
  refine e_T_isLetterAt ?_
  unfold inB
  rw [if_neg (by rw [n_lt (by omega) (by omega)]; omega), hT.1.1]
  by_cases h : k < tp.length
  · obtain ⟨h2, h256⟩ := hT.2 k h
    rw [if_pos ((n_lt (by omega) (by omega)).mpr h), if_pos ((n_zin (by omega)).mpr (by omega)), n_clamp (by omega), h2, decide_eq_true h, Bool.true_and]
    by_cases h3 : tq tp k < 97
    · rw [if_pos ((n_lt (by omega) (by omega)).mpr h3), decide_eq_false (by omega)]; rfl
    · rw [if_neg (by rw [n_lt (by omega) (by omega)]; exact h3), decide_eq_true (by omega), Bool.true_and]
      by_cases h4 : 122 < tq tp k
      · rw [if_pos ((n_lt (by omega) (by omega)).mpr h4), decide_eq_false (by omega)]; rfl
      · rw [if_neg (by rw [n_lt (by omega) (by omega)]; exact h4), decide_eq_true (by omega)]; rfl
  · rw [if_neg (by rw [n_lt (by omega) (by omega)]; exact h), decide_eq_false h]; rfl
theorem q_isEnd (hT : CTp tp M) (hs : s ≤ tp.length) (h3 : M.1 65 3 = nI s) : ∃ M', zEv (d + 2) zmT_isEnd [.ref 65] M = some (some (.int (nB (!decide (skp tp s < tp.length)))), M') ∧ M'.1 65 3 = nI (skp tp s) ∧ frI (fun a k => a = 65 ∧ k = 3) M M' := by
  have hl := hT.1.2
  have hle := skp_le hs
  obtain ⟨M', a1, a2, a3⟩ := q_skip (d := d) hT hs h3
  refine ⟨M', e_T_isEnd ?_, a2, a3⟩
  rw [a1, zC0_some, a2, (hT.fr a3 (fun a k z => by omega)).1.1]
  by_cases h : skp tp s < tp.length
  · rw [if_pos ((n_lt (by omega) (by omega)).mpr h), decide_eq_true h]; rfl
  · rw [if_neg (by rw [n_lt (by omega) (by omega)]; exact h), decide_eq_false h]; rfl
end QH
