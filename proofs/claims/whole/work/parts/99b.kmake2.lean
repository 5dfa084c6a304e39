/-! THE CLASS, 52: digits drawn -/
def pKn (p : Nat) : Nat → Nat → Prop := fun a k => (a = 636 ∨ a = 637) ∧ k = p
def pKd : Nat → Nat → Prop := fun a _ => 632 ≤ a ∧ a ≤ 637
theorem KPl.fr {b : Nat → Nat} {p p2 : Nat → Nat → Prop} {M M' : ZM} (h : KPl b M) (hf : fr p p2 M M') (hp : ∀ a k, p a k → ¬ (a = 632 ∧ k = 2) ∧ a ≠ 633 ∧ a ≠ 634) : KPl b M' :=
  ⟨(hf.1 632 2 fun z => (hp _ _ z).1 ⟨rfl, rfl⟩).trans h.1, fun r hr => ⟨(hf.1 633 r fun z => (hp _ _ z).2.1 rfl).trans (h.2 r hr).1, (hf.1 634 r fun z => (hp _ _ z).2.2 rfl).trans (h.2 r hr).2⟩⟩
def TnR (b : Nat → Nat) (p be : Nat) (M' : ZM) : Option Nat → Prop
  | some y => M'.1 636 p = nI (y + 1) ∧ M'.1 637 p = nI (1 + (be + y) % b 2)
  | none => M'.1 636 p = nI (b 2)
section QK4
variable {d : Nat} {b : Nat → Nat} {q : Nat}
theorem q_tryNext_0 (hW : Wf b) (h2 : 0 < b 2) {mk : Nat → Nat} {p be : Nat} (hp : p < openN b) (hbe : be < b 2) (hz : ∀ c, c < 36 → (∀ q, q < p → c ≠ opA b q) → mk c = 0) (hd : ∀ q, q < p → mk (opA b q) < 8) : ∀ j t (M : ZM), t + j = b 2 → KPl b M → M.1 635 p = nI be → M.1 636 p = nI t → (∀ q, q < p → M.1 637 q = nI (mk (opA b q))) → ∃ M', h_K_tryNext_0 (d + 1) (nI p) (nI (b 2)) M = some (some (.int (nB ((List.range' t j).find? fun y => !tw b mk (opA b p) (1 + (be + y) % b 2)).isSome)), M') ∧ frI (pKn p) M M' ∧ TnR b p be M' ((List.range' t j).find? fun y => !tw b mk (opA b p) (1 + (be + y) % b 2)) := by
  have h16 := hW.2.2.2.2.1
  have h27 := hW.1.2.2.1
  intro j
  induction j with
  | zero =>
    intro t M h hP h5 h6 h7
    refine ⟨M, e_K_tryNext_0 ?_, fr.refl, ?_⟩
    · rw [if_pos ((n_zin (by omega)).mpr (by omega)), n_clamp (by omega), h6, if_neg (by rw [n_lt (by omega) (by omega)]; omega)]
      rfl
    · show M.1 636 p = nI (b 2)
      rw [h6, show t = b 2 by omega]
  | succ j ih =>
    intro t M h hP h5 h6 h7
    have hmod : (be + t) % b 2 < b 2 := Nat.mod_lt _ h2
    have hmt := may_tw (x := 1 + (be + t) % b 2) hW hp (by omega) hz
    have f1 : frI (pKn p) M (zpi M 636 p (nI (t + 1))) := fr.refl.pi ⟨Or.inl rfl, rfl⟩
    have hP1 : KPl b (zpi M 636 p (nI (t + 1))) := hP.fr f1 fun a k z => by unfold pKn at z; omega
    have hms : zEv (d + 1) zmK_mayStand [.ref 632, .int (nI p), .int (nI ((be + t) % b 2 + 1))] (zpi M 636 p (nI (t + 1))) = some (some (.int (nB (!tw b mk (opA b p) (1 + (be + t) % b 2)))), zpi M 636 p (nI (t + 1))) := by
      refine e_K_mayStand ?_
      have := q_mayStand_2 (d := d) (M := zpi M 636 p (nI (t + 1))) (p := p) (x := 1 + (be + t) % b 2) (u := ulB b p) (g := fun a => mk (opA b a)) (by omega) (by omega) (hP1.2 p hp).2 (fun a ha => ⟨by rw [m_pi, if_neg (by omega)]; exact h7 a ha, hd a ha⟩) p 0 (by omega)
      rw [hmt, Nat.add_comm 1] at this
      rw [Nat.add_comm 1]
      exact this
    have head : ∀ rr, (if nB (!tw b mk (opA b p) (1 + (be + t) % b 2)) = nI 0 then h_K_tryNext_0 (d + 1) (nI p) (nI (b 2)) (zpi M 636 p (nI (t + 1))) else some (some (.int (nI 1)), zpi (zpi M 636 p (nI (t + 1))) 637 p (nI ((be + t) % b 2 + 1)))) = some rr → h_K_tryNext_0 (d + 1) (nI p) (nI (b 2)) M = some rr := fun rr hrr => by
      refine e_K_tryNext_0 ?_
      rw [if_pos ((n_zin (by omega)).mpr (by omega)), n_clamp (by omega), h6, if_pos ((n_lt (by omega) (by omega)).mpr (by omega)), if_pos ((n_lt (by omega) (by omega)).mpr h2), if_neg (by rw [n_eq (by omega) (by omega)]; omega), zLr, h5, n_add, n_rem (by omega) (by omega), n_add1, n_add1, hms, zC1_some]
      exact hrr
    rw [List.range'_succ, List.find?_cons]
    cases htw : tw b mk (opA b p) (1 + (be + t) % b 2) with
    | true =>
      obtain ⟨M', a1, a2, a3⟩ := ih (t + 1) (zpi M 636 p (nI (t + 1))) (by omega) hP1 (by rw [m_pi, if_neg (by omega)]; exact h5) (by rw [m_pi, if_pos ⟨rfl, rfl⟩]) (fun q hq => by rw [m_pi, if_neg (by omega)]; exact h7 q hq)
      refine ⟨M', head _ ?_, f1.trans a2, a3⟩
      rw [htw, if_pos (show nB (!true) = nI 0 by decide)]
      exact a1
    | false =>
      refine ⟨_, head (some (.int (nI 1)), zpi (zpi M 636 p (nI (t + 1))) 637 p (nI ((be + t) % b 2 + 1))) ?_, f1.pi ⟨Or.inr rfl, rfl⟩, ?_, ?_⟩
      · rw [htw, if_neg (show ¬ nB (!false) = nI 0 by decide)]
      · rw [m_pi, if_neg (by omega), m_pi, if_pos ⟨rfl, rfl⟩]
      · rw [m_pi, if_pos ⟨rfl, rfl⟩, Nat.add_comm 1]
def KFD (b : Nat → Nat) (e p : Nat) (x : Int32) (dr : Nat) (be tr mk : Nat → Nat) (M : ZM) : Prop :=
  ((M.1 632 0 = x ∧ M.1 632 1 = nI dr) ∧ KPl b M) ∧ (∀ r, r < e → (M.1 635 r = nI (be r) ∧ be r < b 2) ∧ M.1 636 r = nI (tr r) ∧ tr r ≤ b 2) ∧ (∀ r, r < p → M.1 637 r = nI (mk (opA b r)) ∧ 1 ≤ mk (opA b r) ∧ mk (opA b r) ≤ 7) ∧ ∀ c, c < 36 → (∀ r, r < p → c ≠ opA b r) → c ≠ opA b p → mk c = 0
def DgR (b : Nat → Nat) (M M' : ZM) (o : Option (Nat → Nat)) : Prop := frI pKd M M' ∧ ∀ g, o = some g → (∀ r, r < openN b → M'.1 637 r = nI (g (opA b r)) ∧ 1 ≤ g (opA b r) ∧ g (opA b r) ≤ 7) ∧ KPl b M'
theorem q_draw_58 (hq : zkd q = (10, 0)) (hW : Wf b) (h2 : 0 < b 2) (hq2 : q + 18 < 126) {f : Nat} (hf : f + 1 ≤ 18000) (ih : ∀ (x : Int32) (dr p : Nat) (co : Bool) (be tr mk : Nat → Nat) (M : ZM), p ≤ openN b → (co = false → p < openN b) → dr ≤ 2000 → BRep b q M → KFD b (p + bif co then 0 else 1) p x dr be tr mk M → ∃ M', h_K_drawDigits_23 (d + 2) q (nI p) (nB co) (nI (18000 - f)) M = some (some (.int (nB (fdG b f x dr p co be tr mk).isSome)), M') ∧ DgR b M M' (fdG b f x dr p co be tr mk)) {x : Int32} {dr p : Nat} {be tr mk : Nat → Nat} {M : ZM} (hp : p < openN b) (hdr : dr ≤ 2000) (hB : BRep b q M) (hK : KFD b (p + 1) p x dr be tr mk M) : ∃ M', h_K_drawDigits_58 (d + 2) q (nI p) (nI (18000 - (f + 1))) M = some (some (.int (nB (fdH b (fdG b f) x dr p be tr mk).isSome)), M') ∧ DgR b M M' (fdH b (fdG b f) x dr p be tr mk) := by
  have h16 := hW.2.2.2.2.1
  have h27 := hW.1.2.2.1
  have h12 := hW.1.2.2.2
  obtain ⟨⟨⟨k0, k1⟩, kP⟩, kT, kD, kZ⟩ := hK
  obtain ⟨t1, t2, t3⟩ := kT p (by omega)
  have hne : ∀ r, r < p → opA b r ≠ opA b p := fun r hr e => by have := opA_inj (by omega) hp e; omega
  obtain ⟨M1, a1, a2, a3⟩ := q_tryNext_0 (d := d) (mk := upN mk (opA b p) 0) hW h2 hp t1.2 (fun c hc hh => by
    by_cases e : c = opA b p
    · rw [e, upN_at]
    · rw [upN_ne e]; exact kZ c hc hh e) (fun r hr => by rw [upN_ne (hne r hr)]; have := (kD r hr).2; omega) (b 2 - tr p) (tr p) M (by omega) kP t1.1 t2 (fun r hr => by rw [upN_ne (hne r hr)]; exact (kD r hr).1)
  have hB1 := hB.fr a2 h12 (fun a x z => by unfold pKn at z; omega) fun a x z => z.elim
  have kP1 : KPl b M1 := kP.fr a2 fun a k z => by unfold pKn at z; omega
  have g2 : ∀ k, M1.1 632 k = M.1 632 k := fun k => a2.1 632 k fun z => by unfold pKn at z; omega
  have g5 : ∀ k, M1.1 635 k = M.1 635 k := fun k => a2.1 635 k fun z => by unfold pKn at z; omega
  have g6 : ∀ k, k ≠ p → M1.1 636 k = M.1 636 k := fun k hk => a2.1 636 k fun z => hk z.2
  have g7 : ∀ k, k ≠ p → M1.1 637 k = M.1 637 k := fun k hk => a2.1 637 k fun z => hk z.2
  have f1 : frI pKd M M1 := a2.mono (fun a k z => by unfold pKn at z; unfold pKd; omega) fun _ _ z => z
  have e1 : zEv (d + 2) zmK_tryNext [.ref 632, .int (nI p), .int (nI (b 2))] M = some (some (.int (nB (nxt b (upN mk (opA b p) 0) (opA b p) (be p) (tr p)).isSome)), M1) := e_K_tryNext a1
  have a3 : TnR b p (be p) M1 (nxt b (upN mk (opA b p) 0) (opA b p) (be p) (tr p)) := a3
  have hB2 : M.1 q 2 = nI (b 2) := hB.1.2.1
  unfold fdH
  cases hn : nxt b (upN mk (opA b p) 0) (opA b p) (be p) (tr p) with
  | some t =>
    rw [hn] at e1 a3
    have ht := List.mem_of_find?_eq_some hn
    rw [List.mem_range'_1] at ht
    have hmod : (be p + t) % b 2 < b 2 := Nat.mod_lt _ h2
    obtain ⟨M', c1, c2, c3⟩ := ih x dr (p + 1) true be (upN tr p (t + 1)) (upN (upN mk (opA b p) 0) (opA b p) (1 + (be p + t) % b 2)) M1 (by omega) (fun z => by cases z) hdr hB1 ⟨⟨⟨(g2 0).trans k0, (g2 1).trans k1⟩, kP1⟩, fun r hr => by
        have hr : r < p + 1 := hr
        by_cases e : r = p
        · rw [e, upN_at, g5]
          exact ⟨t1, a3.1, by omega⟩
        · rw [upN_ne e, g5, g6 r e]
          exact kT r hr, fun r hr => by
        by_cases e : r = p
        · rw [e, upN_at]
          exact ⟨a3.2, by omega, by omega⟩
        · have := hne r (by omega)
          rw [upN_ne this, upN_ne this, g7 r e]
          exact kD r (by omega), fun c hc hh _ => by
        have := hh p (by omega)
        rw [upN_ne this, upN_ne this]
        exact kZ c hc (fun r hr => hh r (by omega)) this⟩
    refine ⟨M', e_K_drawDigits_58 hq ?_, f1.trans c2, c3⟩
    rw [hB2, e1, zC1_some, if_neg (show ¬ nB (some t).isSome = nI 0 from (by decide : ¬ nB true = nI 0)), n_add1, if_neg (by rw [n_lt (by omega) (by omega)]; omega), n_add1, show 18000 - (f + 1) + 1 = 18000 - f by omega]
    exact c1
  | none =>
    rw [hn] at e1 a3
    by_cases h0 : p = 0
    · subst h0
      refine ⟨M1, e_K_drawDigits_58 hq ?_, f1, fun g hg => by cases hg⟩
      rw [hB2, e1, zC1_some, if_pos (by rfl), if_pos (by decide)]
      rfl
    · obtain ⟨M', c1, c2, c3⟩ := ih x dr (p - 1) false be (upN tr p (b 2)) (upN mk (opA b p) 0) M1 (by omega) (fun _ => by omega) hdr hB1 ⟨⟨⟨(g2 0).trans k0, (g2 1).trans k1⟩, kP1⟩, fun r hr => by
          have hr : r < p - 1 + 1 := hr
          rw [upN_ne (show r ≠ p by omega), g5, g6 r (by omega)]
          exact kT r (by omega), fun r hr => by
          rw [upN_ne (hne r (by omega)), g7 r (by omega)]
          exact kD r (by omega), fun c hc hh h3 => by
          by_cases e : c = opA b p
          · rw [e, upN_at]
          · rw [upN_ne e]
            refine kZ c hc (fun r hr => ?_) e
            by_cases e2 : r = p - 1
            · rw [e2]; exact h3
            · exact hh r (by omega)⟩
      simp only [if_neg h0]
      refine ⟨M', e_K_drawDigits_58 hq ?_, f1.trans c2, c3⟩
      rw [hB2, e1, zC1_some, if_pos (by rfl), n_dec (by omega), if_neg (by rw [n_lt (by omega) (by omega)]; omega), n_add1, show 18000 - (f + 1) + 1 = 18000 - f by omega]
      exact c1
theorem q_draw_23 (hq : zkd q = (10, 0)) (hW : Wf b) (h2 : 0 < b 2) (hq2 : q + 18 < 126) : ∀ f, f ≤ 18000 → ∀ (x : Int32) (dr p : Nat) (co : Bool) (be tr mk : Nat → Nat) (M : ZM), p ≤ openN b → (co = false → p < openN b) → dr ≤ 2000 → BRep b q M → KFD b (p + bif co then 0 else 1) p x dr be tr mk M → ∃ M', h_K_drawDigits_23 (d + 2) q (nI p) (nB co) (nI (18000 - f)) M = some (some (.int (nB (fdG b f x dr p co be tr mk).isSome)), M') ∧ DgR b M M' (fdG b f x dr p co be tr mk) := by
  have h16 := hW.2.2.2.2.1
  have h27 := hW.1.2.2.1
  have h12 := hW.1.2.2.2
  intro f
  induction f with
  | zero =>
    intro hf x dr p co be tr mk M hp hco hdr hB hK
    by_cases hpe : openN b ≤ p
    · have e : fdG b 0 x dr p co be tr mk = some mk := if_pos hpe
      rw [e]
      refine ⟨M, e_K_drawDigits_23 hq ?_, fr.refl, fun g hg => by cases hg; exact ⟨fun r hr => hK.2.2.1 r (by omega), hK.1.2⟩⟩
      rw [if_neg (by rw [n_lt (by omega) (by omega)]; omega), hK.1.2.1, if_neg (by rw [n_lt (by omega) (by omega)]; omega)]
      rfl
    · have e : fdG b 0 x dr p co be tr mk = none := if_neg hpe
      rw [e]
      refine ⟨M, e_K_drawDigits_23 hq ?_, fr.refl, fun g hg => by cases hg⟩
      rw [if_neg (by rw [n_lt (by omega) (by omega)]; omega), hK.1.2.1, if_pos ((n_lt (by omega) (by omega)).mpr (by omega))]
      rfl
  | succ f ih =>
    intro hf x dr p co be tr mk M hp hco hdr hB hK
    by_cases hpe : openN b ≤ p
    · have e : fdG b (f + 1) x dr p co be tr mk = some mk := if_pos hpe
      rw [e]
      refine ⟨M, e_K_drawDigits_23 hq ?_, fr.refl, fun g hg => by cases hg; exact ⟨fun r hr => hK.2.2.1 r (by omega), hK.1.2⟩⟩
      rw [if_pos ((n_lt (by omega) (by omega)).mpr (by omega)), hK.1.2.1, if_neg (by rw [n_lt (by omega) (by omega)]; omega), if_neg (by rw [n_lt (by omega) (by omega)]; omega)]
      rfl
    · have ih' := ih (by omega)
      cases co with
      | false =>
        have e : fdG b (f + 1) x dr p false be tr mk = fdH b (fdG b f) x dr p be tr mk := by
          show (if openN b ≤ p then _ else _) = _
          rw [if_neg hpe, if_pos rfl]
        rw [e]
        obtain ⟨M', c1, c2⟩ := q_draw_58 (d := d) hq hW h2 hq2 hf ih' (by omega) hdr hB hK
        refine ⟨M', e_K_drawDigits_23 hq ?_, c2⟩
        rw [if_pos ((n_lt (by omega) (by omega)).mpr (by omega)), hK.1.2.1, if_pos ((n_lt (by omega) (by omega)).mpr (by omega)), if_pos (show nB false = nI 0 from rfl)]
        exact c1
      | true =>
        have hB2 : M.1 q 2 = nI (b 2) := hB.1.2.1
        by_cases hd0 : dr = 2000
        · have e : fdG b (f + 1) x dr p true be tr mk = none := by
            show (if openN b ≤ p then _ else _) = _
            rw [if_neg hpe, if_neg (by simp), if_pos hd0]
          rw [e]
          have hdw : zEv (d + 2) zmK_draw [.ref 632, .int (nI p), .int (nI (b 2))] M = some (some (.int (nI 0)), M) := by
            refine e_K_draw ?_
            rw [hK.1.1.2, hd0, if_neg (by decide)]
          refine ⟨M, e_K_drawDigits_23 hq ?_, fr.refl, fun g hg => by cases hg⟩
          rw [if_pos ((n_lt (by omega) (by omega)).mpr (by omega)), hK.1.2.1, if_pos ((n_lt (by omega) (by omega)).mpr (by omega)), if_neg (show ¬ nB true = nI 0 by decide), hB2, hdw, zC1_some, if_pos rfl]
          rfl
        · have e : fdG b (f + 1) x dr p true be tr mk = fdH b (fdG b f) (drw x) (dr + 1) p (upN be p (drD (drw x) (b 2))) (upN tr p 0) mk := by
            show (if openN b ≤ p then _ else _) = _
            rw [if_neg hpe, if_neg (by simp), if_neg hd0]
          rw [e]
          obtain ⟨⟨⟨k0, k1⟩, kP⟩, kT, kD, kZ⟩ := hK
          have hxl : (drw x).toUInt32.toNat < 4294967296 := (drw x).toUInt32.toNat_lt
          have hdw : zEv (d + 2) zmK_draw [.ref 632, .int (nI p), .int (nI (b 2))] M = some (some (.int (nI 1)), zpi (zpi (zpi (zpi M 632 1 (nI (dr + 1))) 632 0 (drw x)) 635 p (nI (drD (drw x) (b 2)))) 636 p (nI 0)) := by
            refine e_K_draw ?_
            have e0 : (zpi M 632 1 (nI (dr + 1))).1 632 0 = x := by rw [m_pi, if_neg (by omega)]; exact k0
            rw [k1, if_pos ((n_lt (by omega) (by omega)).mpr (by omega)), if_neg (by rw [n_lt (by omega) (by omega)]; omega), if_neg (by rw [n_eq (by omega) (by omega)]; omega), if_pos ((n_zin (by omega)).mpr (by omega)), n_clamp (by omega), zLr, n_add1, e0, show x * nI 1103515245 + nI 12345 = drw x from rfl, m_pi, if_pos ⟨rfl, rfl⟩, n_ush16, n_rem (by omega) (by omega)]
            rfl
          have f2 : frI (fun a k => (a = 632 ∧ (k = 0 ∨ k = 1)) ∨ ((a = 635 ∨ a = 636) ∧ k = p)) M (zpi (zpi (zpi (zpi M 632 1 (nI (dr + 1))) 632 0 (drw x)) 635 p (nI (drD (drw x) (b 2)))) 636 p (nI 0)) := (((fr.refl.pi (Or.inl ⟨rfl, Or.inr rfl⟩)).pi (Or.inl ⟨rfl, Or.inl rfl⟩)).pi (Or.inr ⟨Or.inl rfl, rfl⟩)).pi (Or.inr ⟨Or.inr rfl, rfl⟩)
          have hB' := hB.fr f2 h12 (fun a x z => by omega) fun a x z => z.elim
          have v0 : (zpi (zpi (zpi (zpi M 632 1 (nI (dr + 1))) 632 0 (drw x)) 635 p (nI (drD (drw x) (b 2)))) 636 p (nI 0)).1 632 0 = drw x := by
            rw [m_pi, if_neg (by omega), m_pi, if_neg (by omega), m_pi, if_pos ⟨rfl, rfl⟩]
          have v1 : (zpi (zpi (zpi (zpi M 632 1 (nI (dr + 1))) 632 0 (drw x)) 635 p (nI (drD (drw x) (b 2)))) 636 p (nI 0)).1 632 1 = nI (dr + 1) := by
            rw [m_pi, if_neg (by omega), m_pi, if_neg (by omega), m_pi, if_neg (by omega), m_pi, if_pos ⟨rfl, rfl⟩]
          have v5 : (zpi (zpi (zpi (zpi M 632 1 (nI (dr + 1))) 632 0 (drw x)) 635 p (nI (drD (drw x) (b 2)))) 636 p (nI 0)).1 635 p = nI (drD (drw x) (b 2)) := by
            rw [m_pi, if_neg (by omega), m_pi, if_pos ⟨rfl, rfl⟩]
          have v6 : (zpi (zpi (zpi (zpi M 632 1 (nI (dr + 1))) 632 0 (drw x)) 635 p (nI (drD (drw x) (b 2)))) 636 p (nI 0)).1 636 p = nI 0 := by
            rw [m_pi, if_pos ⟨rfl, rfl⟩]
          generalize zpi (zpi (zpi (zpi M 632 1 (nI (dr + 1))) 632 0 (drw x)) 635 p (nI (drD (drw x) (b 2)))) 636 p (nI 0) = M2 at hdw f2 hB' v0 v1 v5 v6
          obtain ⟨M', c1, c2, c3⟩ := q_draw_58 (d := d) hq hW h2 hq2 hf ih' (x := drw x) (dr := dr + 1) (p := p) (be := upN be p (drD (drw x) (b 2))) (tr := upN tr p 0) (mk := mk) (M := M2) (by omega) (by omega) hB' ⟨⟨⟨v0, v1⟩, kP.fr f2 fun a k z => by omega⟩, fun r hr => by
              by_cases e : r = p
              · rw [e, upN_at, upN_at]
                exact ⟨⟨v5, Nat.mod_lt _ h2⟩, v6, Nat.zero_le _⟩
              · rw [upN_ne e, upN_ne e, f2.1 635 r (by omega), f2.1 636 r (by omega)]
                exact kT r (by show r < p + 0; omega), fun r hr => by
              rw [f2.1 637 r (by omega)]; exact kD r hr, kZ⟩
          refine ⟨M', e_K_drawDigits_23 hq ?_, (f2.mono (fun a k z => by unfold pKd; omega) fun _ _ z => z).trans c2, c3⟩
          rw [if_pos ((n_lt (by omega) (by omega)).mpr (by omega)), kP.1, if_pos ((n_lt (by omega) (by omega)).mpr (by omega)), if_neg (show ¬ nB true = nI 0 by decide), hB2, hdw, zC1_some, if_neg (show ¬ nI 1 = nI 0 by decide)]
          exact c1
theorem q_drawDigits (hq : zkd q = (10, 0)) (hW : Wf b) (h2 : 0 < b 2) (hq2 : q + 18 < 126) {M : ZM} (hB : BRep b q M) (x : Int32) : ∃ M', zEv (d + 5) zmK_drawDigits [.ref 632, .ref q, .int x] M = some (some (.int (nB (fdD b x).isSome)), M') ∧ DgR b M M' (fdD b x) := by
  have h12 := hW.1.2.2.2
  have f0 : frI pKd M (zpi (zpi M 632 0 x) 632 1 (nI 0)) := (fr.refl.pi (by unfold pKd; omega)).pi (by unfold pKd; omega)
  obtain ⟨M1, a1, a2, a3⟩ := q_KlayOut (d := d) hq hq2 hW (hB.fr f0 h12 (fun a x z => by unfold pKd at z; omega) fun a x z => z.elim)
  have f1 : frI pKd M M1 := f0.trans (a3.mono (fun a k z => by unfold pKp at z; unfold pKd; omega) fun _ _ z => z)
  have hB1 := hB.fr f1 h12 (fun a x z => by unfold pKd at z; omega) fun a x z => z.elim
  obtain ⟨M', c1, c2, c3⟩ := q_draw_23 (d := d + 2) hq hW h2 hq2 18000 (Nat.le_refl _) x 0 0 true (fun _ => 0) (fun _ => 0) (fun _ => 0) M1 (Nat.zero_le _) (fun z => by cases z) (Nat.zero_le _) hB1 ⟨⟨⟨by rw [a3.1 632 0 (by unfold pKp; omega), m_pi, if_neg (by omega), m_pi, if_pos ⟨rfl, rfl⟩], by rw [a3.1 632 1 (by unfold pKp; omega), m_pi, if_pos ⟨rfl, rfl⟩]⟩, a2⟩, fun r hr => absurd hr (Nat.not_lt_zero r), fun r hr => absurd hr (Nat.not_lt_zero r), fun _ _ _ _ => rfl⟩
  refine ⟨M', e_K_drawDigits hq ?_, f1.trans c2, c3⟩
  rw [a1, zC0_some]
  exact c1
end QK4
