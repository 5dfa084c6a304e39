/-! THE MODEL, 32: digits found -/
theorem n_dec {p : Nat} (h : 0 < p) : nI p + (-1 : Int32) = nI (p - 1) := by
  rw [← n_sub h, Int32.sub_eq_add_neg]
  rfl
theorem zLr {α : Type} {a : α} {k : α → Option ZR} : zL a k = k a := rfl
def pGn (p : Nat) : Nat → Nat → Prop := fun a k => (a = 880 ∧ k = p) ∨ a = 881
theorem frG_Mk {p : Nat} {M M' : ZM} (h : frI (pGn p) M M') : frI pMk M M' := h.mono (fun a k z => by unfold pGn at z; unfold pMk; omega) (fun _ _ z => z)
/-- what the next try leaves -/
def GNx (b mk : Nat → Nat) (c be p : Nat) (M' : ZM) : Option Nat → Prop
  | some y => M'.1 880 p = nI (y + 1) ∧ ∀ c', c' < 36 → M'.1 881 c' = nI (upN mk c (1 + (be + y) % b 2) c')
  | none => M'.1 880 p = nI (b 2) ∧ ∀ c', c' < 36 → M'.1 881 c' = nI (mk c')
section ME
variable {d : Nat} {M : ZM} {b : Nat → Nat}
theorem s_goesNext_l (hW : Wf b) {mk : Nat → Nat} (hm : ∀ c, mk c < 8) {p c be : Nat} (hp : p < 36) (hc : c < 36) (hbe : be < 2147483640) : ∀ j t (M : ZM), t + j = b 2 → MR b M → M.1 879 p = nI be → M.1 880 p = nI t → (∀ c', c' < 36 → M.1 881 c' = nI (mk c')) →
    ∃ M', h_M_goesNext_14 (d + 4) (nI p) (nI c) M = some (some (.int (nB ((List.range' t j).find? fun y => !tw b mk c (1 + (be + y) % b 2)).isSome)), M') ∧ frI (pGn p) M M' ∧ GNx b mk c be p M' ((List.range' t j).find? fun y => !tw b mk c (1 + (be + y) % b 2)) := by
  have h27 := hW.1.2.2.1
  intro j
  induction j with
  | zero =>
    intro t M h hR h879 h880 h881
    obtain rfl : t = b 2 := by omega
    refine ⟨M, e_M_goesNext_14 ?_, fr.refl, h880, h881⟩
    rw [if_pos ((n_zin (by omega)).mpr (by omega)), s_top (d := d + 3) hR, zC1_some, n_clamp (by omega), h880, if_neg (by rw [n_lt (by omega) (by omega)]; omega)]
    rfl
  | succ j ih =>
    intro t M h hR h879 h880 h881
    have hmod : (be + t) % b 2 < b 2 := Nat.mod_lt _ (by omega)
    have r1 : MR b (zpi M 880 p (nI (t + 1))) := fun k hk => by rw [m_pi, if_neg (by omega)]; exact hR k hk
    have g881 : ∀ c', c' < 36 → (zpi M 880 p (nI (t + 1))).1 881 c' = nI (mk c') := fun c' hc' => by rw [m_pi, if_neg (by omega)]; exact h881 c' hc'
    have f0 : frI (pGn p) M (zpi M 880 p (nI (t + 1))) := fr.refl.pi (Or.inl ⟨rfl, rfl⟩)
    have hT := s_isTwice (d := d) r1 hW g881 hm hc (show 1 + (be + t) % b 2 < 2147483648 by omega)
    rw [List.range'_succ, List.find?_cons]
    cases ht : tw b mk c (1 + (be + t) % b 2) with
    | false =>
      refine ⟨zpi (zpi M 880 p (nI (t + 1))) 881 c (nI (1 + (be + t) % b 2)), e_M_goesNext_14 ?_, f0.pi (Or.inr rfl), ?_, fun c' hc' => ?_⟩
      · rw [if_pos ((n_zin (by omega)).mpr (by omega)), s_top (d := d + 3) hR, zC1_some, n_clamp (by omega), h880, if_pos ((n_lt (by omega) (by omega)).mpr (by omega)), s_top (d := d + 3) hR, zC1_some, if_neg (by rw [n_eq (by omega) (by omega)]; omega), h879, n_add, n_rem (by omega) (by omega), n_add, h880, n_add1]
        rw [zLr, hT, zC1_some, ht, if_pos (show nB false = nI 0 from rfl), if_pos ((n_zin (by omega)).mpr (by omega)), n_clamp (by omega)]
        rfl
      · rw [m_pi, if_neg (by omega), m_pi, if_pos ⟨rfl, rfl⟩]
      · rw [m_pi]
        by_cases e : c' = c
        · rw [if_pos ⟨rfl, e⟩, e, upN_at]
        · rw [if_neg (fun z => e z.2), upN_ne e]
          exact g881 c' hc'
    | true =>
      obtain ⟨M', a1, a2, a3⟩ := ih (t + 1) (zpi M 880 p (nI (t + 1))) (by omega) r1 (by rw [m_pi, if_neg (by omega)]; exact h879) (by rw [m_pi, if_pos ⟨rfl, rfl⟩]) g881
      refine ⟨M', e_M_goesNext_14 ?_, f0.trans a2, a3⟩
      rw [if_pos ((n_zin (by omega)).mpr (by omega)), s_top (d := d + 3) hR, zC1_some, n_clamp (by omega), h880, if_pos ((n_lt (by omega) (by omega)).mpr (by omega)), s_top (d := d + 3) hR, zC1_some, if_neg (by rw [n_eq (by omega) (by omega)]; omega), h879, n_add, n_rem (by omega) (by omega), n_add, h880, n_add1]
      rw [zLr, hT, zC1_some, ht, if_neg (by decide)]
      exact a1
theorem s_goesNext (hR : MR b M) (hW : Wf b) {mk : Nat → Nat} (hm : ∀ c, mk c < 8) {p be t : Nat} (hp : p < openN b) (hbe : be < 2147483640) (ht : t ≤ b 2) (h878 : M.1 878 p = nI (opA b p)) (h879 : M.1 879 p = nI be) (h880 : M.1 880 p = nI t) (h881 : ∀ c', c' < 36 → M.1 881 c' = nI (mk c')) :
    ∃ M', zEv (d + 5) zmM_goesNext [.ref 866, .int (nI p)] M = some (some (.int (nB (nxt b (upN mk (opA b p) 0) (opA b p) be t).isSome)), M') ∧ frI (pGn p) M M' ∧ GNx b (upN mk (opA b p) 0) (opA b p) be p M' (nxt b (upN mk (opA b p) 0) (opA b p) be t) := by
  have h16 := hW.2.2.2.2.1
  obtain ⟨hc, hO⟩ := opA_mem hp
  have f0 : frI (pGn p) M (zpi M 881 (opA b p) (nI 0)) := fr.refl.pi (Or.inr rfl)
  obtain ⟨M', a1, a2, a3⟩ := s_goesNext_l (d := d) hW (mk := upN mk (opA b p) 0) (fun c => by
    unfold upN
    by_cases e : c = opA b p
    · rw [if_pos e]; omega
    · rw [if_neg e]; exact hm c) (show p < 36 by omega) hc hbe (b 2 - t) t (zpi M 881 (opA b p) (nI 0)) (by omega) (fun k hk => by rw [m_pi, if_neg (by omega)]; exact hR k hk) (by rw [m_pi, if_neg (by omega)]; exact h879) (by rw [m_pi, if_neg (by omega)]; exact h880) (fun c' hc' => by
      rw [m_pi]
      by_cases e : c' = opA b p
      · rw [if_pos ⟨rfl, e⟩, e, upN_at]
      · rw [if_neg (fun z => e z.2), upN_ne e]
        exact h881 c' hc')
  refine ⟨M', e_M_goesNext ?_, f0.trans a2, a3⟩
  rw [if_pos ((n_zin (by omega)).mpr (by omega)), n_clamp (by omega), h878, if_pos ((n_zin (by omega)).mpr hc), n_clamp (by omega)]
  exact a1
/-- the search's numbers -/
def FDR (b : Nat → Nat) (e : Nat) (x : Int32) (dr : Nat) (be tr mk : Nat → Nat) (M : ZM) : Prop :=
  (M.1 866 24 = x ∧ M.1 866 25 = nI dr ∧ M.1 866 27 = nI (openN b)) ∧ (∀ q, q < openN b → M.1 878 q = nI (opA b q)) ∧ (∀ q, q < e → (M.1 879 q = nI (be q) ∧ be q < b 2) ∧ (M.1 880 q = nI (tr q) ∧ tr q ≤ b 2)) ∧ (∀ c, c < 36 → M.1 881 c = nI (mk c)) ∧ ∀ c, mk c < 8
def FPr (b : Nat → Nat) (d f : Nat) : Prop := ∀ (x : Int32) (dr p : Nat) (co : Bool) (be tr mk : Nat → Nat) (M : ZM), 2 * (2000 - dr) + p + (bif co then 0 else 2) < f → dr ≤ 2000 → p ≤ openN b → (co = false → p < openN b) → MR b M → FDR b (p + bif co then 0 else 1) x dr be tr mk M →
  ∃ M', h_M_findsDigits_18 (d + 5) (nI p) (nB co) M = some (some (.int (nB (fdG b f x dr p co be tr mk).isSome)), M') ∧ frI pMk M M' ∧ ∀ g, fdG b f x dr p co be tr mk = some g → (∀ c, c < 36 → M'.1 881 c = nI (g c)) ∧ ∀ c, g c < 8
theorem s_fd73 (hW : Wf b) (h2 : 0 < b 2) {f : Nat} (ih : FPr b d f) {x : Int32} {dr p : Nat} {be tr mk : Nat → Nat} {M : ZM} (hmu : 2 * (2000 - dr) + p + 1 < f) (hdr : dr ≤ 2000) (hp : p < openN b) (hR : MR b M) (hF : FDR b (p + 1) x dr be tr mk M) :
    ∃ M', h_M_findsDigits_73 (d + 5) (nI p) M = some (some (.int (nB (fdH b (fdG b f) x dr p be tr mk).isSome)), M') ∧ frI pMk M M' ∧ ∀ g, fdH b (fdG b f) x dr p be tr mk = some g → (∀ c, c < 36 → M'.1 881 c = nI (g c)) ∧ ∀ c, g c < 8 := by
  have h16 := hW.2.2.2.2.1
  have h27 := hW.1.2.2.1
  obtain ⟨⟨k24, k25, k27⟩, k878, kT, k881, km⟩ := hF
  have kp := kT p (by omega)
  obtain ⟨M1, a1, a2, a3⟩ := s_goesNext (d := d) hR hW km hp (show be p < 2147483640 by omega) kp.2.2 (k878 p hp) kp.1.1 kp.2.1 k881
  have r1 : MR b M1 := hR.frMk (frG_Mk a2)
  have gk : ∀ k, M1.1 866 k = M.1 866 k := fun k => a2.1 866 k (fun z => by unfold pGn at z; omega)
  have g878 : ∀ k, M1.1 878 k = M.1 878 k := fun k => a2.1 878 k (fun z => by unfold pGn at z; omega)
  have g879 : ∀ k, M1.1 879 k = M.1 879 k := fun k => a2.1 879 k (fun z => by unfold pGn at z; omega)
  have g880 : ∀ k, k ≠ p → M1.1 880 k = M.1 880 k := fun k hk => a2.1 880 k (fun z => by unfold pGn at z; omega)
  have km0 : ∀ c, upN mk (opA b p) 0 c < 8 := fun c => by
    unfold upN
    by_cases e : c = opA b p
    · rw [if_pos e]; omega
    · rw [if_neg e]; exact km c
  unfold fdH
  cases hn : nxt b (upN mk (opA b p) 0) (opA b p) (be p) (tr p) with
  | some t =>
    rw [hn] at a1 a3
    have ht := List.mem_of_find?_eq_some hn
    rw [List.mem_range'_1] at ht
    have hmod : (be p + t) % b 2 < b 2 := Nat.mod_lt _ h2
    obtain ⟨M', c1, c2, c3⟩ := ih x dr (p + 1) true be (upN tr p (t + 1)) (upN (upN mk (opA b p) 0) (opA b p) (1 + (be p + t) % b 2)) M1 (by show 2 * (2000 - dr) + (p + 1) + 0 < f; omega) hdr (by omega) (fun z => by cases z) r1 ⟨⟨(gk 24).trans k24, (gk 25).trans k25, (gk 27).trans k27⟩, fun q hq => (g878 q).trans (k878 q hq), fun q hq => by
      have hq2 : q < p + 1 := hq
      have kq := kT q hq2
      refine ⟨⟨(g879 q).trans kq.1.1, kq.1.2⟩, ?_⟩
      by_cases e : q = p
      · rw [e, upN_at]
        exact ⟨a3.1, by omega⟩
      · rw [upN_ne e, g880 q e]
        exact kq.2, a3.2, fun c => by
      unfold upN
      by_cases e : c = opA b p
      · rw [if_pos e]; omega
      · rw [if_neg e, if_neg e]; exact km c⟩
    refine ⟨M', e_M_findsDigits_73 ?_, (frG_Mk a2).trans c2, c3⟩
    rw [a1, zC1_some, if_neg (show ¬ nB (some t).isSome = nI 0 from (by decide : ¬ nB true = nI 0)), n_add1, if_neg (by rw [n_lt (by omega) (by omega)]; omega)]
    exact c1
  | none =>
    rw [hn] at a1 a3
    by_cases h0 : p = 0
    · rw [h0] at a1 ⊢
      rw [h0] at a2
      refine ⟨M1, e_M_findsDigits_73 ?_, frG_Mk a2, fun g hg => by cases hg⟩
      rw [a1, zC1_some, if_pos (by rfl), if_pos (by decide)]
      rfl
    · obtain ⟨M', c1, c2, c3⟩ := ih x dr (p - 1) false be (upN tr p (b 2)) (upN mk (opA b p) 0) M1 (by show 2 * (2000 - dr) + (p - 1) + 2 < f; omega) hdr (by omega) (fun _ => by omega) r1 ⟨⟨(gk 24).trans k24, (gk 25).trans k25, (gk 27).trans k27⟩, fun q hq => (g878 q).trans (k878 q hq), fun q hq => by
        have hq2 : q < p - 1 + 1 := hq
        have kq := kT q (by omega)
        rw [upN_ne (show q ≠ p by omega), g879, g880 q (by omega)]
        exact kq, a3.2, km0⟩
      simp only [if_neg h0]
      refine ⟨M', e_M_findsDigits_73 ?_, (frG_Mk a2).trans c2, c3⟩
      rw [a1, zC1_some, if_pos (by rfl), n_dec (by omega), if_neg (by rw [n_lt (by omega) (by omega)]; omega)]
      exact c1
theorem s_fd (hW : Wf b) (h2 : 0 < b 2) : ∀ f, FPr b d f := by
  have h16 := hW.2.2.2.2.1
  have h27 := hW.1.2.2.1
  intro f
  induction f with
  | zero => intro x dr p co be tr mk M hmu; omega
  | succ f ih =>
    intro x dr p co be tr mk M hmu hdr hp hco hR hF
    have hF' := hF
    obtain ⟨⟨k24, k25, k27⟩, k878, kT, k881, km⟩ := hF
    by_cases hpe : openN b ≤ p
    · have e : fdG b (f + 1) x dr p co be tr mk = some mk := if_pos hpe
      rw [e]
      refine ⟨M, e_M_findsDigits_18 ?_, fr.refl, fun g hg => by cases hg; exact ⟨k881, km⟩⟩
      rw [k27, if_neg (by rw [n_lt (by omega) (by omega)]; omega)]
      rfl
    · cases co with
      | false =>
        have e : fdG b (f + 1) x dr p false be tr mk = fdH b (fdG b f) x dr p be tr mk := by
          show (if openN b ≤ p then _ else _) = _
          rw [if_neg hpe, if_pos rfl]
        rw [e]
        have hmu2 : 2 * (2000 - dr) + p + 2 < f + 1 := hmu
        obtain ⟨M', c1, c2⟩ := s_fd73 (d := d) hW h2 ih (x := x) (be := be) (tr := tr) (mk := mk) (show 2 * (2000 - dr) + p + 1 < f by omega) hdr (by omega) hR hF'
        refine ⟨M', e_M_findsDigits_18 ?_, c2⟩
        rw [k27, if_pos ((n_lt (by omega) (by omega)).mpr (by omega)), if_pos (show nB false = nI 0 from rfl)]
        exact c1
      | true =>
        have hmu2 : 2 * (2000 - dr) + p + 0 < f + 1 := hmu
        by_cases hd0 : dr = 2000
        · have e : fdG b (f + 1) x dr p true be tr mk = none := by
            show (if openN b ≤ p then _ else _) = _
            rw [if_neg hpe, if_neg (by simp), if_pos hd0]
          rw [e]
          refine ⟨M, e_M_findsDigits_18 ?_, fr.refl, fun g hg => by cases hg⟩
          rw [k27, if_pos ((n_lt (by omega) (by omega)).mpr (by omega)), if_neg (by decide), k25, hd0, if_pos rfl]
          rfl
        · have e : fdG b (f + 1) x dr p true be tr mk = fdH b (fdG b f) (drw x) (dr + 1) p (upN be p (drD (drw x) (b 2))) (upN tr p 0) mk := by
            show (if openN b ≤ p then _ else _) = _
            rw [if_neg hpe, if_neg (by simp), if_neg hd0]
          rw [e]
          have f1 : frI pMk M (zpi M 866 25 (nI (dr + 1))) := fr.refl.pi (Or.inl ⟨rfl, by omega⟩)
          have r1 := hR.frMk f1
          have e24 : (zpi M 866 25 (nI (dr + 1))).1 866 24 = x := by rw [m_pi, if_neg (by omega)]; exact k24
          have f2 : frI pMk M (zpi (zpi (zpi (zpi M 866 25 (nI (dr + 1))) 866 24 (drw x)) 879 p (nI (drD (drw x) (b 2)))) 880 p (nI 0)) := ((f1.pi (Or.inl ⟨rfl, by omega⟩)).pi (Or.inr (by omega))).pi (Or.inr (by omega))
          obtain ⟨M', c1, c2, c3⟩ := s_fd73 (d := d) hW h2 ih (x := drw x) (dr := dr + 1) (p := p) (be := upN be p (drD (drw x) (b 2))) (tr := upN tr p 0) (mk := mk) (M := zpi (zpi (zpi (zpi M 866 25 (nI (dr + 1))) 866 24 (drw x)) 879 p (nI (drD (drw x) (b 2)))) 880 p (nI 0)) (by omega) (by omega) (by omega) (hR.frMk f2) ⟨⟨by
              rw [m_pi, if_neg (by omega), m_pi, if_neg (by omega), m_pi, if_pos ⟨rfl, rfl⟩], by
              rw [m_pi, if_neg (by omega), m_pi, if_neg (by omega), m_pi, if_neg (by omega), m_pi, if_pos ⟨rfl, rfl⟩], by
              rw [m_pi, if_neg (by omega), m_pi, if_neg (by omega), m_pi, if_neg (by omega), m_pi, if_neg (by omega)]; exact k27⟩, fun q hq => by
              rw [m_pi, if_neg (by omega), m_pi, if_neg (by omega), m_pi, if_neg (by omega), m_pi, if_neg (by omega)]; exact k878 q hq, fun q hq => by
              by_cases e : q = p
              · rw [e, upN_at, upN_at]
                refine ⟨⟨?_, Nat.mod_lt _ h2⟩, ?_, Nat.zero_le _⟩
                · rw [m_pi, if_neg (by omega), m_pi, if_pos ⟨rfl, rfl⟩]
                · rw [m_pi, if_pos ⟨rfl, rfl⟩]
              · rw [upN_ne e, upN_ne e]
                have kq := kT q (by show q < p + 0; omega)
                rw [m_pi, if_neg (by omega), m_pi, if_neg (by omega), m_pi, if_neg (by omega), m_pi, if_neg (by omega), m_pi, if_neg (by omega), m_pi, if_neg (by omega), m_pi, if_neg (by omega), m_pi, if_neg (by omega)]
                exact kq, fun c hc => by
              rw [m_pi, if_neg (by omega), m_pi, if_neg (by omega), m_pi, if_neg (by omega), m_pi, if_neg (by omega)]; exact k881 c hc, km⟩
          refine ⟨M', e_M_findsDigits_18 ?_, f2.trans c2, c3⟩
          rw [k27, if_pos ((n_lt (by omega) (by omega)).mpr (by omega)), if_neg (by decide), k25, if_neg (by rw [n_eq (by omega) (by omega)]; exact hd0), n_add1, s_top (d := d + 4) r1, zC1_some, s_draw (d := d + 4) h2 (by omega), zC1_some, e24, if_pos ((n_zin (by omega)).mpr (by omega)), n_clamp (by omega)]
          exact c1
theorem s_findsDigits (hR : MR b M) (hW : Wf b) (h2 : 0 < b 2) (x : Int32) : ∃ M', zEv (d + 6) zmM_findsDigits [.ref 866, .int x] M = some (some (.int (nB (fdD b x).isSome)), M') ∧ frI pMk M M' ∧ ∀ g, fdD b x = some g → (∀ c, c < 36 → M'.1 881 c = nI (g c)) ∧ ∀ c, g c < 8 := by
  obtain ⟨M1, a1, a2, a3, a4, a5⟩ := s_laysOpen (d := d + 1) hR hW
  have f2 : frI pMk M (zpi (zpi M1 866 24 x) 866 25 (nI 0)) := (a2.pi (Or.inl ⟨rfl, by omega⟩)).pi (Or.inl ⟨rfl, by omega⟩)
  obtain ⟨M', c1, c2, c3⟩ := s_fd (d := d) hW h2 18000 x 0 0 true (fun _ => 0) (fun _ => 0) (fun _ => 0) (zpi (zpi M1 866 24 x) 866 25 (nI 0)) (by show 2 * (2000 - 0) + 0 + 0 < 18000; omega) (by omega) (Nat.zero_le _) (fun z => by cases z) (hR.frMk f2) ⟨⟨by rw [m_pi, if_neg (by omega), m_pi, if_pos ⟨rfl, rfl⟩], by rw [m_pi, if_pos ⟨rfl, rfl⟩], by rw [m_pi, if_neg (by omega), m_pi, if_neg (by omega)]; exact a3⟩, fun q hq => by rw [m_pi, if_neg (by omega), m_pi, if_neg (by omega)]; exact a4 q hq, fun q hq => absurd hq (Nat.not_lt_zero q), fun c hc => by rw [m_pi, if_neg (by omega), m_pi, if_neg (by omega)]; exact a5 c hc, fun _ => by show 0 < 8; omega⟩
  refine ⟨M', e_M_findsDigits ?_, f2.trans c2, c3⟩
  rw [a1, zC0_some]
  exact c1
end ME
