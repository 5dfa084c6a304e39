/-! THE CLASS, 33: logic studies a board -/
theorem qcl {q k : Nat} (hq : zkd q = (10, 0)) (hk : k < 12) : zkd (q + 7 + k) = (1, 6) := by
  have h := zl_0 (q := q + 6) (i := nI k) (zf_0_13 hq) ((n_zin (by omega)).mpr hk)
  rw [n_clamp (by omega)] at h
  exact h
/-- one down -/
def pD (j : Nat) : Int32 := if j = 0 then -1 else nI (j - 1)
theorem pD_lt {j : Nat} (hj : j < 2147483648) : (pD j < nI 0) ↔ j = 0 := by
  unfold pD
  by_cases h : j = 0
  · rw [if_pos h]; exact ⟨fun _ => h, fun _ => by decide⟩
  · rw [if_neg h, n_lt (by omega) (by omega)]; omega
theorem pD_dn (j : Nat) : nI j + (-1 : Int32) = pD j := by
  unfold pD
  by_cases h : j = 0
  · rw [if_pos h, h]; decide
  · rw [if_neg h, show nI j + (-1 : Int32) = nI j - nI 1 from by rw [Int32.sub_eq_add_neg]; rfl, n_sub (by omega)]
theorem pD_sub (j : Nat) : nI j - nI 1 = pD j := by rw [← pD_dn, Int32.sub_eq_add_neg]; rfl
theorem pD_s (j : Nat) : pD (j + 1) = nI j := by unfold pD; rw [if_neg (by omega), Nat.add_sub_cancel]
/-- the whole of logic -/
def pLg : Nat → Nat → Prop := fun a k => (262 ≤ a ∧ a ≤ 410) ∧ ¬ (a = 262 ∧ 10 ≤ k)
/-- the first from a place on -/
def fst' (p : Nat → Bool) (j n : Nat) : Option Nat := (List.range' j n).find? p
theorem fst_step {p : Nat → Bool} {j n : Nat} : fst' p j (n + 1) = if p j = true then some j else fst' p (j + 1) n := by
  unfold fst'
  rw [List.range'_succ, List.find?_cons]
  cases p j <;> rfl
theorem fst_all {p : Nat → Bool} {n : Nat} : fst' p 0 n = (List.range n).find? p := by unfold fst'; rw [List.range_eq_range']
def SDY (b : Nat → Nat) (M : ZM) : Prop := (M.1 262 3 = pO (cgWo b) ∧ M.1 262 4 = pO (clWo b)) ∧ ∀ k, k < b 3 → ∀ i, i < cgN b k → M.1 (399 + k) i = nI (couldD (ways b k) i)
theorem msr_B {b : Nat → Nat} {q : Nat} {M : ZM} (hB : BRep b q M) (hW : Wf b) {k : Nat} (hk : k < b 3) : MsR (q + 1) (q + 7 + k) (cgN b k) (cgMs b k) M := fun i hi => by
  have hc := cgC_lt hW hk hi
  exact ⟨cgC b k i, hc, (hB.2.2.2 k hk).2 i hi, hB.2.2.1 _ hc, mk_lt hW hc⟩
section QL
variable {d : Nat} {b : Nat → Nat} {q : Nat}
theorem q_study_63 (hq : zkd q = (10, 0)) (hq2 : q + 18 < 126) (hW : Wf b) {k : Nat} (hk : k < b 3) {rq : Nat} (hrq : zkd rq = (13, 0)) (hr : 275 ≤ rq ∧ rq ≤ 385) : ∀ j i (M : ZM), i + j = cgN b k → BRep b q M → RRep (cgD b k) (cgN b k) rq M → WgR (cgD b k) (cgMs b k) (cgN b k) rq M → (∀ i', i' < i → M.1 (399 + k) i' = nI (couldD (ways b k) i')) → ∃ M', (∀ r, h_L_study_24 (d + 3) q (pD k) M' = some r → h_L_study_63 (d + 3) q (nI k) rq (nI i) M = some r) ∧ (∀ i', i' < cgN b k → M'.1 (399 + k) i' = nI (couldD (ways b k) i')) ∧ fr (fun a _ => a = 399 + k) (pLd rq) M M' := by
  have h12 := cg_12 hW hk
  have h6 := cgN_le hW hk
  intro j
  induction j with
  | zero =>
    intro i M h hB hR hG hC
    refine ⟨M, fun r hr => e_L_study_63 hq hrq ?_, fun i' hi' => hC i' (by omega), fr.refl⟩
    rw [if_pos ((n_zin (by omega)).mpr h12), n_clamp (by omega), (hB.2.2.2 k hk).1.2.1, if_neg (by rw [n_lt (by omega) (by omega)]; omega), pD_dn]
    exact hr
  | succ j ih =>
    intro i M h hB hR hG hC
    have hc := cgC_lt hW hk (show i < cgN b k by omega)
    have hm := mk_lt hW hc
    obtain ⟨M1, a1, a2, a3, a4⟩ := q_digitsAt (d := d + 1) (m := cgMs b k i) hrq (cgD_ok b k) hR hG (show i < cgN b k by omega) hm
    have f1 : fr (fun a _ => a = 399 + k) (pLd rq) M (zpi M1 (399 + k) i (nI (couldD (ways b k) i))) := (a2.mono (fun _ _ z => z.elim) fun _ _ z => z).pi rfl
    have hB1 := hB.fr f1 hW.1.2.2.2 (fun a k' z => by omega) fun a k' z => by unfold pLd at z; omega
    have f2 : fr (fun a _ => a = 399 + k) (fun _ _ => False) M1 (zpi M1 (399 + k) i (nI (couldD (ways b k) i))) := fr.refl.pi rfl
    obtain ⟨M', b1, b2, b3⟩ := ih (i + 1) _ (by omega) hB1 (rrep_fy a3 f2 fun a x z => by omega) (wgr_fy a4 f2) fun i' hi' => by
      rw [m_pi]
      by_cases e : i' = i
      · rw [if_pos ⟨rfl, e⟩, e]
      · rw [if_neg fun w => e w.2, a2.1 (399 + k) i' fun z => z]
        exact hC i' (by omega)
    refine ⟨M', fun r hr => e_L_study_63 hq hrq ?_, b2, f1.trans b3⟩
    rw [if_pos ((n_zin (by omega)).mpr h12), n_clamp (by omega), (hB.2.2.2 k hk).1.2.1, if_pos ((n_lt (by omega) (by omega)).mpr (by omega)), if_pos ((n_zin (by omega)).mpr (by omega)), n_clamp (by omega), (hB.2.2.2 k hk).2 i (by omega), if_pos ((n_zin (by omega)).mpr hc), n_clamp (by omega), hB.2.2.1 _ hc, show b (112 + cgC b k i) = cgMs b k i from rfl, a1, zC1_some, dcg_digits (cgD_ok b k) hW hk (by omega) (cgD_cg hW hk), n_add1]
    exact b1 r hr
theorem q_study_118 (hq : zkd q = (10, 0)) (hq2 : q + 18 < 126) (hW : Wf b) : ∀ j (M : ZM) n, j + n = 36 → BRep b q M → M.1 262 4 = pO (fst' (fun c => isO b c && decide (b (112 + c) = 0)) j n) → ∃ M', h_L_study_118 (d + 2) q (pD j) M = some (none, M') ∧ M'.1 262 4 = pO (fst' (fun c => isO b c && decide (b (112 + c) = 0)) 0 36) ∧ fr (fun a k => a = 262 ∧ k = 4) (fun _ _ => False) M M' := by
  intro j
  induction j with
  | zero =>
    intro M n h hB hM
    obtain rfl : n = 36 := by omega
    refine ⟨M, e_L_study_118 hq ?_, hM, fr.refl⟩
    rw [if_pos ((pD_lt (by omega)).mpr rfl)]
  | succ j ih =>
    intro M n h hB hM
    have hm := mk_lt hW (show j < 36 by omega)
    have hO := q_isOpen (d := d) hq hB.sc hW.wk (nI j)
    have hI : oI b (nI j) = isO b j := by
      unfold oI
      rw [iI_n (by omega), n_toInt (by omega), Int.toNat_natCast]
      unfold isO
      by_cases h1 : j < b 0 * b 1
      · rw [decide_eq_true h1]; rfl
      · rw [decide_eq_false h1]; rfl
    rw [hI] at hO
    have key : ∀ M1 : ZM, fr (fun a k => a = 262 ∧ k = 4) (fun _ _ => False) M M1 → M1.1 262 4 = pO (fst' (fun c => isO b c && decide (b (112 + c) = 0)) j (n + 1)) → ∃ M', h_L_study_118 (d + 2) q (pD j) M1 = some (none, M') ∧ M'.1 262 4 = pO (fst' (fun c => isO b c && decide (b (112 + c) = 0)) 0 36) ∧ fr (fun a k => a = 262 ∧ k = 4) (fun _ _ => False) M M' := fun M1 f1 h1 => by
      obtain ⟨M', a1, a2, a3⟩ := ih M1 (n + 1) (by omega) (hB.fr f1 hW.1.2.2.2 (fun a k' z => by omega) fun _ _ z => z.elim) h1
      exact ⟨M', a1, a2, f1.trans a3⟩
    cases hc : isO b j with
    | false =>
      obtain ⟨M', a1, a2⟩ := key M fr.refl (by rw [fst_step, hc, Bool.false_and, if_neg (by simp)]; exact hM)
      refine ⟨M', e_L_study_118 hq ?_, a2⟩
      rw [if_neg (by rw [pD_lt (by omega)]; omega), pD_s, hO, zC1_some, hc, if_pos (show nB false = nI 0 from rfl), pD_dn]
      exact a1
    | true =>
      by_cases h0 : b (112 + j) = 0
      · obtain ⟨M', a1, a2⟩ := key (zpi M 262 4 (nI j)) (fr.refl.pi ⟨rfl, rfl⟩) (by rw [fst_step, hc, decide_eq_true h0, Bool.true_and, if_pos rfl, m_pi, if_pos ⟨rfl, rfl⟩]; rfl)
        refine ⟨M', e_L_study_118 hq ?_, a2⟩
        rw [if_neg (by rw [pD_lt (by omega)]; omega), pD_s, hO, zC1_some, hc, if_neg (show ¬ nB true = nI 0 by decide), if_pos ((n_zin (by omega)).mpr (by omega)), n_clamp (by omega), hB.2.2.1 j (by omega), if_pos (by rw [h0]), pD_dn]
        exact a1
      · obtain ⟨M', a1, a2⟩ := key M fr.refl (by rw [fst_step, hc, decide_eq_false h0, Bool.and_false, if_neg (by simp)]; exact hM)
        refine ⟨M', e_L_study_118 hq ?_, a2⟩
        rw [if_neg (by rw [pD_lt (by omega)]; omega), pD_s, hO, zC1_some, hc, if_neg (show ¬ nB true = nI 0 by decide), if_pos ((n_zin (by omega)).mpr (by omega)), n_clamp (by omega), hB.2.2.1 j (by omega), if_neg (by rw [n_eq (by omega) (by omega)]; exact h0), pD_dn]
        exact a1
theorem clWo_36 (hW : Wf b) : fst' (fun c => isO b c && decide (b (112 + c) = 0)) 0 36 = clWo b := by
  rw [fst_all]
  unfold clWo
  have h := hW.n36
  rw [show 36 = b 0 * b 1 + (36 - b 0 * b 1) by omega, List.range_add, List.find?_append]
  have : ((List.range (36 - b 0 * b 1)).map (b 0 * b 1 + ·)).find? (fun c => isO b c && decide (b (112 + c) = 0)) = none := by
    rw [List.find?_eq_none]
    intro x hx
    obtain ⟨y, hy, rfl⟩ := List.mem_map.mp hx
    unfold isO
    rw [decide_eq_false (show ¬ b 0 * b 1 + y < b 0 * b 1 by omega)]
    simp
  rw [this, Option.or_none]
theorem q_study_24 (hq : zkd q = (10, 0)) (hq2 : q + 18 < 126) (hW : Wf b) : ∀ k (M : ZM) n, k + n = b 3 → BRep b q M → RSI 263 M → M.1 262 3 = pO (fst' (fun k => !hasW b k) k n) → M.1 262 4 = -2 → (∀ k', k ≤ k' → k' < b 3 → ∀ i, i < cgN b k' → M.1 (399 + k') i = nI (couldD (ways b k') i)) → ∃ M', h_L_study_24 (d + 5) q (pD k) M = some (none, M') ∧ SDY b M' ∧ RSI 263 M' ∧ fr pLg pLg M M' := by
  intro k
  induction k with
  | zero =>
    intro M n h hB hI h3 h4 hC
    obtain rfl : n = b 3 := by omega
    obtain ⟨M', a1, a2, a3⟩ := q_study_118 (d := d + 3) hq hq2 hW 36 M 0 (by omega) hB (by rw [h4]; rfl)
    refine ⟨M', e_L_study_24 hq ?_, ⟨⟨?_, ?_⟩, fun k hk i hi => ?_⟩, ?_, a3.mono (fun a k z => by unfold pLg; omega) fun _ _ z => z.elim⟩
    · rw [if_pos ((pD_lt (by omega)).mpr rfl)]
      exact a1
    · rw [a3.1 262 3 (by omega), h3, fst_all]
      rfl
    · rw [a2, clWo_36 hW]
    · rw [a3.1 (399 + k) i (by omega)]
      exact hC k (by omega) hk i hi
    · exact ⟨fun k hk => (hI.1 k hk).fr a3 (fun a x h1 h2 h3 => by omega) fun a x h1 h2 h3 z => z, hI.2.fr a3 (fun a x h1 h2 h3 => by omega) fun a x h1 h2 h3 z => z⟩
  | succ k ih =>
    intro M n h hB hI h3 h4 hC
    have hk : k < b 3 := by omega
    have h12 := cg_12 hW hk
    obtain ⟨M1, a1, a2, a3, a4⟩ := q_ready (d := d + 1) rsk_L hq hB hW hk hI
    have hB1 := hB.fr a4 hW.1.2.2.2 (fun a x z => by unfold pRu at z; omega) fun a x z => by unfold pRu at z; omega
    obtain ⟨M2, b1, b2, b3⟩ := q_weigh (d := d + 2) (rsk_L.2 k h12) (zf_0_8 hq) (qcl hq h12) (cgD_ok b k) (hW.2.2.2.2.2 k hk).2.1.1 a2.2 (msr_B hB1 hW hk)
    have hB2 := hB1.fr b2 hW.1.2.2.2 (fun _ _ z => z.elim) fun a x z => by unfold pWg at z; omega
    have hw := dcg_weigh hW hk (cgD_cg hW hk)
    have key : ∀ M3 : ZM, fr (fun a x => a = 262 ∧ x = 3) (fun _ _ => False) M2 M3 → M3.1 262 3 = pO (fst' (fun k => !hasW b k) k (n + 1)) → ∃ M', h_L_study_63 (d + 5) q (nI k) (263 + 12 + 10 * k) (nI 0) M3 = some (none, M') ∧ SDY b M' ∧ RSI 263 M' ∧ fr pLg pLg M M' := fun M3 f3 h33 => by
      have hB3 := hB2.fr f3 hW.1.2.2.2 (fun a x z => by omega) fun a x z => z.elim
      have hR3 : RRep (cgD b k) (cgN b k) (263 + 12 + 10 * k) M3 := rrep_fy (a2.2.fr b2 fun _ _ z => z) f3 fun a x z => by omega
      obtain ⟨M4, c1, c2, c3⟩ := q_study_63 (d := d + 2) hq hq2 hW hk (rsk_L.2 k h12) (by omega) (cgN b k) 0 M3 (by omega) hB3 hR3 (wgr_fy b3 f3) fun i' hi' => absurd hi' (Nat.not_lt_zero i')
      have f14 : fr (fun a x => pRu (263 + 12 + 10 * k) a x ∨ (a = 262 ∧ x = 3) ∨ a = 399 + k) (pRu (263 + 12 + 10 * k)) M M4 := (((a4.mono (fun _ _ z => Or.inl z) fun _ _ z => z).trans (b2.mono (fun _ _ z => z.elim) fun a x z => by unfold pWg at z; unfold pRu; omega)).trans (f3.mono (fun _ _ z => Or.inr (Or.inl z)) fun _ _ z => z.elim)).trans (c3.mono (fun _ _ z => Or.inr (Or.inr z)) fun a x z => by unfold pLd at z; unfold pRu; omega)
      have f24 : fr (fun a x => (a = 262 ∧ x = 3) ∨ a = 399 + k) (pWg (263 + 12 + 10 * k)) M1 M4 := ((b2.mono (fun _ _ z => z.elim) fun _ _ z => z).trans (f3.mono (fun _ _ z => Or.inl z) fun _ _ z => z.elim)).trans (c3.mono (fun _ _ z => Or.inr z) fun a x z => by unfold pLd at z; unfold pWg; omega)
      have hI4 : RSI 263 M4 := ⟨fun k' hk' => (a3.1 k' hk').fr f24 (fun a x h1 h2 h3 => by omega) fun a x h1 h2 h3 => by unfold pWg; omega, a3.2.fr f24 (fun a x h1 h2 h3 => by omega) fun a x h1 h2 h3 => by unfold pWg; omega⟩
      obtain ⟨M', d1, d2, d3, d4⟩ := ih M4 (n + 1) (by omega) (hB.fr f14 hW.1.2.2.2 (fun a x z => by unfold pRu at z; omega) fun a x z => by unfold pRu at z; omega) hI4 (by rw [c3.1 262 3 (by omega)]; exact h33) (by rw [f14.1 262 4 (by unfold pRu; omega)]; exact h4) fun k' h1 h2 i hi => by
        by_cases e : k' = k
        · rw [e] at hi ⊢; exact c2 i hi
        · rw [f14.1 (399 + k') i (by unfold pRu; omega)]
          exact hC k' (by omega) h2 i hi
      exact ⟨M', c1 _ d1, d2, d3, (f14.mono (fun a x z => by unfold pRu at z; unfold pLg; omega) fun a x z => by unfold pRu at z; unfold pLg; omega).trans d4⟩
    have h32 : M2.1 262 3 = pO (fst' (fun k => !hasW b k) (k + 1) n) := by
      rw [b2.1 262 3 fun z => z, a4.1 262 3 (by unfold pRu; omega)]
      exact h3
    have e1 : baJ (cgD b k) (cgMs b k) (cgN b k) (cgN b k) 0 = hasW b k := hw
    cases hh : hasW b k with
    | true =>
      obtain ⟨M', c1, c2⟩ := key M2 fr.refl (by rw [fst_step, hh, if_neg (show ¬ (!true) = true by simp)]; exact h32)
      refine ⟨M', e_L_study_24 hq ?_, c2⟩
      rw [if_neg (by rw [pD_lt (by omega)]; omega), pD_s, a1, zC3_some, if_pos (rsk_L.2 k h12), if_pos ((n_zin (by omega)).mpr h12), n_clamp (by omega), b1, zC1_some, e1, hh, if_neg (show ¬ nB true = nI 0 by decide)]
      exact c1
    | false =>
      obtain ⟨M', c1, c2⟩ := key (zpi M2 262 3 (nI k)) (fr.refl.pi ⟨rfl, rfl⟩) (by rw [fst_step, hh, if_pos (show (!false) = true from rfl), m_pi, if_pos ⟨rfl, rfl⟩]; rfl)
      refine ⟨M', e_L_study_24 hq ?_, c2⟩
      rw [if_neg (by rw [pD_lt (by omega)]; omega), pD_s, a1, zC3_some, if_pos (rsk_L.2 k h12), if_pos ((n_zin (by omega)).mpr h12), n_clamp (by omega), b1, zC1_some, e1, hh, if_pos (show nB false = nI 0 from rfl)]
      exact c1
theorem q_study {M : ZM} (hq : zkd q = (10, 0)) (hq2 : q + 18 < 126) (hW : Wf b) (hB : BRep b q M) (hI : RSI 263 M) : ∃ M', zEv (d + 6) zmL_study [.ref 262, .ref q] M = some (none, M') ∧ SDY b M' ∧ RSI 263 M' ∧ fr pLg pLg M M' := by
  have f0 : fr pLg pLg M (zpi (zpi M 262 3 (-2)) 262 4 (-2)) := (fr.refl.pi (by unfold pLg; omega)).pi (by unfold pLg; omega)
  have f1 : fr (fun a x => a = 262 ∧ (x = 3 ∨ x = 4)) (fun _ _ => False) M (zpi (zpi M 262 3 (-2)) 262 4 (-2)) := (fr.refl.pi ⟨rfl, Or.inl rfl⟩).pi ⟨rfl, Or.inr rfl⟩
  have hB1 := hB.fr f1 hW.1.2.2.2 (fun a x z => by omega) fun a x z => z.elim
  obtain ⟨M', a1, a2, a3, a4⟩ := q_study_24 (d := d) hq hq2 hW (b 3) _ 0 (by omega) hB1 ⟨fun k' hk' => (hI.1 k' hk').fr f1 (fun a x h1 h2 h3 => by omega) fun a x h1 h2 h3 z => z, hI.2.fr f1 (fun a x h1 h2 h3 => by omega) fun a x h1 h2 h3 z => z⟩ (by rw [m_pi, if_neg (by omega), m_pi, if_pos ⟨rfl, rfl⟩]; rfl) (by rw [m_pi, if_pos ⟨rfl, rfl⟩]) fun k' h1 h2 => by omega
  refine ⟨M', e_L_study hq ?_, a2, a3, f0.trans a4⟩
  have h3 := hW.1.2.2.2
  have hmin : ∀ M1 : ZM, zEv (d + 5) zmJM_min [.int (nI (b 3)), .int (nI 12)] M1 = some (some (.int (nI (b 3))), M1) := fun M1 => by
    refine e_JM_min ?_
    rw [if_neg (by rw [n_lt (by omega) (by omega)]; omega)]
  rw [hB1.1.2.2, hmin, zC1_some, pD_sub]
  exact a1
theorem q_LisBroken {M : ZM} (hS : SDY b M) (hW : Wf b) : zEv (d + 1) zmL_isBroken [.ref 262] M = some (some (.int (nB (brk b))), M) := by
  have h3 := hW.1.2.2.2
  have h36 := hW.n36
  refine e_L_isBroken ?_
  unfold brk
  rw [hS.1.1, hS.1.2]
  cases hc : cgWo b with
  | none =>
    rw [if_pos (show pO none = (-2 : Int32) from rfl)]
    cases hl : clWo b with
    | none => rw [if_pos (show pO none = (-2 : Int32) from rfl)]; rfl
    | some c =>
      have := find_lt hl
      rw [if_neg (by rw [pO_m2 fun i hi => by injection hi with hi; omega]; simp)]
      rfl
  | some k =>
    have := find_lt hc
    rw [if_neg (by rw [pO_m2 fun i hi => by injection hi with hi; omega]; simp)]
    cases clWo b <;> rfl
end QL
