/-! THE MODEL, 34: totals told anew, all cleared -/
def totV (r mk : Nat → Nat) (k : Nat) : Nat := tot (r (148 + 10 * k)) ((List.range (cgN r k)).map fun q => mk (cgC r k q))
def totM (b mk : Nat → Nat) : Nat → Nat → Nat
  | 0 => b
  | k + 1 => totR (totM b mk k) k (totV (totM b mk k) mk k)
theorem totM_ne {b mk : Nat → Nat} : ∀ {j i : Nat}, (∀ k, k < j → i ≠ 149 + 10 * k) → totM b mk j i = b i
  | 0, i, _ => rfl
  | j + 1, i, h => (if_neg (h j (by omega))).trans (totM_ne fun k hk => h k (by omega))
theorem totM_low {b mk : Nat → Nat} {j i : Nat} (h : i < 149) : totM b mk j i = b i := totM_ne fun k _ => by omega
theorem totM_cgN {b mk : Nat → Nat} {j k : Nat} : cgN (totM b mk j) k = cgN b k := totM_ne fun k' _ => by omega
theorem totV_lt {r mk : Nat → Nat} (hW : Wf r) (hm : ∀ c, mk c < 8) {k : Nat} (hk : k < r 3) : totV r mk k ≤ 117649 := by
  have h6 := cgN_le hW hk
  refine tot_lt (fun x hx => ?_) (by rw [List.length_map, List.length_range]; exact h6)
  obtain ⟨q, _, rfl⟩ := List.mem_map.mp hx
  have := hm (cgC r k q)
  omega
theorem totM_w {b mk : Nat → Nat} (hW : Wf b) (hD : WfD b) (hm : ∀ c, mk c < 8) : ∀ {j : Nat}, j ≤ b 3 → Wf (totM b mk j) ∧ WfD (totM b mk j)
  | 0, _ => ⟨hW, hD⟩
  | j + 1, h => by
    obtain ⟨h1, h2⟩ := totM_w hW hD hm (j := j) (by omega)
    have h3 : j < totM b mk j 3 := by rw [totM_low (by omega)]; omega
    exact totR_w h1 h2 h3 (by have := totV_lt h1 hm h3; omega)
def pT : Nat → Nat → Prop := fun a k => a = 872 ∨ (a = 867 ∧ k < 268)
section MF
variable {d : Nat} {M : ZM} {b : Nat → Nat}
theorem s_totals_i {r mk : Nat → Nat} (hW : Wf r) (hm : ∀ c, mk c < 8) {k : Nat} (hk : k < r 3) : ∀ j i (M : ZM), i + j = cgN r k → MR r M → (∀ c, c < 36 → M.1 881 c = nI (mk c)) → Laid ((List.range i).map fun q => mk (cgC r k q)) M →
    ∃ M1, frI pT M M1 ∧ MR (totR r k (totV r mk k)) M1 ∧ ∀ R, h_M_totalsMade_2 (d + 2) (nI (k + 1)) M1 = some R → h_M_totalsMade_12 (d + 2) (nI k) (nI i) M = some R := by
  have h12 := cg_12 hW hk
  have h6 := cgN_le hW hk
  have hg := hW.2.2.2.2.2 k hk
  intro j
  induction j with
  | zero =>
    intro i M h hR h881 hL
    obtain rfl : i = cgN r k := by omega
    have hT := s_totalBy (d := d + 1) (M := M) hL (fun x hx => by
      obtain ⟨q, _, rfl⟩ := List.mem_map.mp hx
      have := hm (cgC r k q)
      omega) (by rw [List.length_map, List.length_range]; exact h6) (sort := r (148 + 10 * k)) hg.1.1 (fun z => by
      have h9 := congrArg List.length z
      rw [List.length_map, List.length_range] at h9
      have := hg.2.1.1
      have h10 : cgN r k = 0 := h9
      omega)
    rw [List.length_map, List.length_range] at hT
    refine ⟨zpi M 867 (149 + 10 * k) (nI (totV r mk k)), fr.refl.pi (Or.inr ⟨rfl, by omega⟩), fun x hx => ?_, fun R hr => e_M_totalsMade_12 ?_⟩
    · rw [m_pi]
      unfold totR
      by_cases e : x = 149 + 10 * k
      · rw [if_pos ⟨rfl, e⟩, if_pos e]
      · rw [if_neg (fun z => e z.2), if_neg e]
        exact hR x hx
    · have e0 := s_of (d := d + 1) hR h12 (show 0 < 10 by omega)
      rw [show 148 + 10 * k + 0 = 148 + 10 * k from rfl] at e0
      rw [s_ofN (d := d + 1) hR h12, zC1_some, if_neg (by rw [n_lt (by omega) (by omega)]; omega), e0, zC1_some, s_ofN (d := d + 1) hR h12, zC1_some, hT, zC1_some, n_mul, n_add, n_add, show 148 + 10 * k + 1 = 149 + 10 * k by omega, if_pos ((n_zin (by omega)).mpr (by omega)), n_clamp (by omega), n_add1]
      exact hr
  | succ j ih =>
    intro i M h hR h881 hL
    have h36 := cgC_lt hW hk (show i < cgN r k by omega)
    have eR : (List.range (i + 1)).map (fun q => mk (cgC r k q)) = (List.range i).map (fun q => mk (cgC r k q)) ++ [mk (cgC r k i)] := by
      rw [List.range_succ, List.map_append]
      rfl
    have hP := hL.push (x := mk (cgC r k i))
    rw [List.length_map, List.length_range, ← eR] at hP
    obtain ⟨M1, a1, a2, a3⟩ := ih (i + 1) (zpi M 872 i (nI (mk (cgC r k i)))) (by omega) (fun x hx => by rw [m_pi, if_neg (by omega)]; exact hR x hx) (fun c hc => by rw [m_pi, if_neg (by omega)]; exact h881 c hc) hP
    refine ⟨M1, (fr.refl.pi (Or.inl rfl)).trans a1, a2, fun R hr => e_M_totalsMade_12 ?_⟩
    rw [s_ofN (d := d + 1) hR h12, zC1_some, if_pos ((n_lt (by omega) (by omega)).mpr (by omega)), s_cellOf (d := d) hR h12 (show i < 6 by omega), zC1_some, if_pos ((n_zin (by omega)).mpr h36), if_pos ((n_zin (by omega)).mpr (by omega)), n_clamp (by omega), n_clamp (by omega), h881 _ h36, n_add1]
    exact a3 R hr
theorem s_totals_k (hW : Wf b) (hD : WfD b) {mk : Nat → Nat} (hm : ∀ c, mk c < 8) : ∀ j k (M : ZM), k + j = b 3 → MR (totM b mk k) M → (∀ c, c < 36 → M.1 881 c = nI (mk c)) →
    ∃ M', h_M_totalsMade_2 (d + 2) (nI k) M = some (none, M') ∧ frI pT M M' ∧ MR (totM b mk (b 3)) M' := by
  have h12 := hW.1.2.2.2
  intro j
  induction j with
  | zero =>
    intro k M h hR h881
    obtain rfl : k = b 3 := by omega
    refine ⟨M, e_M_totalsMade_2 ?_, fr.refl, hR⟩
    rw [s_cages (d := d + 1) hR, zC1_some, totM_low (by omega), if_neg (by rw [n_lt (by omega) (by omega)]; omega)]
  | succ j ih =>
    intro k M h hR h881
    obtain ⟨w1, w2⟩ := totM_w hW hD hm (j := k) (by omega)
    have h3 : k < totM b mk k 3 := by rw [totM_low (by omega)]; omega
    obtain ⟨M1, a1, a2, a3⟩ := s_totals_i (d := d) w1 hm h3 (cgN (totM b mk k) k) 0 M (by omega) hR h881 (fun i hi => absurd hi (Nat.not_lt_zero i))
    obtain ⟨M', c1, c2, c3⟩ := ih (k + 1) M1 (by omega) a2 (fun c hc => (a1.1 881 c (fun z => by unfold pT at z; omega)).trans (h881 c hc))
    refine ⟨M', e_M_totalsMade_2 ?_, a1.trans c2, c3⟩
    rw [s_cages (d := d + 1) hR, zC1_some, totM_low (by omega), if_pos ((n_lt (by omega) (by omega)).mpr (by omega))]
    exact a3 _ c1
theorem s_totalsMade (hR : MR b M) (hW : Wf b) (hD : WfD b) {mk : Nat → Nat} (hm : ∀ c, mk c < 8) (h881 : ∀ c, c < 36 → M.1 881 c = nI (mk c)) : ∃ M', zEv (d + 3) zmM_totalsMade [.ref 866] M = some (none, M') ∧ frI pT M M' ∧ MR (totM b mk (b 3)) M' := by
  obtain ⟨M', a1, a2⟩ := s_totals_k (d := d) hW hD hm (b 3) 0 M (by omega) hR h881
  exact ⟨M', e_M_totalsMade a1, a2⟩
end MF
/-- nothing is put or given in a cell -/
def mid1 (b : Nat → Nat) (c : Nat) : Nat → Nat := fun k => if k = 40 + c then 0 else if k = 76 + c then 0 else b k
def rst1 (b : Nat → Nat) (c : Nat) : Nat → Nat := setK (mid1 b c) c (if isO b c = true then allM b else 0)
def rstN (b : Nat → Nat) : Nat → Nat → Nat
  | 0 => b
  | c + 1 => rst1 (rstN b c) c
theorem mid1_ne {b : Nat → Nat} {c k : Nat} (h1 : k ≠ 40 + c) (h2 : k ≠ 76 + c) : mid1 b c k = b k := by unfold mid1; rw [if_neg h1, if_neg h2]
theorem rst1_ne {b : Nat → Nat} {c k : Nat} (h1 : k ≠ 40 + c) (h2 : k ≠ 76 + c) (h3 : k ≠ 112 + c) : rst1 b c k = b k := (setK_ne h3).trans (mid1_ne h1 h2)
theorem mid1_isO {b : Nat → Nat} {c : Nat} (hN : b 0 * b 1 ≤ 36) (hc : c < 36) : isO (mid1 b c) = isO b := funext fun x => by
  unfold isO
  rw [mid1_ne (k := 0) (by omega) (by omega), mid1_ne (k := 1) (by omega) (by omega)]
  by_cases h : x < b 0 * b 1
  · rw [mid1_ne (k := 4 + x) (by omega) (by omega)]
  · rw [decide_eq_false h, Bool.false_and, Bool.false_and]
theorem mid1_shut {b : Nat → Nat} (hW : Wf b) {c : Nat} (hc : c < 36) (hO : isO b c = false) : mid1 b c = b := funext fun k => by
  have h := (hW.2.2.2.1 c hc).2.2 hO
  unfold mid1
  by_cases e : k = 40 + c
  · rw [if_pos e, e, h.2.1]
  · by_cases e2 : k = 76 + c
    · rw [if_neg e, if_pos e2, e2, h.2.2]
    · rw [if_neg e, if_neg e2]
theorem allM_lt0 (b : Nat → Nat) : allM b < 2 ^ (b 2 + 1) := by
  have := Nat.one_le_two_pow (n := b 2 + 1)
  unfold allM
  omega
theorem allM_0 (b : Nat → Nat) : (allM b).testBit 0 = false := by
  have h3 : 2 ^ (b 2 + 1) = 2 * 2 ^ b 2 := by rw [Nat.pow_succ, Nat.mul_comm]
  rw [Nat.testBit_zero]
  unfold allM
  exact decide_eq_false (by omega)
theorem mid1_w {b : Nat → Nat} (hW : Wf b) (hD : WfD b) {c : Nat} (hc : c < 36) : Wf (mid1 b c) ∧ WfD (mid1 b c) := by
  cases hO : isO b c with
  | false => rw [mid1_shut hW hc hO]; exact ⟨hW, hD⟩
  | true =>
    have e40 : mid1 b c (40 + c) = 0 := if_pos rfl
    have e76 : mid1 b c (76 + c) = 0 := by unfold mid1; rw [if_neg (by omega), if_pos rfl]
    have h := (hW.2.2.2.1 c hc).2.1
    exact cell_w hW hD hO (fun k h1 h2 h3 => mid1_ne h1 h2) (by rw [e40]; omega) (by rw [e76]; omega) (by rw [mid1_ne (by omega) (by omega)]; exact h.2.1) (by rw [mid1_ne (by omega) (by omega)]; exact h.2.2) (fun z => by rw [e76] at z; omega) (fun z => by rw [e40] at z; omega)
theorem rst1_shut {b : Nat → Nat} (hW : Wf b) {c : Nat} (hc : c < 36) (hO : isO b c = false) : rst1 b c = b := by
  have h := (hW.2.2.2.1 c hc).2.2 hO
  unfold rst1
  rw [mid1_shut hW hc hO, hO, if_neg (by simp), ← h.1, setK_self]
theorem rst1_w {b : Nat → Nat} (hW : Wf b) (hD : WfD b) {c : Nat} (hc : c < 36) : Wf (rst1 b c) ∧ WfD (rst1 b c) := by
  cases hO : isO b c with
  | false => rw [rst1_shut hW hc hO]; exact ⟨hW, hD⟩
  | true =>
    have e40 : rst1 b c (40 + c) = 0 := (setK_ne (by omega)).trans (if_pos rfl)
    have e76 : rst1 b c (76 + c) = 0 := (setK_ne (by omega)).trans (by unfold mid1; rw [if_neg (by omega), if_pos rfl])
    have e112 : rst1 b c (112 + c) = allM b := setK_at.trans (if_pos hO)
    exact cell_w hW hD hO (fun k h1 h2 h3 => rst1_ne h1 h2 h3) (by rw [e40]; omega) (by rw [e76]; omega) (by rw [e112]; exact allM_lt0 b) (by rw [e112]; exact allM_0 b) (fun z => by rw [e76] at z; omega) (fun z => by rw [e40] at z; omega)
theorem rstN_ne {b : Nat → Nat} : ∀ {c k : Nat}, c ≤ 36 → (k < 40 ∨ 148 ≤ k) → rstN b c k = b k
  | 0, k, _, _ => rfl
  | c + 1, k, hc, h => (rst1_ne (by omega) (by omega) (by omega)).trans (rstN_ne (by omega) h)
theorem rstN_w {b : Nat → Nat} (hW : Wf b) (hD : WfD b) : ∀ {c : Nat}, c ≤ 36 → Wf (rstN b c) ∧ WfD (rstN b c)
  | 0, _ => ⟨hW, hD⟩
  | c + 1, hc => by
    obtain ⟨h1, h2⟩ := rstN_w hW hD (c := c) (by omega)
    exact rst1_w h1 h2 (by omega)
section MG
variable {d : Nat} {M : ZM} {b : Nat → Nat}
theorem s_reset (hW : Wf b) (hD : WfD b) : ∀ j c (M : ZM), c + j = b 0 * b 1 → MR (rstN b c) M → ∃ M1, frI pR M M1 ∧ MR (rstN b (b 0 * b 1)) M1 ∧ ∀ R, h_M_make_91 (d + 3) (nI 0) M1 = some R → h_M_make_30 (d + 3) (nI c) M = some R := by
  have h36 := hW.n36
  intro j
  induction j with
  | zero =>
    intro c M h hR
    obtain rfl : c = b 0 * b 1 := by omega
    refine ⟨M, fr.refl, hR, fun R hr => e_M_make_30 ?_⟩
    rw [s_cells (d := d + 2) hR, zC1_some, rstN_ne (by omega) (by omega), rstN_ne (by omega) (by omega), if_neg (by rw [n_lt (by omega) (by omega)]; omega)]
    exact hr
  | succ j ih =>
    intro c M h hR
    obtain ⟨w1, w2⟩ := rstN_w hW hD (c := c) (by omega)
    obtain ⟨v1, v2⟩ := mid1_w w1 w2 (c := c) (by omega)
    have hN : rstN b c 0 * rstN b c 1 ≤ 36 := w1.n36
    have r1 : MR (mid1 (rstN b c) c) (zpi (zpi M 867 (76 + c) (nI 0)) 867 (40 + c) (nI 0)) := fun x hx => by
      rw [m_pi]
      unfold mid1
      by_cases e : x = 40 + c
      · rw [if_pos ⟨rfl, e⟩, if_pos e]
      · rw [if_neg (fun z => e z.2), if_neg e, m_pi]
        by_cases e2 : x = 76 + c
        · rw [if_pos ⟨rfl, e2⟩, if_pos e2]
        · rw [if_neg (fun z => e2 z.2), if_neg e2]
          exact hR x hx
    have f1 : frI pR M (zpi (zpi M 867 (76 + c) (nI 0)) 867 (40 + c) (nI 0)) := (fr.refl.pi (show pR 867 (76 + c) from ⟨rfl, by omega⟩)).pi (show pR 867 (40 + c) from ⟨rfl, by omega⟩)
    have eO := mid1_isO hN (show c < 36 by omega)
    cases hO : isO (rstN b c) c with
    | false =>
      have eS : rstN b (c + 1) = setK (mid1 (rstN b c) c) c 0 := by show rst1 _ _ = _; unfold rst1; rw [hO, if_neg (by simp)]
      obtain ⟨M1, a1, a2, a3⟩ := ih (c + 1) _ (by omega) (by rw [eS]; exact mr_setK r1)
      refine ⟨M1, (f1.pi (show pR 867 (112 + c) from ⟨rfl, by omega⟩)).trans a1, a2, fun R hr => e_M_make_30 ?_⟩
      rw [s_cells (d := d + 2) hR, zC1_some, rstN_ne (by omega) (by omega), rstN_ne (by omega) (by omega), if_pos ((n_lt (by omega) (by omega)).mpr (by omega)), n_add, n_add, n_add, if_pos ((n_zin (by omega)).mpr (by omega)), if_pos ((n_zin (by omega)).mpr (by omega)), n_clamp (by omega), n_clamp (by omega), s_isOpen (d := d) r1 v1 (by omega), zC1_some, eO, hO, if_pos (show nB false = nI 0 from rfl), if_pos ((n_zin (by omega)).mpr (by omega)), n_clamp (by omega), n_add1]
      exact a3 R hr
    | true =>
      have eS : rstN b (c + 1) = setK (mid1 (rstN b c) c) c (allM (mid1 (rstN b c) c)) := by
        show rst1 _ _ = _
        unfold rst1
        rw [hO, if_pos rfl]
        congr 1
        unfold allM
        rw [mid1_ne (by omega) (by omega)]
      obtain ⟨M1, a1, a2, a3⟩ := ih (c + 1) _ (by omega) (by rw [eS]; exact mr_setK r1)
      refine ⟨M1, (f1.pi (show pR 867 (112 + c) from ⟨rfl, by omega⟩)).trans a1, a2, fun R hr => e_M_make_30 ?_⟩
      rw [s_cells (d := d + 2) hR, zC1_some, rstN_ne (by omega) (by omega), rstN_ne (by omega) (by omega), if_pos ((n_lt (by omega) (by omega)).mpr (by omega)), n_add, n_add, n_add, if_pos ((n_zin (by omega)).mpr (by omega)), if_pos ((n_zin (by omega)).mpr (by omega)), n_clamp (by omega), n_clamp (by omega), s_isOpen (d := d) r1 v1 (by omega), zC1_some, eO, hO, if_neg (by decide), s_allMarks (d := d + 1) r1 v1, zC1_some, if_pos ((n_zin (by omega)).mpr (by omega)), n_clamp (by omega), n_add1]
      exact a3 R hr
end MG
