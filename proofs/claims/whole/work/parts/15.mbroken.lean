/-! THE MODEL, 4: whether it is broken; all ways of a cage, counted -/
section MK
variable {d : Nat} {M : ZM} {b : Nat → Nat}
theorem s_hasWay (hR : MR b M) (hW : Wf b) {k : Nat} (hk : k < b 3) : ∃ M', zEv (d + 10) zmM_hasWay [.ref 866, .int (nI k)] M = some (some (.int (nB (hasW b k))), M') ∧ frI (pL 0) M M' := by
  have h6 := cgN_le hW hk
  obtain ⟨M', h1, h2⟩ := s_hasWayFrom (d := d + 6 - cgN b k) hW hk (cgN b k) 0 [] M (by omega) rfl (fun _ z => by cases z) hR (fun i hi => by cases hi)
  refine ⟨M', ?_, h2⟩
  rw [show cgN b k + (d + 6 - cgN b k + 3) = d + 9 by omega] at h1
  refine e_M_hasWay ?_
  rw [h1]
  simp only [zC1_some, nB01, if_true]
  rfl
/-- the first cage without a way -/
def cgWo (b : Nat → Nat) : Option Nat := (List.range (b 3)).find? fun k => !hasW b k
/-- the first open cell without a mark -/
def clWo (b : Nat → Nat) : Option Nat := (List.range (b 0 * b 1)).find? fun c => isO b c && decide (b (112 + c) = 0)
def pO (o : Option Nat) : Int32 := match o with
  | some i => nI i
  | none => -2
theorem s_cageWithout_l (hW : Wf b) : ∀ j i (M : ZM), i + j = b 3 → MR b M → ∃ M', h_M_cageWithout_2 (d + 10) (nI i) M = some (some (.int (pO ((List.range' i j).find? fun k => !hasW b k))), M') ∧ frI (pL 0) M M' := by
  have h12 := hW.1.2.2.2
  intro j
  induction j with
  | zero =>
    intro i M h hR
    refine ⟨M, ?_, fr.refl⟩
    refine e_M_cageWithout_2 ?_
    simp only [s_cages hR, zC1_some, n_lt (show i < 2147483648 by omega) (show b 3 < 2147483648 by omega)]
    rw [if_neg (by omega)]
    rfl
  | succ j ih =>
    intro i M h hR
    obtain ⟨M1, h1, h2⟩ := s_hasWay (d := d) hR hW (show i < b 3 by omega)
    rw [List.range'_succ, List.find?_cons]
    cases hw : hasW b i with
    | false =>
      refine ⟨M1, ?_, h2⟩
      refine e_M_cageWithout_2 ?_
      simp only [s_cages hR, zC1_some, n_lt (show i < 2147483648 by omega) (show b 3 < 2147483648 by omega), h1, nB0, hw, if_true]
      rw [if_pos (by omega)]
      rfl
    | true =>
      obtain ⟨M2, h3, h4⟩ := ih (i + 1) M1 (by omega) (hR.frL h2)
      refine ⟨M2, ?_, h2.trans h4⟩
      refine e_M_cageWithout_2 ?_
      simp only [s_cages hR, zC1_some, n_lt (show i < 2147483648 by omega) (show b 3 < 2147483648 by omega), h1, nB0, hw, n_add1, h3]
      rw [if_pos (by omega), if_neg (by simp)]
      rfl
theorem s_cageWithout (hR : MR b M) (hW : Wf b) : ∃ M', zEv (d + 11) zmM_cageWithout [.ref 866] M = some (some (.int (pO (cgWo b))), M') ∧ frI (pL 0) M M' := by
  obtain ⟨M', h1, h2⟩ := s_cageWithout_l (d := d) hW (b 3) 0 M (by omega) hR
  refine ⟨M', ?_, h2⟩
  refine e_M_cageWithout ?_
  rw [h1]
  unfold cgWo
  rw [List.range_eq_range']
theorem s_cellWithout_l (hR : MR b M) (hW : Wf b) : ∀ j i, i + j = b 0 * b 1 → h_M_cellWithout_2 (d + 3) (nI i) M = some (some (.int (pO ((List.range' i j).find? fun c => isO b c && decide (b (112 + c) = 0)))), M) := by
  have h36 := hW.n36
  intro j
  induction j with
  | zero =>
    intro i h
    refine e_M_cellWithout_2 ?_
    simp only [s_cells hR, zC1_some, n_lt (show i < 2147483648 by omega) (show b 0 * b 1 < 2147483648 by omega)]
    rw [if_neg (by omega)]
    rfl
  | succ j ih =>
    intro i h
    refine e_M_cellWithout_2 ?_
    have hc := hW.2.2.2.1 i (by omega)
    have hm2 : 2 ^ (b 2 + 1) ≤ 2 ^ 8 := Nat.pow_le_pow_right (by omega) (by have := hW.1.2.2.1; omega)
    have hm := hc.2.1.2.1
    rw [List.range'_succ, List.find?_cons]
    cases ho : isO b i with
    | false =>
      simp only [s_cells hR, zC1_some, n_lt (show i < 2147483648 by omega) (show b 0 * b 1 < 2147483648 by omega), s_isOpen hR hW (show i < 2147483648 by omega), nB0, ho, if_true, n_add1, ih (i + 1) (by omega)]
      rw [if_pos (by omega)]
      rfl
    | true =>
      simp only [s_cells hR, zC1_some, n_lt (show i < 2147483648 by omega) (show b 0 * b 1 < 2147483648 by omega), s_isOpen hR hW (show i < 2147483648 by omega), nB0, ho, s_marks hR (show i < 36 by omega), n_eq (show b (112 + i) < 2147483648 by omega) (show 0 < 2147483648 by omega), n_add1, ih (i + 1) (by omega)]
      rw [if_pos (by omega), if_neg (by simp)]
      by_cases hz : b (112 + i) = 0
      · rw [if_pos hz, decide_eq_true hz]; rfl
      · rw [if_neg hz, decide_eq_false hz]; rfl
theorem s_cellWithout (hR : MR b M) (hW : Wf b) : zEv (d + 4) zmM_cellWithout [.ref 866] M = some (some (.int (pO (clWo b))), M) := by
  refine e_M_cellWithout ?_
  rw [s_cellWithout_l hR hW (b 0 * b 1) 0 (by omega)]
  unfold clWo
  rw [List.range_eq_range']
def brk (b : Nat → Nat) : Bool := (clWo b).isSome || (cgWo b).isSome
theorem pO_m2 {o : Option Nat} (h : ∀ i, o = some i → i < 2147483648) : (pO o = -2) ↔ o = none := by
  cases o with
  | none => exact ⟨fun _ => rfl, fun _ => rfl⟩
  | some i =>
    refine ⟨fun z => ?_, fun z => by cases z⟩
    have h2 := congrArg Int32.toInt z
    have h3 : Int32.toInt (pO (some i)) = (i : Int) := n_toInt (h i rfl)
    rw [h3] at h2
    have : (i : Int) = -2 := h2
    omega
theorem find_lt {n : Nat} {p : Nat → Bool} {i : Nat} (h : (List.range n).find? p = some i) : i < n := List.mem_range.mp (List.mem_of_find?_eq_some h)
theorem s_isBroken (hR : MR b M) (hW : Wf b) : ∃ M', zEv (d + 12) zmM_isBroken [.ref 866] M = some (some (.int (nB (brk b))), M') ∧ frI (pL 0) M M' := by
  have h36 := hW.n36
  have h12 := hW.1.2.2.2
  have e1 := pO_m2 (o := clWo b) fun i h => by have := find_lt h; omega
  have e2 := pO_m2 (o := cgWo b) fun i h => by have := find_lt h; omega
  unfold brk
  cases hc : clWo b with
  | some c =>
    refine ⟨M, ?_, fr.refl⟩
    refine e_M_isBroken ?_
    rw [hc] at e1
    simp only [s_cellWithout hR hW, zC1_some, hc]
    rw [if_neg (fun z => by cases e1.mp z)]
    rfl
  | none =>
    obtain ⟨M', h1, h2⟩ := s_cageWithout (d := d) hR hW
    refine ⟨M', ?_, h2⟩
    refine e_M_isBroken ?_
    simp only [s_cellWithout hR hW, zC1_some, e1, hc, if_true, h1, e2]
    cases cgWo b with
    | none => rfl
    | some k => rfl
/-! all ways, met one by one -/
def setOf (w : List Nat) : Nat := msk 8 fun x => w.contains x
/-- the fields say these ways -/
def WS (b : Nat → Nat) (M : ZM) (Wl : List (List Nat)) : Prop :=
  M.1 866 7 = nI Wl.length ∧ (∀ x, x < 8 → M.1 873 x = nI (if x = 0 then 0 else Wl.countP fun w => w.contains x)) ∧ (∀ i, i < 6 → M.1 874 i = nI (msk 8 fun x => Wl.any fun w => decide (i < w.length) && (w.getD i 0 == x))) ∧ M.1 866 10 = nI (msk 8 fun x => (allM b).testBit x && Wl.all fun w => w.contains x) ∧ ∀ s, s < 256 → M.1 875 s = nB (Wl.any fun w => setOf w == s)
/-- what it writes -/
def pW (i : Nat) : Nat → Nat → Prop := fun a k => (a = 872 ∧ i ≤ k) ∨ a = 873 ∨ a = 874 ∨ a = 875 ∨ (a = 866 ∧ (k = 7 ∨ k = 10))
theorem MR.frW {i : Nat} {M M' : ZM} (h : MR b M) (hf : frI (pW i) M M') : MR b M' := h.fr hf fun k _ z => by unfold pW at z; omega
theorem Laid.frW {l : List Nat} {i : Nat} {M M' : ZM} (h : Laid l M) (hf : frI (pW i) M M') (hi : l.length ≤ i) : Laid l M' := fun j hj => (hf.1 872 j (fun z => by unfold pW at z; omega)).trans (h j hj)
def metH (s : Nat) : Nat → Nat → ZM → ZM
  | 0, _, M => M
  | j + 1, i, M => metH s j (i + 1) (zpi M 873 i (M.1 873 i + nI (bif s.testBit i then 1 else 0)))
def metF (s : Nat) (M : ZM) : ZM := zpi (zpi (zpi M 866 10 (M.1 866 10 &&& nI s)) 875 s (nI 1)) 866 7 (M.1 866 7 + nI 1)
def metC (w : List Nat) : Nat → Nat → ZM → ZM
  | 0, _, M => M
  | j + 1, i, M => metC w j (i + 1) (zpi M 874 i (M.1 874 i ||| nI (2 ^ (w.getD i 0))))
theorem metH_1 {s : Nat} : ∀ {j i : Nat} {M : ZM} {a x : Nat}, (metH s j i M).1 a x = if a = 873 ∧ i ≤ x ∧ x < i + j then M.1 873 x + nI (bif s.testBit x then 1 else 0) else M.1 a x
  | 0, i, M, a, x => by
    rw [if_neg (by omega)]
    rfl
  | j + 1, i, M, a, x => by
    show (metH s j (i + 1) _).1 a x = _
    rw [metH_1, m_pi, m_pi]
    by_cases h1 : a = 873 ∧ i + 1 ≤ x ∧ x < i + 1 + j
    · rw [if_pos h1, if_neg (by omega), if_pos (by omega)]
    · rw [if_neg h1]
      by_cases h2 : a = 873 ∧ x = i
      · rw [if_pos h2, if_pos (by omega), h2.2]
      · rw [if_neg h2, if_neg (by omega)]
theorem metC_1 {w : List Nat} : ∀ {j i : Nat} {M : ZM} {a x : Nat}, (metC w j i M).1 a x = if a = 874 ∧ i ≤ x ∧ x < i + j then M.1 874 x ||| nI (2 ^ (w.getD x 0)) else M.1 a x
  | 0, i, M, a, x => by
    rw [if_neg (by omega)]
    rfl
  | j + 1, i, M, a, x => by
    show (metC w j (i + 1) _).1 a x = _
    rw [metC_1, m_pi, m_pi]
    by_cases h1 : a = 874 ∧ i + 1 ≤ x ∧ x < i + 1 + j
    · rw [if_pos h1, if_neg (by omega), if_pos (by omega)]
    · rw [if_neg h1]
      by_cases h2 : a = 874 ∧ x = i
      · rw [if_pos h2, if_pos (by omega), h2.2]
      · rw [if_neg h2, if_neg (by omega)]
theorem metH_2 {s : Nat} : ∀ {j i : Nat} {M : ZM}, (metH s j i M).2 = M.2
  | 0, _, _ => rfl
  | j + 1, i, M => by show (metH s j (i + 1) _).2 = _; rw [metH_2]; rfl
theorem metC_2 {w : List Nat} : ∀ {j i : Nat} {M : ZM}, (metC w j i M).2 = M.2
  | 0, _, _ => rfl
  | j + 1, i, M => by show (metC w j (i + 1) _).2 = _; rw [metC_2]; rfl
theorem s_met_50 {s : Nat} (hs : s < 256) : ∀ (j i : Nat) (M : ZM), i + j = 8 → h_M_met_50 (d + 1) (nI s) (nI i) M = some (none, metF s (metH s j i M)) := by
  intro j
  induction j with
  | zero =>
    intro i M h
    refine e_M_met_50 ?_
    simp only [n_lt (show 7 < 2147483648 by omega) (show i < 2147483648 by omega), n_zin (show s < 2147483648 by omega), n_clamp (show s < 2147483648 by omega)]
    rw [if_pos (by omega), if_pos (by omega)]
    rfl
  | succ j ih =>
    intro i M h
    refine e_M_met_50 ?_
    simp only [n_lt (show 7 < 2147483648 by omega) (show i < 2147483648 by omega), n_zin (show i < 2147483648 by omega), n_clamp (show i < 2147483648 by omega), s_holds (show s < 2147483648 by omega) (show i < 32 by omega), zC1_some, nB0, n_add1, ih (i + 1) _ (by omega)]
    rw [if_neg (by omega), if_pos (by omega)]
    cases hb : s.testBit i with
    | true =>
      rw [if_neg (by simp)]
      show _ = some (none, metF s (metH s j (i + 1) (zpi M 873 i (M.1 873 i + nI (bif s.testBit i then 1 else 0)))))
      rw [hb]
      rfl
    | false =>
      rw [if_pos rfl]
      show _ = some (none, metF s (metH s j (i + 1) (zpi M 873 i (M.1 873 i + nI (bif s.testBit i then 1 else 0)))))
      rw [hb]
      rfl
theorem setOf_bit {w : List Nat} {x : Nat} : (setOf w).testBit x = (decide (x < 8) && w.contains x) := msk_bit 8 _ x
theorem s_met_4 (hW : Wf b) {k : Nat} (hk : k < b 3) {w : List Nat} (hn : w.length = cgN b k) (h7 : ∀ x ∈ w, x ≤ 7) : ∀ (w2 w1 : List Nat) (M : ZM), w = w1 ++ w2 → MR b M → Laid w M → h_M_met_4 (d + 2) (nI k) (nI (setOf w1)) (nI w1.length) M = some (none, metF (setOf w) (metH (setOf w) 7 1 (metC w w2.length w1.length M))) := by
  have h12 := cg_12 hW hk
  have h6 := cgN_le hW hk
  intro w2
  induction w2 with
  | nil =>
    intro w1 M e hR hL
    rw [List.append_nil] at e
    subst e
    have hs : setOf w < 256 := msk_lt 8 _
    refine e_M_met_4 ?_
    simp only [s_ofN hR h12, zC1_some, n_lt (show w.length < 2147483648 by omega) (show cgN b k < 2147483648 by omega), s_met_50 hs 7 1 M (by omega)]
    rw [if_neg (by omega)]
    rfl
  | cons y w2 ih =>
    intro w1 M e hR hL
    have hlen : w.length = w1.length + (w2.length + 1) := by rw [e, List.length_append, List.length_cons]
    have hg : w.getD w1.length 0 = y := by
      rw [e, List.getD_eq_getElem?_getD, List.getElem?_append_right (Nat.le_refl _), Nat.sub_self]
      rfl
    have hy : M.1 872 w1.length = nI y := by rw [hL w1.length (by omega), hg]
    have hy7 : y ≤ 7 := h7 y (by rw [e]; simp)
    have f1 : frI (pW 6) M (zpi M 874 w1.length (M.1 874 w1.length ||| nI (2 ^ y))) := fr.refl.pi (by unfold pW; omega)
    have ih' := ih (w1 ++ [y]) (zpi M 874 w1.length (M.1 874 w1.length ||| nI (2 ^ y))) (by rw [e]; simp) (hR.frW f1) (hL.frW f1 (by omega))
    have hset : setOf (w1 ++ [y]) = setOf w1 ||| 2 ^ y := by
      apply Nat.eq_of_testBit_eq
      intro i
      rw [Nat.testBit_or, setOf_bit, setOf_bit, Nat.testBit_two_pow]
      by_cases h : y = i
      · subst h
        simp
        omega
      · simp [h, Ne.symm h]
    rw [hset, List.length_append, List.length_singleton] at ih'
    refine e_M_met_4 ?_
    simp only [s_ofN hR h12, zC1_some, n_lt (show w1.length < 2147483648 by omega) (show cgN b k < 2147483648 by omega), n_zin (show w1.length < 2147483648 by omega), n_clamp (show w1.length < 2147483648 by omega), hy, n_shl (show y < 32 by omega), Nat.one_shiftLeft, n_or, zL, n_add1, ih']
    rw [if_pos (by omega), if_pos (by omega)]
    show _ = some (none, metF (setOf w) (metH (setOf w) 7 1 (metC w w2.length (w1.length + 1) (zpi M 874 w1.length (M.1 874 w1.length ||| nI (2 ^ (w.getD w1.length 0)))))))
    rw [hg]
theorem s_met (hW : Wf b) {k : Nat} (hk : k < b 3) {w : List Nat} (hn : w.length = cgN b k) (h7 : ∀ x ∈ w, x ≤ 7) (hR : MR b M) (hL : Laid w M) : zEv (d + 3) zmM_met [.ref 866, .int (nI k)] M = some (none, metF (setOf w) (metH (setOf w) 7 1 (metC w w.length 0 M))) := by
  refine e_M_met ?_
  exact s_met_4 hW hk hn h7 w [] M rfl hR hL
theorem fr_met {w : List Nat} {s : Nat} : frI (pW 6) M (metF s (metH s 7 1 (metC w w.length 0 M))) := by
  refine ⟨fun a x h => ?_, fun a x _ => ?_⟩
  · unfold pW at h
    unfold metF
    simp only [m_pi, metH_1, metC_1]
    rw [if_neg (by omega), if_neg (by omega), if_neg (by omega), if_neg (by omega), if_neg (by omega)]
  · show (metH s 7 1 (metC w w.length 0 M)).2 a x = _
    rw [metH_2, metC_2]
theorem met_7 {w : List Nat} {s : Nat} : (metF s (metH s 7 1 (metC w w.length 0 M))).1 866 7 = M.1 866 7 + nI 1 := by
  unfold metF
  simp [m_pi, metH_1, metC_1]
theorem met_10 {w : List Nat} {s : Nat} : (metF s (metH s 7 1 (metC w w.length 0 M))).1 866 10 = M.1 866 10 &&& nI s := by
  unfold metF
  simp [m_pi, metH_1, metC_1]
theorem met_873 {w : List Nat} {s x : Nat} : (metF s (metH s 7 1 (metC w w.length 0 M))).1 873 x = if 1 ≤ x ∧ x < 8 then M.1 873 x + nI (bif s.testBit x then 1 else 0) else M.1 873 x := by
  unfold metF
  simp [m_pi, metH_1, metC_1]
theorem met_874 {w : List Nat} {s x : Nat} : (metF s (metH s 7 1 (metC w w.length 0 M))).1 874 x = if x < w.length then M.1 874 x ||| nI (2 ^ (w.getD x 0)) else M.1 874 x := by
  unfold metF
  simp [m_pi, metH_1, metC_1]
theorem met_875 {w : List Nat} {s x : Nat} : (metF s (metH s 7 1 (metC w w.length 0 M))).1 875 x = if x = s then nI 1 else M.1 875 x := by
  unfold metF
  simp [m_pi, metH_1, metC_1]
/-- one more way -/
theorem WS_met (hW : Wf b) {w : List Nat} {Wl : List (List Nat)} (h6 : w.length ≤ 6) (h7 : ∀ x ∈ w, 1 ≤ x ∧ x ≤ 7) (hS : WS b M Wl) : WS b (metF (setOf w) (metH (setOf w) 7 1 (metC w w.length 0 M))) (Wl ++ [w]) := by
  obtain ⟨h1, h2, h3, h4, h5⟩ := hS
  refine ⟨?_, fun x hx => ?_, fun i hi => ?_, ?_, fun s hs => ?_⟩
  · rw [met_7, h1, n_add1, List.length_append]
    rfl
  · rw [met_873, h2 x hx]
    by_cases h0 : x = 0
    · rw [if_neg (by omega), if_pos h0, if_pos h0]
    · rw [if_pos (by omega), if_neg h0, if_neg h0, n_add, List.countP_append, setOf_bit, decide_eq_true hx, Bool.true_and]
      congr 2
  · rw [met_874, h3 i hi]
    by_cases hl : i < w.length
    · have hw7 : w.getD i 0 ≤ 7 := by
        rw [List.getD_eq_getElem?_getD, List.getElem?_eq_getElem hl]
        exact (h7 _ (List.getElem_mem hl)).2
      rw [if_pos hl, n_or]
      congr 1
      apply Nat.eq_of_testBit_eq
      intro x
      rw [Nat.testBit_or, msk_bit, msk_bit, Nat.testBit_two_pow, List.any_append, List.any_cons, List.any_nil, decide_eq_true hl]
      generalize w.getD i 0 = y at hw7
      by_cases hx : y = x
      · subst hx
        rw [decide_eq_true (show y < 8 by omega), beq_self_eq_true]
        simp
      · rw [decide_eq_false hx, beq_eq_false_iff_ne.mpr hx]
        simp
    · rw [if_neg hl]
      congr 1
      refine msk_congr fun x _ => ?_
      rw [List.any_append, List.any_cons, List.any_nil, decide_eq_false hl]
      simp
  · rw [met_10, h4, n_and]
    congr 1
    apply Nat.eq_of_testBit_eq
    intro x
    rw [Nat.testBit_and, msk_bit, msk_bit, setOf_bit, List.all_append, List.all_cons, List.all_nil]
    cases decide (x < 8) <;> simp [Bool.and_assoc]
  · rw [met_875, h5 s hs, List.any_append, List.any_cons, List.any_nil]
    by_cases he : s = setOf w
    · rw [if_pos he, he, beq_self_eq_true]
      simp
      rfl
    · rw [if_neg he, beq_eq_false_iff_ne.mpr (Ne.symm he)]
      simp
theorem WS.frL {i : Nat} {M M' : ZM} {Wl : List (List Nat)} (h : WS b M Wl) (hf : frI (pL i) M M') : WS b M' Wl := by
  obtain ⟨h1, h2, h3, h4, h5⟩ := h
  exact ⟨(hf.1 866 7 (fun z => by have := z.1; omega)).trans h1, fun x hx => (hf.1 873 x (fun z => by have := z.1; omega)).trans (h2 x hx), fun x hx => (hf.1 874 x (fun z => by have := z.1; omega)).trans (h3 x hx), (hf.1 866 10 (fun z => by have := z.1; omega)).trans h4, fun x hx => (hf.1 875 x (fun z => by have := z.1; omega)).trans (h5 x hx)⟩
theorem frL_W {i j : Nat} {M M' : ZM} (h : frI (pL i) M M') (hij : j ≤ i) : frI (pW j) M M' := h.mono (fun a k z => Or.inl ⟨z.1, Nat.le_trans hij z.2⟩) (fun _ _ z => z)
theorem frW_W {i j : Nat} {M M' : ZM} (h : frI (pW i) M M') (hij : j ≤ i) : frI (pW j) M M' := h.mono (fun a k z => by unfold pW at z ⊢; omega) (fun _ _ z => z)
set_option maxHeartbeats 4000000 in
theorem s_goesOn (hW : Wf b) {k : Nat} (hk : k < b 3) : ∀ (j i : Nat) (pre : List Nat) (M : ZM) (Wl : List (List Nat)), i + j = cgN b k → pre.length = i → (∀ x ∈ pre, 1 ≤ x ∧ x ≤ 7) → MR b M → Laid pre M → WS b M Wl →
    ∃ M', zEv (j + (d + 4)) zmM_goesOn [.ref 866, .int (nI k), .int (nI i)] M = some (none, M') ∧ WS b M' (Wl ++ (ext (b 2) (cgU b k) ((cgM b k).drop i) pre).filter (rgt b k)) ∧ frI (pW i) M M' := by
  have h12 := cg_12 hW hk
  have hg := hW.2.2.2.2.2 k hk
  have h6 := hg.2.1.2
  have htop := hW.1.2.2.1
  intro j
  induction j with
  | zero =>
    intro i pre M Wl hij hpl h7 hR hL hS
    have hd : (cgM b k).drop i = [] := List.drop_eq_nil_of_le (by unfold cgM; simp; omega)
    have h7' : ∀ x ∈ pre, x ≤ 7 := fun x hx => (h7 x hx).2
    rw [Nat.zero_add, hd]
    simp only [ext]
    cases hr : rgt b k pre with
    | false =>
      refine ⟨M, ?_, ?_, fr.refl⟩
      · refine e_M_goesOn ?_
        simp only [s_ofN hR h12, zC1_some, n_eq (show i < 2147483648 by omega) (show cgN b k < 2147483648 by omega), s_isRight hR hW hk hL h7' (show pre.length = cgN b k by omega), hr, nB0, if_true]
        rw [if_pos (by omega)]
      · rw [List.filter_cons, hr]
        simpa using hS
    | true =>
      refine ⟨metF (setOf pre) (metH (setOf pre) 7 1 (metC pre pre.length 0 M)), ?_, ?_, frW_W fr_met (by omega)⟩
      · refine e_M_goesOn ?_
        simp only [s_ofN hR h12, zC1_some, n_eq (show i < 2147483648 by omega) (show cgN b k < 2147483648 by omega), s_isRight hR hW hk hL h7' (show pre.length = cgN b k by omega), hr, nB0, s_met hW hk (show pre.length = cgN b k by omega) h7' hR hL, zC0_some]
        rw [if_pos (by omega)]
        rfl
      · rw [List.filter_cons, hr]
        exact WS_met hW (by omega) h7 hS
  | succ j ih =>
    intro i pre M Wl hij hpl h7 hR hL hS
    have hi : i < cgN b k := by omega
    have h7' : ∀ x ∈ pre, x ≤ 7 := fun x hx => (h7 x hx).2
    have hc36 := cgC_lt hW hk hi
    have hm := (hW.2.2.2.1 _ hc36).2.1.2.1
    have hm2 : 2 ^ (b 2 + 1) ≤ 2 ^ 8 := Nat.pow_le_pow_right (by omega) (by omega)
    have hm3 : b (112 + cgC b k i) < 2147483648 := by omega
    rw [cgM_drop hi, show (j + 1) + (d + 4) = (j + (d + 4)) + 1 by omega]
    have loop : ∀ (r dg : Nat) (M1 : ZM) (Wl : List (List Nat)), 1 ≤ dg → dg + r = b 2 + 1 → MR b M1 → Laid pre M1 → WS b M1 Wl → ∃ M', h_M_goesOn_26 (j + (d + 4)) (nI k) (nI i) (nI dg) M1 = some (none, M') ∧ WS b M' (Wl ++ ((List.range' dg r).flatMap fun x => if (b (112 + cgC b k i)).testBit x && !(cgU b k && pre.contains x) then ext (b 2) (cgU b k) ((cgM b k).drop (i + 1)) (pre ++ [x]) else []).filter (rgt b k)) ∧ frI (pW i) M1 M' := by
      intro r
      induction r with
      | zero =>
        intro dg M1 Wl h1 hdr hR1 hL1 hS1
        refine ⟨M1, ?_, by simpa using hS1, fr.refl⟩
        refine e_M_goesOn_26 ?_
        have htp := s_top (d := j + (d + 3)) hR1
        rw [show j + (d + 3) + 1 = j + (d + 4) by omega] at htp
        simp only [htp, zC1_some, n_lt (show b 2 < 2147483648 by omega) (show dg < 2147483648 by omega)]
        rw [if_pos (by omega)]
      | succ r ihr =>
        intro dg M1 Wl h1 hdr hR1 hL1 hS1
        have laid : ∃ M', h_M_goesOn_73 (j + (d + 4)) (nI k) (nI i) (nI dg) M1 = some (none, M') ∧ WS b M' (Wl ++ ((ext (b 2) (cgU b k) ((cgM b k).drop (i + 1)) (pre ++ [dg])).filter (rgt b k) ++ ((List.range' (dg + 1) r).flatMap fun x => if (b (112 + cgC b k i)).testBit x && !(cgU b k && pre.contains x) then ext (b 2) (cgU b k) ((cgM b k).drop (i + 1)) (pre ++ [x]) else []).filter (rgt b k))) ∧ frI (pW i) M1 M' := by
          have f2 : frI (pL i) M1 (zpi M1 872 i (nI dg)) := fr.refl.pi ⟨rfl, Nat.le_refl i⟩
          have hR2 : MR b (zpi M1 872 i (nI dg)) := hR1.frL f2
          have hL2 : Laid (pre ++ [dg]) (zpi M1 872 i (nI dg)) := by rw [← hpl]; exact hL1.push
          have hS2 : WS b (zpi M1 872 i (nI dg)) Wl := hS1.frL f2
          have hlen : (pre ++ [dg]).length = i + 1 := by simp [hpl]
          have h72 : ∀ x ∈ pre ++ [dg], 1 ≤ x ∧ x ≤ 7 := by
            intro x hx
            rcases List.mem_append.mp hx with e | e
            · exact h7 x e
            · rw [List.mem_singleton.mp e]; omega
          have hne : pre ++ [dg] ≠ [] := by simp
          have hT := s_isTooMuch (d := j + (d + 2)) hR2 hW hk hL2 (fun x hx => (h72 x hx).2) (by omega) hne
          rw [hlen, show j + (d + 2) + 2 = j + (d + 4) by omega] at hT
          cases htm : tooM b k (pre ++ [dg]) with
          | true =>
            obtain ⟨Mn, hn1, hn2, hn3⟩ := ihr (dg + 1) _ Wl (by omega) (by omega) hR2 (hL1.fr f2 (by omega)) hS2
            refine ⟨Mn, ?_, ?_, (frL_W f2 (Nat.le_refl i)).trans hn3⟩
            · refine e_M_goesOn_73 ?_
              simp only [n_zin (show i < 2147483648 by omega), n_clamp (show i < 2147483648 by omega), n_add1, hT, zC1_some, nB0, htm, hn1]
              rw [if_pos (by omega), if_neg (by simp)]
            · have : (ext (b 2) (cgU b k) ((cgM b k).drop (i + 1)) (pre ++ [dg])).filter (rgt b k) = [] := List.filter_eq_nil_iff.mpr fun w hw => by rw [prune htm w hw]; simp
              rw [this, List.nil_append]
              exact hn2
          | false =>
            obtain ⟨Mw, hw1, hw2, hw3⟩ := ih (i + 1) (pre ++ [dg]) _ Wl (by omega) hlen h72 hR2 hL2 hS2
            have hw4 : frI (pW i) M1 Mw := (frL_W f2 (Nat.le_refl i)).trans (frW_W hw3 (by omega))
            obtain ⟨Mn, hn1, hn2, hn3⟩ := ihr (dg + 1) Mw _ (by omega) (by omega) (hR1.frW hw4) (hL1.frW hw4 (by omega)) hw2
            refine ⟨Mn, ?_, by rw [← List.append_assoc]; exact hn2, hw4.trans hn3⟩
            refine e_M_goesOn_73 ?_
            simp only [n_zin (show i < 2147483648 by omega), n_clamp (show i < 2147483648 by omega), n_add1, hT, zC1_some, nB0, htm, if_true, hw1, zC0_some, hn1]
            rw [if_pos (by omega)]
        have hcell := s_cellOf (d := j + (d + 2)) hR1 h12 (show i < 6 by omega)
        rw [show j + (d + 2) + 2 = j + (d + 4) by omega] at hcell
        have hmk := s_marks (d := j + (d + 3)) hR1 hc36
        rw [show j + (d + 3) + 1 = j + (d + 4) by omega] at hmk
        have htp := s_top (d := j + (d + 3)) hR1
        rw [show j + (d + 3) + 1 = j + (d + 4) by omega] at htp
        have hhl := s_holds (d := j + (d + 3)) (M := M1) hm3 (show dg < 32 by omega)
        rw [show j + (d + 3) + 1 = j + (d + 4) by omega] at hhl
        have hof := s_of (d := j + (d + 3)) hR1 h12 (show 2 < 10 by omega)
        rw [show 148 + 10 * k + 2 = 150 + 10 * k by omega, show j + (d + 3) + 1 = j + (d + 4) by omega] at hof
        have hlaid := s_isLaid (d := j + (d + 3)) hL1 (by omega) h7' (show dg < 2147483648 by omega)
        rw [hpl, show j + (d + 3) + 1 = j + (d + 4) by omega] at hlaid
        have hu2 := hg.1.2.2
        rw [List.range'_succ, List.flatMap_cons, List.filter_append]
        cases hbit : (b (112 + cgC b k i)).testBit dg with
        | false =>
          obtain ⟨Mn, hn1, hn2, hn3⟩ := ihr (dg + 1) M1 Wl (by omega) (by omega) hR1 hL1 hS1
          refine ⟨Mn, ?_, by simpa using hn2, hn3⟩
          refine e_M_goesOn_26 ?_
          simp only [htp, zC1_some, n_lt (show b 2 < 2147483648 by omega) (show dg < 2147483648 by omega), hcell, hmk, hhl, hbit, nB0, if_true, n_add1, hn1]
          rw [if_neg (by omega)]
        | true =>
          cases hu : cgU b k with
          | true =>
            have hu' : b (150 + 10 * k) = 1 := of_decide_eq_true hu
            cases hcon : pre.contains dg with
            | true =>
              obtain ⟨Mn, hn1, hn2, hn3⟩ := ihr (dg + 1) M1 Wl (by omega) (by omega) hR1 hL1 hS1
              rw [hu] at hn2
              refine ⟨Mn, ?_, by simpa using hn2, hn3⟩
              refine e_M_goesOn_26 ?_
              simp only [htp, zC1_some, n_lt (show b 2 < 2147483648 by omega) (show dg < 2147483648 by omega), hcell, hmk, hhl, hbit, nB0, hof, hu', if_true, hlaid, hcon, n_add1, hn1]
              rw [if_neg (by omega), if_neg (by simp), if_neg (by simp)]
            | false =>
              obtain ⟨Ml, hl1, hl2, hl3⟩ := laid
              rw [hu] at hl2
              refine ⟨Ml, ?_, by simpa using hl2, hl3⟩
              refine e_M_goesOn_26 ?_
              simp only [htp, zC1_some, n_lt (show b 2 < 2147483648 by omega) (show dg < 2147483648 by omega), hcell, hmk, hhl, hbit, nB0, hof, hu', if_true, hlaid, hcon, hl1]
              rw [if_neg (by omega), if_neg (by simp)]
          | false =>
            have hu' : ¬ b (150 + 10 * k) = 1 := of_decide_eq_false hu
            obtain ⟨Ml, hl1, hl2, hl3⟩ := laid
            rw [hu] at hl2
            refine ⟨Ml, ?_, by simpa using hl2, hl3⟩
            refine e_M_goesOn_26 ?_
            simp only [htp, zC1_some, n_lt (show b 2 < 2147483648 by omega) (show dg < 2147483648 by omega), hcell, hmk, hhl, hbit, nB0, hof, n_eq (show b (150 + 10 * k) < 2147483648 by omega) (show 1 < 2147483648 by omega), hu', if_false, hl1]
            rw [if_neg (by omega), if_neg (by simp)]
    obtain ⟨M', hl1, hl2, hl3⟩ := loop (b 2) 1 M Wl (Nat.le_refl 1) (by omega) hR hL hS
    refine ⟨M', ?_, hl2, hl3⟩
    refine e_M_goesOn ?_
    have hof := s_ofN (d := j + (d + 3)) hR h12
    rw [show j + (d + 3) + 1 = j + (d + 4) by omega] at hof
    simp only [hof, zC1_some, n_eq (show i < 2147483648 by omega) (show cgN b k < 2147483648 by omega), hl1]
    rw [if_neg (by omega)]
/-- all ways laid -/
def wy0 : Nat → ZM → Nat → ZM
  | 0, M, _ => M
  | j + 1, M, q => zpi (wy0 j M q) q j (nI 0)
theorem wy0_1 {q : Nat} : ∀ {j : Nat} {M : ZM} {a x : Nat}, (wy0 j M q).1 a x = if a = q ∧ x < j then nI 0 else M.1 a x
  | 0, M, a, x => by rw [if_neg (by omega)]; rfl
  | j + 1, M, a, x => by
    show (zpi (wy0 j M q) q j (nI 0)).1 a x = _
    rw [m_pi, wy0_1]
    by_cases h : a = q ∧ x = j
    · rw [if_pos h, if_pos (by omega)]
    · rw [if_neg h]
      by_cases h2 : a = q ∧ x < j
      · rw [if_pos h2, if_pos (by omega)]
      · rw [if_neg h2, if_neg (by omega)]
theorem wy0_2 {q : Nat} : ∀ {j : Nat} {M : ZM}, (wy0 j M q).2 = M.2
  | 0, _ => rfl
  | j + 1, M => by show (wy0 j M q).2 = _; exact wy0_2
end MK
