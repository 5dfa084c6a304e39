/-! THE MODEL, 9: solutions, the least first -/
/-- the row with other marks in a cell -/
def setK (b : Nat → Nat) (c m : Nat) : Nat → Nat := fun k => if k = 112 + c then m else b k
theorem setK_ne {b : Nat → Nat} {c m k : Nat} (h : k ≠ 112 + c) : setK b c m k = b k := if_neg h
theorem setK_at {b : Nat → Nat} {c m : Nat} : setK b c m (112 + c) = m := if_pos rfl
theorem setK_self {b : Nat → Nat} {c : Nat} : setK b c (b (112 + c)) = b := funext fun k => by
  by_cases e : k = 112 + c
  · rw [e, setK_at]
  · rw [setK_ne e]
theorem setK_set {b : Nat → Nat} {c m m' : Nat} : setK (setK b c m) c m' = setK b c m' := funext fun k => by
  by_cases e : k = 112 + c
  · rw [e, setK_at, setK_at]
  · rw [setK_ne e, setK_ne e, setK_ne e]
theorem setK_isO {b : Nat → Nat} {c m : Nat} (hN : b 0 * b 1 ≤ 36) : isO (setK b c m) = isO b := funext fun x => by
  unfold isO
  rw [setK_ne (k := 0) (by omega), setK_ne (k := 1) (by omega)]
  by_cases h : x < b 0 * b 1
  · rw [setK_ne (k := 4 + x) (by omega)]
  · rw [decide_eq_false h, Bool.false_and, Bool.false_and]
theorem setK_cgN {b : Nat → Nat} {c m : Nat} (hc : c < 36) : cgN (setK b c m) = cgN b := funext fun k => setK_ne (by omega)
theorem setK_cgC {b : Nat → Nat} {c m : Nat} (hc : c < 36) : cgC (setK b c m) = cgC b := funext fun k => funext fun i => setK_ne (by omega)
theorem setK_inC {b : Nat → Nat} {c m : Nat} (hc : c < 36) : inC (setK b c m) = inC b := funext fun k => funext fun x => by
  unfold inC plc
  rw [setK_cgN hc, setK_cgC hc]
theorem wf_setK {b : Nat → Nat} (h : Wf b) {c m : Nat} (hO : isO b c = true) (hm : m < 2 ^ (b 2 + 1)) (h0 : m.testBit 0 = false) : Wf (setK b c m) := by
  have hc := isO_lt h hO
  have eO := setK_isO (c := c) (m := m) h.n36
  have eN := setK_cgN (b := b) (m := m) hc
  have eC := setK_cgC (b := b) (m := m) hc
  unfold Wf
  rw [setK_ne (k := 0) (by omega), setK_ne (k := 1) (by omega), setK_ne (k := 2) (by omega), setK_ne (k := 3) (by omega)]
  refine ⟨h.1, h.2.1, h.2.2.1, fun x hx => ?_, ?_, fun k hk => ?_⟩
  · have g := h.2.2.2.1 x hx
    unfold WfC at g ⊢
    rw [eO, setK_ne (k := 4 + x) (by omega), setK_ne (k := 76 + x) (by omega), setK_ne (k := 40 + x) (by omega), setK_ne (k := 2) (by omega)]
    by_cases e : x = c
    · subst e
      rw [setK_at]
      exact ⟨g.1, ⟨g.2.1.1, hm, h0⟩, fun z => by rw [hO] at z; cases z⟩
    · rw [setK_ne (k := 112 + x) (by omega)]
      exact g
  · unfold openN
    rw [eO]
    exact h.2.2.2.2.1
  · have g := h.2.2.2.2.2 k hk
    unfold WfG at g ⊢
    rw [eO, eN, eC, setK_ne (k := 148 + 10 * k) (by omega), setK_ne (k := 149 + 10 * k) (by omega), setK_ne (k := 150 + 10 * k) (by omega)]
    exact g
theorem mr_setK {b : Nat → Nat} {M : ZM} (h : MR b M) {c m : Nat} : MR (setK b c m) (zpi M 867 (112 + c) (nI m)) := by
  intro k hk
  rw [m_pi]
  by_cases e : k = 112 + c
  · rw [if_pos ⟨rfl, e⟩, e, setK_at]
  · rw [if_neg (fun z => e z.2), setK_ne e]
    exact h k hk
/-- every cage of a cell has a way -/
def okC (b : Nat → Nat) (c : Nat) : Bool := (List.range (b 3)).all fun k => !inC b k c || hasW b k
def sols : Nat → (Nat → Nat) → Nat → List (Nat → Nat)
  | 0, b, _ => [b]
  | n + 1, b, c => if isO b c = true then (List.range' 1 (b 2)).flatMap fun x => if (b (112 + c)).testBit x && okC (setK b c (2 ^ x)) c then sols n (setK b c (2 ^ x)) (c + 1) else [] else sols n b (c + 1)
/-- alike outside the marks, and at the marks of a part -/
def Agr (f : Nat → Nat) (p : Nat) (b b' : Nat → Nat) : Prop := ∀ k, (k < 112 ∨ 148 ≤ k ∨ f (k - 112) = p) → b' k = b k
def Dead (f : Nat → Nat) (p n : Nat) (b : Nat → Nat) (c : Nat) : Prop := ∀ b', Agr f p b b' → sols n b' c = []
theorem agr_refl {f : Nat → Nat} {p : Nat} {b : Nat → Nat} : Agr f p b b := fun _ _ => rfl
theorem agr_K {f : Nat → Nat} {p : Nat} {b b' : Nat → Nat} (h : Agr f p b b') {c m : Nat} : Agr f p (setK b c m) (setK b' c m) := fun k hk => by
  by_cases e : k = 112 + c
  · rw [e, setK_at, setK_at]
  · rw [setK_ne e, setK_ne e, h k hk]
theorem agr_K2 {f : Nat → Nat} {p : Nat} {b b' : Nat → Nat} (h : Agr f p b b') {c m m' : Nat} (hc : c < 36) (hp : p ≠ f c) : Agr f p (setK b c m) (setK b' c m') := fun k hk => by
  have e : k ≠ 112 + c := by
    rintro rfl
    rw [Nat.add_sub_cancel_left] at hk
    omega
  rw [setK_ne e, setK_ne e, h k hk]
theorem agr_O {f : Nat → Nat} {p : Nat} {b b' : Nat → Nat} (h : Agr f p b b') {c : Nat} (hc : c < 36) : isO b' c = isO b c := by
  unfold isO
  rw [h 0 (by omega), h 1 (by omega), h (4 + c) (by omega)]
theorem agr_okC {f : Nat → Nat} {p : Nat} {b b' : Nat → Nat} (h : Agr f p b b') (hW : Wf b) (h1 : ∀ k, k < b 3 → oneP b f k) {c : Nat} (hc : f c = p) : okC b' c = okC b c := by
  have key : ∀ k, k < b 3 → (!inC b' k c || hasW b' k) = (!inC b k c || hasW b k) := by
    intro k hk
    have eN : cgN b' k = cgN b k := h _ (by omega)
    have eC : cgC b' k = cgC b k := funext fun i => h _ (by omega)
    have eI : inC b' k c = inC b k c := by
      unfold inC plc
      rw [eN, eC]
    rw [eI]
    cases hin : inC b k c with
    | false => rfl
    | true =>
      obtain ⟨i0, hi0, he0⟩ := (inC_iff hW).mp hin
      have eM : cgM b' k = cgM b k := by
        unfold cgM
        rw [eN, eC]
        refine List.map_congr_left fun i hi => h _ ?_
        rw [Nat.add_sub_cancel_left]
        refine Or.inr (Or.inr ?_)
        rw [h1 k hk i (List.mem_range.mp hi), ← h1 k hk i0 hi0, he0, hc]
      have eU : cgU b' k = cgU b k := by
        unfold cgU
        rw [h _ (by omega)]
      have eR : rgt b' k = rgt b k := funext fun l => by
        unfold rgt
        rw [h (148 + 10 * k) (by omega), h (149 + 10 * k) (by omega)]
      unfold hasW
      rw [eM, eU, eR, h 2 (by omega)]
  unfold okC
  rw [h 3 (by omega), Bool.eq_iff_iff, List.all_eq_true, List.all_eq_true]
  exact ⟨fun z k hk => by rw [← key k (List.mem_range.mp hk)]; exact z k hk, fun z k hk => by rw [key k (List.mem_range.mp hk)]; exact z k hk⟩
/-- a solution's digit -/
def dgt (b : Nat → Nat) (x : Nat) : Nat := if b (112 + x) = 0 then 0 else lst (b (112 + x))
/-- what was found is stored, from a place on -/
def St (l : List (Nat → Nat)) (s m N : Nat) (M M' : ZM) : Prop :=
  M'.1 866 20 = nI (s + min (m - s) l.length) ∧ (∀ y, y < 36 * s → M'.1 876 y = M.1 876 y) ∧ ∀ j, j < min (m - s) l.length → ∀ x, x < N → M'.1 876 (36 * (s + j) + x) = nI (dgt (l.getD j fun _ => 0) x)
theorem St.app {A B : List (Nat → Nat)} {s m N : Nat} {M M1 M' : ZM} (hN : N ≤ 36) (h1 : St A s m N M M1) (h2 : St B (s + min (m - s) A.length) m N M1 M') : St (A ++ B) s m N M M' := by
  refine ⟨?_, fun y hy => (h2.2.1 y (by omega)).trans (h1.2.1 y hy), fun j hj x hx => ?_⟩
  · rw [h2.1, List.length_append]
    congr 1
    omega
  · rw [List.length_append] at hj
    rw [List.getD_eq_getElem?_getD]
    by_cases e : j < A.length
    · rw [List.getElem?_append_left e, ← List.getD_eq_getElem?_getD, h2.2.1 _ (by omega)]
      exact h1.2.2 j (by omega) x hx
    · have g := h2.2.2 (j - A.length) (by omega) x hx
      rw [List.getElem?_append_right (by omega), ← List.getD_eq_getElem?_getD, ← g]
      exact congrArg (M'.1 876) (by omega)
theorem St.nil {s m N : Nat} {M M' : ZM} (h : M'.1 866 20 = nI s) (h2 : ∀ y, M'.1 876 y = M.1 876 y) : St [] s m N M M' := by
  refine ⟨?_, fun y _ => h2 y, fun j hj => ?_⟩
  · rw [h, List.length_nil, Nat.min_zero, Nat.add_zero]
  · rw [List.length_nil] at hj; omega
theorem St.full {l : List (Nat → Nat)} {s m N : Nat} {M M' : ZM} (e : s = m) (h : M'.1 866 20 = nI s) (h2 : ∀ y, M'.1 876 y = M.1 876 y) : St l s m N M M' := by
  refine ⟨?_, fun y _ => h2 y, fun j hj => ?_⟩
  · rw [h]; congr 1; omega
  · omega
theorem St.from {l : List (Nat → Nat)} {s m N : Nat} {M M1 M' : ZM} (h : St l s m N M1 M') (h2 : ∀ y, y < 36 * s → M1.1 876 y = M.1 876 y) : St l s m N M M' := ⟨h.1, fun y hy => (h.2.1 y hy).trans (h2 y hy), h.2.2⟩
def pF : Nat → Nat → Prop := fun a k => (a = 866 ∧ k = 20) ∨ (a = 867 ∧ k < 268) ∨ a = 872 ∨ a = 876
theorem frL_F {i : Nat} {M M' : ZM} (h : frI (pL i) M M') : frI pF M M' := h.mono (fun a k z => by unfold pL at z; unfold pF; omega) (fun _ _ z => z)
section MS
variable {d : Nat} {M : ZM} {b : Nat → Nat}
theorem s_haveWays_l (hW : Wf b) {c : Nat} : ∀ j k (M : ZM), k + j = b 3 → MR b M → ∃ M', h_M_haveWays_8 (d + 10) (nI (cagesM b c)) (nI k) M = some (some (.int (nB ((List.range' k j).all fun k => !inC b k c || hasW b k))), M') ∧ frI (pL 0) M M' := by
  have h12 := hW.1.2.2.2
  have hl : cagesM b c < 2147483648 := by
    have h1 := msk_lt (b 3) fun k => inC b k c
    have h2 : 2 ^ b 3 ≤ 2 ^ 12 := Nat.pow_le_pow_right (by omega) h12
    unfold cagesM
    omega
  intro j
  induction j with
  | zero =>
    intro k M h hR
    refine ⟨M, ?_, fr.refl⟩
    refine e_M_haveWays_8 ?_
    simp only [s_cages hR, zC1_some, n_lt (show k < 2147483648 by omega) (show b 3 < 2147483648 by omega)]
    rw [if_neg (by omega)]
    rfl
  | succ j ih =>
    intro k M h hR
    have hb : (cagesM b c).testBit k = inC b k c := by
      unfold cagesM
      rw [msk_bit, decide_eq_true (by omega), Bool.true_and]
    rw [List.range'_succ, List.all_cons]
    cases hin : inC b k c with
    | false =>
      obtain ⟨M', h1, h2⟩ := ih (k + 1) M (by omega) hR
      refine ⟨M', ?_, h2⟩
      refine e_M_haveWays_8 ?_
      simp only [s_cages hR, zC1_some, n_lt (show k < 2147483648 by omega) (show b 3 < 2147483648 by omega), s_holds hl (show k < 32 by omega), hb, hin, nB0, if_true, n_add1, h1]
      rw [if_pos (by omega)]
      rfl
    | true =>
      obtain ⟨M1, h1, h2⟩ := s_hasWay (d := d) hR hW (show k < b 3 by omega)
      cases hw : hasW b k with
      | false =>
        refine ⟨M1, ?_, h2⟩
        refine e_M_haveWays_8 ?_
        simp only [s_cages hR, zC1_some, n_lt (show k < 2147483648 by omega) (show b 3 < 2147483648 by omega), s_holds hl (show k < 32 by omega), hb, hin, nB0, h1, hw, if_true]
        rw [if_pos (by omega), if_neg (by simp)]
        rfl
      | true =>
        obtain ⟨M', h3, h4⟩ := ih (k + 1) M1 (by omega) (hR.frS (frL_S h2))
        refine ⟨M', ?_, h2.trans h4⟩
        refine e_M_haveWays_8 ?_
        simp only [s_cages hR, zC1_some, n_lt (show k < 2147483648 by omega) (show b 3 < 2147483648 by omega), s_holds hl (show k < 32 by omega), hb, hin, nB0, h1, hw, n_add1, h3]
        simp only [if_pos (show k < b 3 by omega)]
        rfl
theorem s_haveWays (hR : MR b M) (hW : Wf b) {c : Nat} (hc : c < 36) : ∃ M', zEv (d + 11) zmM_haveWays [.ref 866, .int (nI c)] M = some (some (.int (nB (okC b c))), M') ∧ frI (pL 0) M M' := by
  obtain ⟨M', h1, h2⟩ := s_haveWays_l (d := d) hW (c := c) (b 3) 0 M (by omega) hR
  refine ⟨M', ?_, h2⟩
  refine e_M_haveWays ?_
  simp only [s_cagesOf hR hW (show c < 2147483648 by omega), zC1_some]
  rw [h1]
  unfold okC
  rw [List.range_eq_range']
theorem mk_bit (hW : Wf b) {c : Nat} (hc : c < 36) (h : b (112 + c) ≠ 0) : ∃ z, 1 ≤ z ∧ z < 8 ∧ (b (112 + c)).testBit z = true := by
  have g := (hW.2.2.2.1 c hc).2.1
  obtain ⟨z, hz⟩ := Nat.exists_testBit_of_ne_zero h
  have hl : b (112 + c) < 2 ^ 8 := Nat.lt_of_lt_of_le g.2.1 (Nat.pow_le_pow_right (by omega) (by have := hW.1.2.2.1; omega))
  refine ⟨z, ?_, ?_, hz⟩
  · by_cases e : z = 0
    · rw [e, g.2.2] at hz; cases hz
    · omega
  · have h1 : 2 ^ z ≤ b (112 + c) := Nat.ge_two_pow_of_testBit hz
    exact (Nat.pow_lt_pow_iff_right (by omega)).mp (Nat.lt_of_le_of_lt h1 hl)
theorem mk_lt (hW : Wf b) {c : Nat} (hc : c < 36) : b (112 + c) < 256 := Nat.lt_of_lt_of_le (hW.2.2.2.1 c hc).2.1.2.1 (show 2 ^ (b 2 + 1) ≤ 2 ^ 8 from Nat.pow_le_pow_right (by omega) (by have := hW.1.2.2.1; omega))
theorem s_leaf (hW : Wf b) {s : Nat} (hs : s < 50) : ∀ j k (M : ZM), k + j = b 0 * b 1 → MR b M → M.1 866 20 = nI s → ∃ M', h_M_solvesFrom_34 (d + 2) (nI k) M = some (some (.int (-1)), M') ∧ frI pF M M' ∧ MR b M' ∧ M'.1 866 20 = nI (s + 1) ∧ (∀ y, y < 36 * s + k → M'.1 876 y = M.1 876 y) ∧ ∀ x, k ≤ x → x < b 0 * b 1 → M'.1 876 (36 * s + x) = nI (dgt b x) := by
  have h36 := hW.n36
  intro j
  induction j with
  | zero =>
    intro k M h hR h20
    refine ⟨zpi M 866 20 (M.1 866 20 + nI 1), ?_, fr.refl.pi (Or.inl ⟨rfl, rfl⟩), fun x hx => ?_, ?_, fun y _ => ?_, fun x h1 h2 => by omega⟩
    · refine e_M_solvesFrom_34 ?_
      simp only [s_cells hR, zC1_some, n_lt (show k < 2147483648 by omega) (show b 0 * b 1 < 2147483648 by omega)]
      rw [if_neg (by omega)]
    · rw [m_pi, if_neg (by omega)]; exact hR x hx
    · rw [m_pi, if_pos ⟨rfl, rfl⟩, h20, n_add]
    · rw [m_pi, if_neg (by omega)]
  | succ j ih =>
    intro k M h hR h20
    have hk : k < 36 := by omega
    have hm := mk_lt hW hk
    have key : ∀ v : Nat, v = dgt b k → ∃ M', h_M_solvesFrom_34 (d + 2) (nI (k + 1)) (zpi M 876 (36 * s + k) (nI v)) = some (some (.int (-1)), M') ∧ frI pF M M' ∧ MR b M' ∧ M'.1 866 20 = nI (s + 1) ∧ (∀ y, y < 36 * s + k → M'.1 876 y = M.1 876 y) ∧ ∀ x, k ≤ x → x < b 0 * b 1 → M'.1 876 (36 * s + x) = nI (dgt b x) := by
      intro v hv
      have f1 : frI pF M (zpi M 876 (36 * s + k) (nI v)) := fr.refl.pi (Or.inr (Or.inr (Or.inr rfl)))
      obtain ⟨M', h1, h2, h3, h4, h5, h6⟩ := ih (k + 1) (zpi M 876 (36 * s + k) (nI v)) (by omega) (fun x hx => by rw [m_pi, if_neg (by omega)]; exact hR x hx) (by rw [m_pi, if_neg (by omega)]; exact h20)
      refine ⟨M', h1, f1.trans h2, h3, h4, fun y hy => ?_, fun x hx1 hx2 => ?_⟩
      · rw [h5 y (by omega), m_pi, if_neg (by omega)]
      · by_cases e : x = k
        · rw [e, h5 _ (by omega), m_pi, if_pos ⟨rfl, rfl⟩, hv]
        · exact h6 x (by omega) hx2
    by_cases hz : b (112 + k) = 0
    · obtain ⟨M', h1, h2⟩ := key 0 (by unfold dgt; rw [if_pos hz])
      refine ⟨M', ?_, h2⟩
      refine e_M_solvesFrom_34 ?_
      simp only [s_cells hR, zC1_some, n_lt (show k < 2147483648 by omega) (show b 0 * b 1 < 2147483648 by omega), s_marks hR hk, n_eq (show b (112 + k) < 2147483648 by omega) (show 0 < 2147483648 by omega), h20, n_mul, n_add, n_zin (show 36 * s + k < 2147483648 by omega), n_clamp (show 36 * s + k < 2147483648 by omega)]
      rw [if_pos (by omega), if_pos hz, if_pos (by omega)]
      exact h1
    · obtain ⟨M', h1, h2⟩ := key (lst (b (112 + k))) (by unfold dgt; rw [if_neg hz])
      refine ⟨M', ?_, h2⟩
      refine e_M_solvesFrom_34 ?_
      simp only [s_cells hR, zC1_some, n_lt (show k < 2147483648 by omega) (show b 0 * b 1 < 2147483648 by omega), s_marks hR hk, n_eq (show b (112 + k) < 2147483648 by omega) (show 0 < 2147483648 by omega), h20, n_mul, n_add, n_zin (show 36 * s + k < 2147483648 by omega), n_clamp (show 36 * s + k < 2147483648 by omega), s_least (show b (112 + k) < 2147483648 by omega) (mk_bit hW hk hz)]
      rw [if_pos (by omega), if_neg hz, if_pos (by omega)]
      exact h1
end MS
