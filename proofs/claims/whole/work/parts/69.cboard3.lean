/-! THE CLASS, 3: places and counts -/
theorem sorted_ext : ∀ (l1 l2 : List Nat), l1.Pairwise (· < ·) → l2.Pairwise (· < ·) → (∀ x, x ∈ l1 ↔ x ∈ l2) → l1 = l2
  | [], [], _, _, _ => rfl
  | [], y :: l2, _, _, h => absurd ((h y).mpr List.mem_cons_self) (by simp)
  | x :: l1, [], _, _, h => absurd ((h x).mp List.mem_cons_self) (by simp)
  | x :: l1, y :: l2, h1, h2, h => by
    rw [List.pairwise_cons] at h1 h2
    have e : x = y := by
      rcases List.mem_cons.mp ((h x).mp List.mem_cons_self) with z | z
      · exact z
      · rcases List.mem_cons.mp ((h y).mpr List.mem_cons_self) with w | w
        · exact w.symm
        · have := h2.1 x z
          have := h1.1 y w
          omega
    subst e
    rw [sorted_ext l1 l2 h1.2 h2.2 fun z => ?_]
    constructor
    · intro hz
      rcases List.mem_cons.mp ((h z).mp (List.mem_cons_of_mem _ hz)) with w | w
      · have := h1.1 z hz
        omega
      · exact w
    · intro hz
      rcases List.mem_cons.mp ((h z).mpr (List.mem_cons_of_mem _ hz)) with w | w
      · have := h2.1 z hz
        omega
      · exact w
theorem range_pw (n : Nat) : (List.range n).Pairwise (· < ·) := by
  rw [List.range_eq_range']
  exact List.pairwise_lt_range'
theorem map_pw {n : Nat} {f : Nat → Nat} (h : ∀ i j, i < j → j < n → f i < f j) : ((List.range n).map f).Pairwise (· < ·) := by
  rw [List.pairwise_iff_getElem]
  intro i j hi hj hij
  rw [List.length_map, List.length_range] at hi hj
  rw [List.getElem_map, List.getElem_map, List.getElem_range, List.getElem_range]
  exact h i j hij hj
theorem cnt_lt {n i : Nat} (h : i ≤ n) : (List.range n).countP (fun j => decide (j < i)) = i := by
  rw [show n = i + (n - i) by omega, List.range_add, List.countP_append, List.countP_map]
  have e1 : (List.range i).countP (fun j => decide (j < i)) = i := by
    have : (List.range i).countP (fun j => decide (j < i)) = (List.range i).length := List.countP_eq_length.mpr fun x hx => decide_eq_true (List.mem_range.mp hx)
    rw [this, List.length_range]
  have e2 : (List.range (n - i)).countP ((fun j => decide (j < i)) ∘ fun x => i + x) = 0 := List.countP_eq_zero.mpr fun x hx => by
    show ¬ decide (i + x < i) = true
    rw [decide_eq_false (by omega)]
    simp
  rw [e1, e2, Nat.add_zero]
theorem mono_lt {n : Nat} {f : Nat → Nat} (h : ∀ i j, i < j → j < n → f i < f j) {i j : Nat} (hi : i < n) (hj : j < n) : f j < f i ↔ j < i := by
  rcases Nat.lt_trichotomy i j with g | g | g
  · have := h i j g hj
    exact ⟨fun z => by omega, fun z => by omega⟩
  · subst g
    exact ⟨fun z => by omega, fun z => by omega⟩
  · have := h j i g hi
    exact ⟨fun _ => g, fun _ => this⟩
/-- how many of those that rise come before one of them -/
theorem cnt_map {n : Nat} {f : Nat → Nat} (h : ∀ i j, i < j → j < n → f i < f j) {i : Nat} (hi : i < n) : ((List.range n).map f).countP (fun x => decide (x < f i)) = i := by
  rw [List.countP_map]
  have : (List.range n).countP ((fun x => decide (x < f i)) ∘ f) = (List.range n).countP (fun j => decide (j < i)) := List.countP_congr fun j hj => by
    show decide (f j < f i) = true ↔ decide (j < i) = true
    rw [decide_eq_true_eq, decide_eq_true_eq]
    exact mono_lt h hi (List.mem_range.mp hj)
  rw [this, cnt_lt (by omega)]
theorem cnt40 {m : Nat} (h : m < 68719476736) : cnt 40 m = (List.range 36).countP fun i => m.testBit i := by
  unfold cnt
  rw [show (40 : Nat) = 36 + 4 from rfl, List.range_add, List.countP_append, List.countP_map]
  have : (List.range 4).countP ((fun i => m.testBit i) ∘ fun x => 36 + x) = 0 := List.countP_eq_zero.mpr fun x hx => by
    show ¬ m.testBit (36 + x) = true
    rw [Nat.testBit_lt_two_pow (Nat.lt_of_lt_of_le h (show 2 ^ 36 ≤ 2 ^ (36 + x) from Nat.pow_le_pow_right (by omega) (by omega)))]
    simp
  rw [this, Nat.add_zero]
theorem cnt_msk (p : Nat → Bool) : cnt 40 (msk 36 p) = ((List.range 36).filter p).length := by
  rw [cnt40 (msk36 p), ← List.countP_eq_length_filter]
  refine List.countP_congr fun i hi => ?_
  rw [msk_bit, decide_eq_true (List.mem_range.mp hi), Bool.true_and]
theorem cnt_and (p f : Nat → Bool) {m : Nat} (hm : ∀ i, i < 36 → m.testBit i = f i) : cnt 40 (msk 36 p &&& m) = ((List.range 36).filter p).countP f := by
  rw [cnt40 (Nat.lt_of_le_of_lt Nat.and_le_left (msk36 p)), List.countP_filter]
  refine List.countP_congr fun i hi => ?_
  have hi2 := List.mem_range.mp hi
  rw [Nat.testBit_and, msk_bit, decide_eq_true hi2, Bool.true_and, hm i hi2, Bool.and_comm]
theorem plc_some {b : Nat → Nat} {k i : Nat} (hk : i < cgN b k) (h : ∀ i j, i < j → j < cgN b k → cgC b k i < cgC b k j) : plc b k (cgC b k i) = some i := by
  unfold plc
  cases hf : (List.range (cgN b k)).find? fun j => cgC b k j == cgC b k i with
  | none =>
    rw [List.find?_eq_none] at hf
    exact absurd (beq_self_eq_true (cgC b k i)) (hf i (List.mem_range.mpr hk))
  | some j =>
    have h1 := List.mem_range.mp (List.mem_of_find?_eq_some hf)
    have h3 := List.find?_some hf
    have h2 : cgC b k j = cgC b k i := beq_iff_eq.mp h3
    congr 1
    rcases Nat.lt_trichotomy i j with g | g | g
    · have := h i j g h1; omega
    · exact g.symm
    · have := h j i g hk; omega
theorem inC_iff2 {b : Nat → Nat} {k c : Nat} : inC b k c = true ↔ ∃ i, i < cgN b k ∧ cgC b k i = c := by
  unfold inC plc
  rw [List.find?_isSome]
  constructor
  · rintro ⟨i, h1, h2⟩
    exact ⟨i, List.mem_range.mp h1, beq_iff_eq.mp h2⟩
  · rintro ⟨i, h1, h2⟩
    exact ⟨i, List.mem_range.mpr h1, beq_iff_eq.mpr h2⟩
/-- a cage's cells as they lie on the board -/
theorem cgL_eq {b : Nat → Nat} {k : Nat} (hg : ∀ i j, i < j → j < cgN b k → cgC b k i < cgC b k j) (h36 : ∀ i, i < cgN b k → cgC b k i < 36) : (List.range 36).filter (inC b k) = (List.range (cgN b k)).map (cgC b k) := by
  refine sorted_ext _ _ (List.Pairwise.filter _ (range_pw 36)) (map_pw hg) fun x => ?_
  rw [List.mem_filter, List.mem_map, List.mem_range, inC_iff2]
  constructor
  · rintro ⟨_, i, h1, h2⟩
    exact ⟨i, List.mem_range.mpr h1, h2⟩
  · rintro ⟨i, h1, h2⟩
    have h1 := List.mem_range.mp h1
    exact ⟨by rw [← h2]; exact h36 i h1, i, h1, h2⟩
theorem opL_map (b : Nat → Nat) : opL b = (List.range (openN b)).map (opA b) := by
  apply List.ext_getElem
  · rw [List.length_map, List.length_range]; rfl
  · intro i h1 h2
    rw [List.getElem_map, List.getElem_range]
    unfold opA
    rw [getD_el h1]
theorem opA_lt {b : Nat → Nat} : ∀ i j, i < j → j < openN b → opA b i < opA b j := fun i j hij hj => by
  have hp : (opL b).Pairwise (· < ·) := List.Pairwise.filter _ (range_pw 36)
  have h1 : i < (opL b).length := Nat.lt_trans hij hj
  have h2 : j < (opL b).length := hj
  unfold opA
  rw [getD_el h1, getD_el h2]
  exact List.pairwise_iff_getElem.mp hp i j h1 h2 hij
theorem l_low {c : Nat} (hc : c < 36) : nJ 1 <<< (Int32.toInt64 (nI c) &&& 63) - nJ 1 = nJ (2 ^ c - 1) := by
  rw [l_one hc, l_sub Nat.one_le_two_pow]
section QD
variable {d : Nat} {M : ZM} {b : Nat → Nat} {q : Nat}
theorem q_placeIn (hq : zkd q = (10, 0)) (hB : BRep b q M) (hW : Wf b) {k : Nat} (hk : k < b 3) (x : Int32) : zEv (d + 2) zmB_placeIn [.ref q, .int (nI k), .int x] M = some (some (.int (pI (plI b k x))), M) := by
  have h36 := hW.n36
  have h12 := hW.1.2.2.2
  have hg := hW.2.2.2.2.2 k hk
  refine e_B_placeIn hq ?_
  rw [q_isCage hq hB.sc hW.wk, zC1_some, iI_n (by omega), decide_eq_true hk, if_neg (by decide), q_isCell hq hB.sc hW.wk, zC1_some]
  unfold plI
  cases hx : iI x (b 0 * b 1) with
  | false =>
    rw [if_pos (show nB false = nI 0 from rfl)]
    by_cases h0 : 0 ≤ x.toInt
    · rw [if_pos h0]
      have : plc b k x.toInt.toNat = none := by
        cases hp : plc b k x.toInt.toNat with
        | none => rfl
        | some i =>
          obtain ⟨p1, p2⟩ := plc_lt hp
          have := isO_cell (hg.2.2.1 i p1)
          unfold iI at hx
          rw [decide_eq_true h0, Bool.true_and] at hx
          have := of_decide_eq_false hx
          omega
      rw [this]
      rfl
    · rw [if_neg h0]
      rfl
  | true =>
    obtain ⟨c, hc, rfl⟩ := iI_ex (by omega) hx
    have hm := msk36 (inC b k)
    have hbit : (iM b k).testBit c = inC b k c := by unfold iM; rw [msk_bit, decide_eq_true (by omega), Bool.true_and]
    have h0 := l_bit0 (m := iM b k) (d := c) (by unfold iM; omega) (by omega)
    rw [hbit] at h0
    rw [if_neg (by decide), if_pos ((n_zin (by omega)).mpr (by omega)), n_clamp (by omega), ((hB.2.2.2 k hk).1.2).2, n_toInt (show c < 2147483648 by omega), if_pos (show (0 : Int) ≤ (c : Int) by omega), Int.toNat_natCast]
    have hin : inC b k c = (plc b k c).isSome := rfl
    cases hp : plc b k c with
    | none =>
      rw [if_pos (h0.mpr (by rw [hin, hp]; rfl))]
      rfl
    | some i =>
      obtain ⟨p1, p2⟩ := plc_lt hp
      rw [if_neg (fun z => by have := h0.mp z; rw [hin, hp] at this; cases this), l_low (by omega), l_and, q_bitL (Nat.lt_of_le_of_lt Nat.and_le_left (by unfold iM; omega)), zC1_some]
      unfold iM
      rw [cnt_and (inC b k) (fun x => decide (x < c)) (fun i _ => Nat.testBit_two_pow_sub_one c i), cgL_eq hg.2.2.2 (fun i hi => cgC_lt hW hk hi), ← p2, cnt_map hg.2.2.2 p1]
      rfl
theorem q_placeOf (hq : zkd q = (10, 0)) (hB : BRep b q M) (hW : Wf b) {p : Nat} (hp : p < openN b) : zEv (d + 3) zmB_placeOf [.ref q, .int (nI (opA b p))] M = some (some (.int (nI p)), M) := by
  obtain ⟨hc, hO⟩ := opA_mem hp
  have hm := msk36 (isO b)
  refine e_B_placeOf hq ?_
  rw [q_isOpen (d := d) hq hB.sc hW.wk, zC1_some, oI_c hW.wk hO, if_neg (by decide), hB.2.1.1.1, l_low hc, l_and, q_bitL (Nat.lt_of_le_of_lt Nat.and_le_left (by unfold oM; omega)), zC1_some]
  unfold oM
  rw [cnt_and (isO b) (fun x => decide (x < opA b p)) (fun i _ => Nat.testBit_two_pow_sub_one _ i), show (List.range 36).filter (isO b) = opL b from rfl, opL_map, cnt_map opA_lt hp]
theorem q_doneIn (hq : zkd q = (10, 0)) (hB : BRep b q M) (hW : Wf b) (hD : WfD b) {k : Nat} (hk : k < b 3) : zEv (d + 2) zmB_doneIn [.ref q, .int (nI k)] M = some (some (.int (nI (doneN b k))), M) := by
  have h12 := hW.1.2.2.2
  have hg := hW.2.2.2.2.2 k hk
  have hm := msk36 (inC b k)
  refine e_B_doneIn hq ?_
  rw [q_isCage hq hB.sc hW.wk, zC1_some, iI_n (by omega), decide_eq_true hk, if_neg (by decide), if_pos ((n_zin (by omega)).mpr (by omega)), n_clamp (by omega), ((hB.2.2.2 k hk).1.2).2, hB.2.1.1.2, hB.2.1.2.1, l_or, l_and, q_bitL (Nat.lt_of_le_of_lt Nat.and_le_left (by unfold iM; omega)), zC1_some]
  unfold iM
  rw [cnt_and (inC b k) (fun c => decide (0 < b (40 + c))) (fun i hi => ?_), cgL_eq hg.2.2.2 (fun i hi => cgC_lt hW hk hi), List.countP_map]
  · rfl
  · rw [Nat.testBit_or]
    unfold gM pM
    rw [msk_bit, msk_bit, decide_eq_true hi, Bool.true_and, Bool.true_and]
    by_cases e : b (76 + i) = 1
    · rw [decide_eq_true e, decide_eq_true ((hD i hi).1 e), Bool.true_or]
    · rw [decide_eq_false e, decide_eq_true e, Bool.false_or, Bool.and_true]
theorem q_cagesOf_l (hq : zkd q = (10, 0)) (hB : BRep b q M) (hW : Wk b) {c : Nat} (hc : c < b 0 * b 1) : ∀ j i, i + j = b 3 → h_B_cagesOf_4 (d + 1) q (nI c) (nI (msk i fun k => inC b k c)) (nI i) M = some (some (.int (nI (cagesM b c))), M) := by
  have h36 := hW.n36
  have h12 := hW.1.2.2.2
  intro j
  induction j with
  | zero =>
    intro i h
    obtain rfl : i = b 3 := by omega
    refine e_B_cagesOf_4 hq ?_
    rw [hB.1.2.2, if_neg (by rw [n_lt (by omega) (by omega)]; omega)]
    rfl
  | succ j ih =>
    intro i h
    have ih' := ih (i + 1) (by omega)
    rw [msk_succ] at ih'
    have hm := msk36 (inC b i)
    have hbit : (iM b i).testBit c = inC b i c := by unfold iM; rw [msk_bit, decide_eq_true (by omega), Bool.true_and]
    have h1 := l_bit (m := iM b i) (d := c) (by unfold iM; omega) (by omega)
    rw [hbit] at h1
    refine e_B_cagesOf_4 hq ?_
    rw [hB.1.2.2, if_pos ((n_lt (by omega) (by omega)).mpr (by omega)), if_pos ((n_lt (by omega) (by omega)).mpr (by omega)), q_isCell hq hB.sc hW, zC1_some, iI_n (by omega), decide_eq_true hc, if_neg (by decide), if_pos ((n_zin (by omega)).mpr (by omega)), n_clamp (by omega), ((hB.2.2.2 i (by omega)).1.2).2, n_add1]
    cases hi : inC b i c with
    | true =>
      rw [hi, cond_true] at ih'
      rw [if_pos (h1.mpr hi), n_one (by omega), n_or]
      exact ih'
    | false =>
      rw [hi, cond_false, Nat.or_zero] at ih'
      rw [if_neg (fun z => by rw [h1.mp z] at hi; cases hi)]
      exact ih'
theorem q_cagesOf (hq : zkd q = (10, 0)) (hB : BRep b q M) (hW : Wk b) {c : Nat} (hc : c < b 0 * b 1) : zEv (d + 2) zmB_cagesOf [.ref q, .int (nI c)] M = some (some (.int (nI (cagesM b c))), M) := e_B_cagesOf hq (q_cagesOf_l hq hB hW hc (b 3) 0 (by omega))
/-- of a cell off the board -/
theorem q_cagesOf_n (hq : zkd q = (10, 0)) (hB : BRep b q M) (hW : Wk b) {x : Int32} (hx : iI x (b 0 * b 1) = false) : zEv (d + 2) zmB_cagesOf [.ref q, .int x] M = some (some (.int (nI 0)), M) := by
  have h12 := hW.1.2.2.2
  have key : ∀ j i, i + j = b 3 → h_B_cagesOf_4 (d + 1) q x (nI 0) (nI i) M = some (some (.int (nI 0)), M) := by
    intro j
    induction j with
    | zero =>
      intro i h
      refine e_B_cagesOf_4 hq ?_
      rw [hB.1.2.2, if_neg (by rw [n_lt (by omega) (by omega)]; omega)]
    | succ j ih =>
      intro i h
      refine e_B_cagesOf_4 hq ?_
      rw [hB.1.2.2, if_pos ((n_lt (by omega) (by omega)).mpr (by omega)), if_pos ((n_lt (by omega) (by omega)).mpr (by omega)), q_isCell hq hB.sc hW, zC1_some, hx, if_pos (show nB false = nI 0 from rfl), n_add1]
      exact ih (i + 1) (by omega)
  exact e_B_cagesOf hq (key (b 3) 0 (by omega))
theorem q_manyMarks_l (hq : zkd q = (10, 0)) (hB : BRep b q M) (hW : Wk b) : ∀ j i, i + j = 36 → h_B_manyMarks_4 (d + 2) q (nI (sumF (fun c => if isO b c = true then popc (b (112 + c)) else 0) i)) (nI i) M = some (some (.int (nI (sumF (fun c => if isO b c = true then popc (b (112 + c)) else 0) 36))), M) := by
  have h36 := hW.n36
  intro j
  induction j with
  | zero =>
    intro i h
    obtain rfl : i = 36 := by omega
    refine e_B_manyMarks_4 hq ?_
    rw [if_neg (by decide)]
  | succ j ih =>
    intro i h
    have ih' := ih (i + 1) (by omega)
    have eS : sumF (fun c => if isO b c = true then popc (b (112 + c)) else 0) (i + 1) = sumF (fun c => if isO b c = true then popc (b (112 + c)) else 0) i + (if isO b i = true then popc (b (112 + i)) else 0) := rfl
    rw [eS] at ih'
    have hm := hW.2 i (by omega)
    refine e_B_manyMarks_4 hq ?_
    rw [if_pos ((n_lt (by omega) (by omega)).mpr (by omega)), q_isOpen (d := d) hq hB.sc hW, zC1_some, n_add1]
    have eO : oI b (nI i) = isO b i := by
      unfold oI
      rw [iI_n (by omega), n_toInt (by omega), Int.toNat_natCast]
      unfold isO
      rw [← Bool.and_assoc, Bool.and_self]
    rw [eO]
    cases hO : isO b i with
    | false =>
      rw [hO, if_neg (by simp), Nat.add_zero] at ih'
      rw [if_pos (show nB false = nI 0 from rfl)]
      exact ih'
    | true =>
      rw [hO, if_pos rfl] at ih'
      rw [if_neg (by decide), if_pos ((n_zin (by omega)).mpr (by omega)), n_clamp (by omega), hB.2.2.1 i (by omega), q_bitI (by omega), zC1_some, n_add]
      exact ih'
theorem q_manyMarks (hq : zkd q = (10, 0)) (hB : BRep b q M) (hW : Wk b) : zEv (d + 3) zmB_manyMarks [.ref q] M = some (some (.int (nI (sumF (fun c => if isO b c = true then popc (b (112 + c)) else 0) 36))), M) := e_B_manyMarks hq (q_manyMarks_l hq hB hW 36 0 (by omega))
theorem oI_n {c : Nat} (hc : c < 2147483648) : oI b (nI c) = isO b c := by
  unfold oI
  rw [iI_n hc, n_toInt hc, Int.toNat_natCast]
  unfold isO
  rw [← Bool.and_assoc, Bool.and_self]
/-- marks by what is given -/
def mbg (b : Nat → Nat) (y : Int32) (c : Nat) : Nat := if isO b c = true then (if b (76 + c) = 1 ∧ nI c ≠ y then b (112 + c) else allM b) else 0
theorem q_marksBy_l {e : Nat} (hq : zkd q = (10, 0)) (he : zkd e = (1, 36)) (hne : e ≠ q) (hW : Wk b) (h27 : b 2 ≤ 7) (hWf : ∀ M : ZM, BSc b q M → zEv (d + 2) zmB_allDigits [.ref q] M = some (some (.int (nI (allM b))), M)) (y : Int32) : ∀ j i (M : ZM), i + j = 36 → BSc b q M → (∀ c, i ≤ c → c < 36 → isO b c = true → b (76 + c) = 1 → M.1 (q + 1) c = nI (b (112 + c))) → ∃ M', h_B_marksByGiven_2 (d + 2) q e y (nI i) M = some (none, M') ∧ frI (fun a k => a = e ∧ k < 36) M M' ∧ (∀ c, c < i → M'.1 e c = M.1 e c) ∧ ∀ c, i ≤ c → c < 36 → M'.1 e c = nI (mbg b y c) := by
  have h36 := hW.n36
  intro j
  induction j with
  | zero =>
    intro i M h hB hm
    refine ⟨M, e_B_marksByGiven_2 hq he ?_, fr.refl, fun _ _ => rfl, fun c h1 h2 => by omega⟩
    rw [if_neg (by rw [n_lt (by omega) (by omega)]; omega)]
  | succ j ih =>
    intro i M h hB hm
    have stepw : ∀ v : Nat, v = mbg b y i → (∀ R, h_B_marksByGiven_2 (d + 2) q e y (nI (i + 1)) (zpi M e i (nI v)) = some R → h_B_marksByGiven_2 (d + 2) q e y (nI i) M = some R) → ∃ M', h_B_marksByGiven_2 (d + 2) q e y (nI i) M = some (none, M') ∧ frI (fun a k => a = e ∧ k < 36) M M' ∧ (∀ c, c < i → M'.1 e c = M.1 e c) ∧ ∀ c, i ≤ c → c < 36 → M'.1 e c = nI (mbg b y c) := by
      intro v hv hgo
      have f1 : frI (fun a k => a = e ∧ k < 36) M (zpi M e i (nI v)) := fr.refl.pi ⟨rfl, by omega⟩
      have nz : ∀ k, (zpi M e i (nI v)).1 q k = M.1 q k := fun k => f1.1 q k (fun z => hne z.1.symm)
      obtain ⟨M', a1, a2, a3, a4⟩ := ih (i + 1) (zpi M e i (nI v)) (by omega) (by unfold BSc; rw [nz 0, nz 1, nz 2, nz 3, nz 7]; exact hB) (fun c h1 h2 h3 h4 => by
        rw [m_pi, if_neg (by omega)]
        exact hm c (by omega) h2 h3 h4)
      refine ⟨M', hgo _ a1, f1.trans a2, fun c hc => ?_, fun c h1 h2 => ?_⟩
      · rw [a3 c (by omega), m_pi, if_neg (by omega)]
      · by_cases e2 : c = i
        · rw [e2, a3 i (by omega), m_pi, if_pos ⟨rfl, rfl⟩, hv]
        · exact a4 c (by omega) h2
    cases hO : isO b i with
    | false =>
      refine stepw 0 (by unfold mbg; rw [hO, if_neg (by simp)]) fun R hR => e_B_marksByGiven_2 hq he ?_
      rw [if_pos ((n_lt (by omega) (by omega)).mpr (by omega)), if_pos ((n_lt (by omega) (by omega)).mpr (by omega)), q_isOpen (d := d) hq hB hW, zC1_some, oI_n (by omega), hO, if_pos (show nB false = nI 0 from rfl), if_pos ((n_zin (by omega)).mpr (by omega)), n_clamp (by omega), n_add1]
      exact hR
    | true =>
      have hc := isO_cell hO
      have eG : gI b (nI i) = decide (b (76 + i) = 1) := by
        unfold gI
        rw [iI_n (by omega), decide_eq_true hc, n_toInt (by omega), Int.toNat_natCast, Bool.true_and]
      by_cases hg : b (76 + i) = 1
      · by_cases hy : nI i = y
        · refine stepw (allM b) (by unfold mbg; rw [if_pos hO, if_neg (fun z => z.2 hy)]) fun R hR => e_B_marksByGiven_2 hq he ?_
          rw [if_pos ((n_lt (by omega) (by omega)).mpr (by omega)), if_pos ((n_lt (by omega) (by omega)).mpr (by omega)), q_isOpen (d := d) hq hB hW, zC1_some, oI_n (by omega), hO, if_neg (by decide), q_isGiven (d := d) hq hB hW, zC1_some, eG, decide_eq_true hg, if_neg (by decide), if_pos hy, hWf M hB, zC1_some, if_pos ((n_zin (by omega)).mpr (by omega)), n_clamp (by omega), n_add1]
          exact hR
        · refine stepw (b (112 + i)) (by unfold mbg; rw [if_pos hO, if_pos ⟨hg, hy⟩]) fun R hR => e_B_marksByGiven_2 hq he ?_
          rw [if_pos ((n_lt (by omega) (by omega)).mpr (by omega)), if_pos ((n_lt (by omega) (by omega)).mpr (by omega)), q_isOpen (d := d) hq hB hW, zC1_some, oI_n (by omega), hO, if_neg (by decide), q_isGiven (d := d) hq hB hW, zC1_some, eG, decide_eq_true hg, if_neg (by decide), if_neg hy, if_pos ((n_zin (by omega)).mpr (by omega)), n_clamp (by omega), hm i (Nat.le_refl i) (by omega) hO hg, n_add1]
          exact hR
      · refine stepw (allM b) (by unfold mbg; rw [if_pos hO, if_neg (fun z => hg z.1)]) fun R hR => e_B_marksByGiven_2 hq he ?_
        rw [if_pos ((n_lt (by omega) (by omega)).mpr (by omega)), if_pos ((n_lt (by omega) (by omega)).mpr (by omega)), q_isOpen (d := d) hq hB hW, zC1_some, oI_n (by omega), hO, if_neg (by decide), q_isGiven (d := d) hq hB hW, zC1_some, eG, decide_eq_false hg, if_pos (show nB false = nI 0 from rfl), hWf M hB, zC1_some, if_pos ((n_zin (by omega)).mpr (by omega)), n_clamp (by omega), n_add1]
        exact hR
theorem q_marksBy {e : Nat} (hq : zkd q = (10, 0)) (he : zkd e = (1, 36)) (hne : e ≠ q) (hW : Wk b) (hB : BSc b q M) (y : Int32) (hm : ∀ c, c < 36 → isO b c = true → b (76 + c) = 1 → M.1 (q + 1) c = nI (b (112 + c))) : ∃ M', zEv (d + 3) zmB_marksByGiven [.ref q, .ref e, .int y] M = some (none, M') ∧ frI (fun a k => a = e ∧ k < 36) M M' ∧ ∀ c, c < 36 → M'.1 e c = nI (mbg b y c) := by
  obtain ⟨M', a1, a2, a3, a4⟩ := q_marksBy_l (d := d) hq he hne hW hW.1.2.2.1 (fun M hB => q_allDigits (d := d + 1) hq hB.1.2.1 hW) y 36 0 M (by omega) hB (fun c _ h2 h3 h4 => hm c h2 h3 h4)
  exact ⟨M', e_B_marksByGiven hq he a1, a2, fun c hc => a4 c (Nat.zero_le _) hc⟩
end QD
