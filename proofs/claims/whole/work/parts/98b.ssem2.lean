/-! THE CLASS, 38: solutions of the model; marks struck that no way has -/
theorem hasW_iff {b ms : Nat → Nat} (hW : Wf b) (hM : MV b ms) {k : Nat} (hk : k < b 3) : hasW (rowM b ms) k = true ↔ ∃ w : List Nat, w.length = cgN b k ∧ (∀ i, i < cgN b k → (1 ≤ w.getD i 0 ∧ w.getD i 0 ≤ 7) ∧ (ms (cgC b k i)).testBit (w.getD i 0) = true) ∧ acc (cgD b k) w := by
  have hW' := wf_rowM hW hM
  have hk' : k < rowM b ms 3 := by rw [rowM_ne (by omega)]; exact hk
  rw [← dcg_weigh hW' hk' (cgD_cg hW' hk'), weigh_iff, rowM_N, rowM_D]
  constructor
  · rintro ⟨w, h1, h2, h3⟩
    refine ⟨w, h1, fun i hi => ?_, h3⟩
    have := (wo_get w 0).mp h2 i (by omega)
    rw [Nat.zero_add, rowM_M hW hk hi] at this
    exact this
  · rintro ⟨w, h1, h2, h3⟩
    refine ⟨w, h1, (wo_get w 0).mpr fun i hi => ?_, h3⟩
    rw [Nat.zero_add, rowM_M hW hk (by omega)]
    exact h2 i (by omega)
theorem hasW_mono {b ms ms' : Nat → Nat} (hW : Wf b) (hM : MV b ms) (hM' : MV b ms') {k : Nat} (hk : k < b 3) (h : ∀ i x, i < cgN b k → (ms' (cgC b k i)).testBit x = true → (ms (cgC b k i)).testBit x = true) (hh : hasW (rowM b ms') k = true) : hasW (rowM b ms) k = true := by
  obtain ⟨w, h1, h2, h3⟩ := (hasW_iff hW hM' hk).mp hh
  exact (hasW_iff hW hM hk).mpr ⟨w, h1, fun i hi => ⟨(h2 i hi).1, h i _ hi (h2 i hi).2⟩, h3⟩
theorem mv_bit {b ms : Nat → Nat} (hM : MV b ms) {c x : Nat} (hc : c < 36) (h : (ms c).testBit x = true) : 1 ≤ x ∧ x ≤ b 2 := by
  obtain ⟨⟨h1, h2⟩, h3⟩ := hM c hc
  have h9 := Nat.ge_two_pow_of_testBit h
  have := (Nat.pow_lt_pow_iff_right (show 1 < 2 by omega)).mp (Nat.lt_of_le_of_lt h9 h1)
  refine ⟨?_, by omega⟩
  by_cases e : x = 0
  · rw [e, h2] at h; cases h
  · omega
theorem mv_um {b ms : Nat → Nat} (hW : Wf b) (hM : MV b ms) {c v : Nat} (hO : isO b c = true) (hv : ∀ x, v.testBit x = true → (ms c).testBit x = true) : MV b (um ms c v) := fun y hy => by
  by_cases e : y = c
  · subst e
    rw [um_at]
    refine ⟨⟨Nat.lt_pow_two_of_testBit _ fun i hi => ?_, ?_⟩, fun z => ?_⟩
    · cases h : v.testBit i with
      | false => rfl
      | true => have := mv_bit hM hy (hv i h); omega
    · cases h : v.testBit 0 with
      | false => rfl
      | true => have := mv_bit hM hy (hv 0 h); omega
    · rw [hO] at z; cases z
  · rw [um_ne e]
    exact hM y hy
theorem pow_bit {m x : Nat} (h : m.testBit x = true) : ∀ z, (2 ^ x).testBit z = true → m.testBit z = true := fun z hz => by
  rw [Nat.testBit_two_pow] at hz
  rw [← of_decide_eq_true hz]
  exact h
theorem enF_mv {b ms g : Nat → Nat} (hW : Wf b) (hM : MV b ms) {n c : Nat} (hn : c + n ≤ 36) (h : g ∈ enF b n ms c) : MV b g ∧ ∀ y x, (g y).testBit x = true → (ms y).testBit x = true := by
  obtain ⟨h1, h2⟩ := (enF_mem n c ms g).mp h
  have hb : ∀ y x, (g y).testBit x = true → (ms y).testBit x = true := fun y x hx => by
    by_cases hy : (c ≤ y ∧ y < c + n) ∧ isO b y = true
    · obtain ⟨x', u1, u2, u3⟩ := h2 y hy.1.1 hy.1.2 hy.2
      rw [u3] at hx
      exact pow_bit u2 x hx
    · rw [h1 y hy] at hx; exact hx
  refine ⟨fun y hy => ⟨⟨Nat.lt_pow_two_of_testBit _ fun i hi => ?_, ?_⟩, fun z => ?_⟩, hb⟩
  · cases hh : (g y).testBit i with
    | false => rfl
    | true => have := mv_bit hM hy (hb y i hh); omega
  · cases hh : (g y).testBit 0 with
    | false => rfl
    | true => have := mv_bit hM hy (hb y 0 hh); omega
  · rw [h1 y fun w => by rw [w.2] at z; cases z]
    exact (hM y hy).2 z
theorem rowM_K {b ms : Nat → Nat} {c v : Nat} (hc : c < 36) : setK (rowM b ms) c v = rowM b (um ms c v) := funext fun k => by
  unfold setK
  by_cases e : k = 112 + c
  · rw [if_pos e, e, rowM_at hc, um_at]
  · rw [if_neg e]
    by_cases h : k < 112 ∨ 148 ≤ k
    · rw [rowM_ne h, rowM_ne h]
    · have e1 : ∀ m : Nat → Nat, rowM b m k = m (k - 112) := fun m => if_pos (by omega)
      rw [e1, e1, um_ne (by omega)]
theorem rowM_inC {b ms : Nat → Nat} : inC (rowM b ms) = inC b := by
  unfold inC plc
  rw [rowM_N, rowM_C]
/-- the model's solutions are these -/
theorem sols_SL {b : Nat → Nat} (hW : Wf b) : ∀ (n c : Nat) (ms : Nat → Nat), c + n = b 0 * b 1 → MV b ms → (∀ k, k < b 3 → (∀ i, i < cgN b k → cgC b k i < c) → hasW (rowM b ms) k = true) → sols n (rowM b ms) c = ((enF b n ms c).filter (okA b)).map (rowM b)
  | 0, c, ms, hn, hM, hP => by
    show [rowM b ms] = ([ms].filter (okA b)).map (rowM b)
    have : okA b ms = true := by
      unfold okA
      rw [List.all_eq_true]
      intro k hk
      refine hP k (List.mem_range.mp hk) fun i hi => ?_
      have := isO_cell ((hW.2.2.2.2.2 k (List.mem_range.mp hk)).2.2.1 i hi)
      omega
    rw [List.filter_cons_of_pos this]
    rfl
  | n + 1, c, ms, hn, hM, hP => by
    have h36 := hW.n36
    have h27 := hW.1.2.2.1
    cases hO : isO b c with
    | false =>
      have hL : enF b (n + 1) ms c = enF b n ms (c + 1) := if_neg (by rw [hO]; simp)
      rw [hL, sols_shut (by rw [rowM_O h36]; exact hO)]
      refine sols_SL hW n (c + 1) ms (by omega) hM fun k hk hi => hP k hk fun i hi2 => ?_
      have h1 := hi i hi2
      have h2 := (hW.2.2.2.2.2 k hk).2.2.1 i hi2
      by_cases e : cgC b k i = c
      · rw [e, hO] at h2; cases h2
      · omega
    | true =>
      have hL : enF b (n + 1) ms c = (List.range' 1 7).flatMap fun x => if (ms c).testBit x then enF b n (um ms c (2 ^ x)) (c + 1) else [] := if_pos hO
      have hc : c < 36 := by omega
      have hsp : List.range' 1 7 = List.range' 1 (b 2) ++ List.range' (1 + b 2) (7 - b 2) := by
        rw [List.range'_append_1, show b 2 + (7 - b 2) = 7 by omega]
      have hhi : ((List.range' (1 + b 2) (7 - b 2)).flatMap fun x => if (ms c).testBit x then enF b n (um ms c (2 ^ x)) (c + 1) else []) = [] := flatMap_nil2 fun x hx => by
        have := List.mem_range'_1.mp hx
        have hb : (ms c).testBit x = false := by
          cases hh : (ms c).testBit x with
          | false => rfl
          | true => have := mv_bit hM hc hh; omega
        rw [hb]
        rfl
      rw [hL, hsp, List.flatMap_append, hhi, List.append_nil, sols_open (by rw [rowM_O h36]; exact hO), rowM_ne (by omega), List.filter_flatMap, List.map_flatMap]
      refine flatMap_congr2 fun x hx => ?_
      unfold solG
      rw [rowM_at hc, rowM_K hc]
      by_cases hb : (ms c).testBit x = true
      · have hM' := mv_um hW hM hO (pow_bit hb)
        rw [if_pos hb, hb, Bool.true_and]
        by_cases hk : okC (rowM b (um ms c (2 ^ x))) c = true
        · rw [if_pos hk]
          refine sols_SL hW n (c + 1) _ (by omega) hM' fun k hk3 hi => ?_
          unfold okC at hk
          rw [List.all_eq_true] at hk
          have h1 := hk k (by rw [rowM_ne (by omega)]; exact List.mem_range.mpr hk3)
          rw [rowM_inC] at h1
          cases hin : inC b k c with
          | true => rw [hin] at h1; exact h1
          | false =>
            have hnot : ∀ i, i < cgN b k → cgC b k i ≠ c := fun i hi2 e => by
              have := (inC_iff hW).mpr ⟨i, hi2, e⟩
              rw [hin] at this; cases this
            have h2 := hP k hk3 fun i hi2 => by
              have := hi i hi2
              have := hnot i hi2
              omega
            exact hasW_mono hW hM' hM hk3 (fun i x' hi2 hx' => by rw [um_ne (hnot i hi2)]; exact hx') h2
        · rw [if_neg hk]
          symm
          rw [List.map_eq_nil_iff, List.filter_eq_nil_iff]
          intro g hg hok
          apply hk
          unfold okC
          rw [List.all_eq_true]
          intro k hk3
          rw [rowM_ne (by omega)] at hk3
          unfold okA at hok
          rw [List.all_eq_true] at hok
          obtain ⟨e1, e2⟩ := enF_mv hW hM' (by omega) hg
          rw [hasW_mono hW hM' e1 (List.mem_range.mp hk3) (fun i x' _ hx' => e2 _ _ hx') (hok k hk3), Bool.or_true]
      · rw [if_neg hb]
        rw [Bool.not_eq_true] at hb
        rw [hb, Bool.false_and]
        rfl
theorem mv_self {b : Nat → Nat} (hW : Wf b) : MV b fun c => b (112 + c) := fun c hc => ⟨⟨(hW.2.2.2.1 c hc).2.1.2.1, (hW.2.2.2.1 c hc).2.1.2.2⟩, fun z => ((hW.2.2.2.1 c hc).2.2 z).1⟩
theorem slv_SL {b : Nat → Nat} (hW : Wf b) : slv b = (SL b fun c => b (112 + c)).map (rowM b) := by
  have hM := mv_self hW
  unfold slv
  cases hb : brk b with
  | false =>
    rw [cond_false]
    have h := sols_SL hW (b 0 * b 1) 0 (fun c => b (112 + c)) (Nat.zero_add _) hM fun k hk hi => by
      have := (hW.2.2.2.2.2 k hk).2.1.1
      have := hi 0 (by omega)
      omega
    rw [rowM_self] at h
    exact h
  | true =>
    rw [cond_true]
    symm
    rw [List.map_eq_nil_iff]
    unfold brk at hb
    rw [Bool.or_eq_true] at hb
    have hno : ∀ g, ¬ g ∈ SL b fun c => b (112 + c) := fun g hg => by
      obtain ⟨⟨g1, g2⟩, g3⟩ := sl_mem.mp hg
      rcases hb with z | z
      · obtain ⟨c, hc⟩ := Option.isSome_iff_exists.mp z
        have hc2 := List.find?_some hc
        rw [Bool.and_eq_true] at hc2
        obtain ⟨x, _, h2, _⟩ := g2 c hc2.1
        rw [of_decide_eq_true hc2.2, Nat.zero_testBit] at h2
        cases h2
      · obtain ⟨k, hk⟩ := Option.isSome_iff_exists.mp z
        have hk2 := List.find?_some hk
        have hk3 := find_lt hk
        unfold SL at hg
        obtain ⟨e1, e2⟩ := enF_mv hW hM (by have := hW.n36; omega) (List.mem_filter.mp hg).1
        have := hasW_mono hW hM e1 hk3 (fun i x' _ hx' => e2 _ _ hx') (g3 k hk3)
        rw [rowM_self] at this
        rw [this] at hk2
        cases hk2
    cases hl : SL b (fun c => b (112 + c)) with
    | nil => rfl
    | cons g l => exact absurd (by rw [hl]; exact List.mem_cons_self) (hno g)
/-- only the frame counts -/
theorem hasW_congr {b b' g : Nat → Nat} (h : ∀ k, k < 40 ∨ 148 ≤ k → b' k = b k) {k : Nat} : hasW (rowM b' g) k = hasW (rowM b g) k := by
  have e : ∀ x, x < 40 ∨ 112 ≤ x → rowM b' g x = rowM b g x := fun x hx => by
    by_cases c : x < 112 ∨ 148 ≤ x
    · rw [rowM_ne c, rowM_ne c, h x (by omega)]
    · unfold rowM; rw [if_pos (by omega), if_pos (by omega)]
  have eN : cgN (rowM b' g) k = cgN (rowM b g) k := e _ (by omega)
  have eC : ∀ i, cgC (rowM b' g) k i = cgC (rowM b g) k i := fun i => e _ (by omega)
  have eM : cgM (rowM b' g) k = cgM (rowM b g) k := by
    unfold cgM
    rw [eN]
    refine List.map_congr_left fun i _ => ?_
    rw [eC, e _ (by omega)]
  unfold hasW
  have eR : rgt (rowM b' g) k = rgt (rowM b g) k := funext fun l => by
    unfold rgt
    rw [e _ (by omega), e _ (by omega)]
  have eU : cgU (rowM b' g) k = cgU (rowM b g) k := by unfold cgU; rw [e _ (by omega)]
  rw [e 2 (by omega), eU, eM, eR]
theorem sl_congr {b b' : Nat → Nat} (hN : b 0 * b 1 ≤ 36) (h : ∀ k, k < 40 ∨ 148 ≤ k → b' k = b k) (ms : Nat → Nat) : SL b' ms = SL b ms := by
  have eO : isO b' = isO b := funext fun x => by
    unfold isO
    rw [h 0 (by omega), h 1 (by omega)]
    by_cases hx : x < b 0 * b 1
    · rw [h (4 + x) (by omega)]
    · rw [decide_eq_false hx, Bool.false_and, Bool.false_and]
  have eF : ∀ n ms c, enF b' n ms c = enF b n ms c := by
    intro n
    induction n with
    | zero => intro ms c; rfl
    | succ n ih =>
      intro ms c
      unfold enF
      rw [eO]
      by_cases hO : isO b c = true
      · rw [if_pos hO, if_pos hO]
        exact flatMap_congr2 fun x _ => by rw [ih]
      · rw [if_neg hO, if_neg hO, ih]
  unfold SL
  rw [h 0 (by omega), h 1 (by omega), eF]
  refine List.filter_congr fun g _ => ?_
  unfold okA
  rw [h 3 (by omega)]
  congr 1
  exact funext fun k => hasW_congr h
/-! striking -/
theorem cgC_ne {b : Nat → Nat} (hW : Wf b) {k i j : Nat} (hk : k < b 3) (hi : i < cgN b k) (hj : j < cgN b k) (h : i ≠ j) : cgC b k i ≠ cgC b k j := by
  have hg := (hW.2.2.2.2.2 k hk).2.2.2
  rcases Nat.lt_or_gt_of_ne h with c | c
  · have := hg i j c hj; omega
  · have := hg j i c hi; omega
/-- the marks when so many of the cage's cells were looked through -/
def stI (b : Nat → Nat) (k : Nat) (ms : Nat → Nat) : Nat → Nat → Nat
  | 0 => ms
  | i + 1 => um (stI b k ms i) (cgC b k i) (couldD (ways (rowM b ms) k) i)
theorem stI_out {b ms : Nat → Nat} {k y : Nat} : ∀ {n : Nat}, (∀ i, i < n → y ≠ cgC b k i) → stI b k ms n y = ms y
  | 0, _ => rfl
  | n + 1, h => by
    show um (stI b k ms n) (cgC b k n) _ y = ms y
    rw [um_ne (h n (by omega))]
    exact stI_out fun i hi => h i (by omega)
theorem stI_in {b ms : Nat → Nat} (hW : Wf b) {k : Nat} (hk : k < b 3) : ∀ {n i : Nat}, i < n → n ≤ cgN b k → stI b k ms n (cgC b k i) = couldD (ways (rowM b ms) k) i
  | 0, i, h, _ => absurd h (Nat.not_lt_zero i)
  | n + 1, i, h, hn => by
    show um (stI b k ms n) (cgC b k n) _ (cgC b k i) = _
    by_cases e : i = n
    · rw [e, um_at]
    · rw [um_ne (cgC_ne hW hk (by omega) (by omega) e)]
      exact stI_in hW hk (by omega) (by omega)
theorem could_sub {b ms : Nat → Nat} (hW : Wf b) (hM : MV b ms) {k : Nat} (hk : k < b 3) {i x : Nat} (hi : i < cgN b k) (h : (couldD (ways (rowM b ms) k) i).testBit x = true) : (ms (cgC b k i)).testBit x = true := by
  have hW' := wf_rowM hW hM
  have hk' : k < rowM b ms 3 := by rw [rowM_ne (by omega)]; exact hk
  unfold couldD at h
  rw [msk_bit, Bool.and_eq_true, List.any_eq_true] at h
  obtain ⟨_, w, h1, h2⟩ := h
  rw [Bool.and_eq_true] at h2
  obtain ⟨⟨w1, w2⟩, _⟩ := (ways_iff hW' hk' w).mp h1
  have h3 := (wo_get w 0).mp w2 i (of_decide_eq_true h2.1)
  rw [Nat.zero_add, rowM_M hW hk hi, beq_iff_eq.mp h2.2] at h3
  exact h3.2
theorem could_of {b ms : Nat → Nat} (hW : Wf b) (hM : MV b ms) {k : Nat} (hk : k < b 3) {w : List Nat} (h1 : w.length = cgN b k) (h2 : ∀ i, i < cgN b k → (1 ≤ w.getD i 0 ∧ w.getD i 0 ≤ 7) ∧ (ms (cgC b k i)).testBit (w.getD i 0) = true) (h3 : acc (cgD b k) w) {i : Nat} (hi : i < cgN b k) : (couldD (ways (rowM b ms) k) i).testBit (w.getD i 0) = true := by
  have hW' := wf_rowM hW hM
  have hk' : k < rowM b ms 3 := by rw [rowM_ne (by omega)]; exact hk
  have hwo : Wo (cgMs (rowM b ms) k) 0 w := (wo_get w 0).mpr fun j hj => by
    rw [Nat.zero_add, rowM_M hW hk (by omega)]
    exact h2 j (by omega)
  have hin : w ∈ ways (rowM b ms) k := by
    refine (ways_iff hW' hk' w).mpr ⟨⟨by rw [rowM_N]; exact h1, hwo⟩, ?_⟩
    exact (cgD_cg hW' hk' w (by rw [rowM_N]; exact h1) (wo_dig hwo)).mp (by rw [rowM_D]; exact h3)
  unfold couldD
  rw [msk_bit, decide_eq_true (by have := (h2 i hi).1; omega), Bool.true_and, List.any_eq_true]
  exact ⟨w, hin, by rw [decide_eq_true (by omega), Bool.true_and]; exact beq_self_eq_true _⟩
theorem stI_le {b ms : Nat → Nat} (hW : Wf b) (hM : MV b ms) {k : Nat} (hk : k < b 3) {n : Nat} (hn : n ≤ cgN b k) : Le b (stI b k ms n) ms ∧ MV b (stI b k ms n) := by
  induction n with
  | zero => exact ⟨Le.refl, hM⟩
  | succ n ih =>
    obtain ⟨h1, h2⟩ := ih (by omega)
    have hO := (hW.2.2.2.2.2 k hk).2.2.1 n (by omega)
    have hms : stI b k ms n (cgC b k n) = ms (cgC b k n) := stI_out fun i hi => cgC_ne hW hk (by omega) (by omega) (by omega)
    refine ⟨⟨fun y hy => ?_, fun y x hx => ?_⟩, mv_um hW h2 hO fun x hx => by rw [hms]; exact could_sub hW hM hk (by omega) hx⟩
    · show um (stI b k ms n) (cgC b k n) _ y = ms y
      rw [um_ne fun e => by rw [e, hO] at hy; cases hy]
      exact h1.1 y hy
    · have hx : (um (stI b k ms n) (cgC b k n) (couldD (ways (rowM b ms) k) n) y).testBit x = true := hx
      by_cases e : y = cgC b k n
      · rw [e, um_at] at hx
        rw [e]
        exact could_sub hW hM hk (by omega) hx
      · rw [um_ne e] at hx
        exact h1.2 y x hx
/-- a choice's word in a cage -/
theorem sl_word {b ms g : Nat → Nat} (hW : Wf b) (hM : MV b ms) (hg : g ∈ SL b ms) {k : Nat} (hk : k < b 3) : ∃ w : List Nat, w.length = cgN b k ∧ (∀ i, i < cgN b k → ((1 ≤ w.getD i 0 ∧ w.getD i 0 ≤ 7) ∧ (ms (cgC b k i)).testBit (w.getD i 0) = true) ∧ g (cgC b k i) = 2 ^ w.getD i 0) ∧ acc (cgD b k) w := by
  obtain ⟨⟨g1, g2⟩, g3⟩ := sl_mem.mp hg
  unfold SL at hg
  obtain ⟨e1, e2⟩ := enF_mv hW hM (by have := hW.n36; omega) (List.mem_filter.mp hg).1
  obtain ⟨w, w1, w2, w3⟩ := (hasW_iff hW e1 hk).mp (g3 k hk)
  refine ⟨w, w1, fun i hi => ?_, w3⟩
  obtain ⟨x, x1, x2, x3⟩ := g2 _ ((hW.2.2.2.2.2 k hk).2.2.1 i hi)
  have h := w2 i hi
  rw [x3, Nat.testBit_two_pow] at h
  have hx := of_decide_eq_true h.2
  rw [← hx]
  exact ⟨⟨x1, x2⟩, x3⟩
theorem stI_sl {b ms : Nat → Nat} (hW : Wf b) (hM : MV b ms) {k : Nat} (hk : k < b 3) {n : Nat} (hn : n ≤ cgN b k) : SL b (stI b k ms n) = SL b ms := by
  obtain ⟨h1, h2⟩ := stI_le hW hM hk hn
  refine sl_same h1 fun g hg => sub_iff.mpr fun y _ _ hO => ?_
  obtain ⟨⟨g1, g2⟩, g3⟩ := sl_mem.mp hg
  obtain ⟨x, x1, x2, x3⟩ := g2 y hO
  rw [x3, lst_pow x x1.1 x1.2]
  by_cases hin : ∃ i, i < n ∧ y = cgC b k i
  · obtain ⟨i, hi, rfl⟩ := hin
    rw [stI_in hW hk hi hn]
    obtain ⟨w, w1, w2, w3⟩ := sl_word hW hM hg hk
    have hwi := (w2 i (by omega)).2
    rw [x3] at hwi
    have hwd := (w2 i (by omega)).1.1
    have hx : x = w.getD i 0 := by
      have := congrArg lst hwi
      rwa [lst_pow x x1.1 x1.2, lst_pow _ hwd.1 hwd.2] at this
    rw [hx]
    exact could_of hW hM hk w1 (fun i hi => (w2 i hi).1) w3 (by omega)
  · rw [stI_out fun i hi e => hin ⟨i, hi, e⟩]
    exact x2
theorem stI_has {b ms : Nat → Nat} (hW : Wf b) (hM : MV b ms) {k : Nat} (hk : k < b 3) (hh : hasW (rowM b ms) k = true) : hasW (rowM b (stI b k ms (cgN b k))) k = true := by
  obtain ⟨w, h1, h2, h3⟩ := (hasW_iff hW hM hk).mp hh
  refine (hasW_iff hW (stI_le hW hM hk (Nat.le_refl _)).2 hk).mpr ⟨w, h1, fun i hi => ⟨(h2 i hi).1, ?_⟩, h3⟩
  rw [stI_in hW hk hi (Nat.le_refl _)]
  exact could_of hW hM hk h1 h2 h3 hi
theorem stI_nz {b ms : Nat → Nat} (hW : Wf b) (hM : MV b ms) {k : Nat} (hk : k < b 3) (hh : hasW (rowM b ms) k = true) (hz : ∀ y, isO b y = true → ms y ≠ 0) {n : Nat} (hn : n ≤ cgN b k) : ∀ y, isO b y = true → stI b k ms n y ≠ 0 := fun y hy => by
  by_cases hin : ∃ i, i < n ∧ y = cgC b k i
  · obtain ⟨i, hi, rfl⟩ := hin
    rw [stI_in hW hk hi hn]
    obtain ⟨w, h1, h2, h3⟩ := (hasW_iff hW hM hk).mp hh
    have := could_of hW hM hk h1 h2 h3 (show i < cgN b k by omega)
    intro e
    rw [e, Nat.zero_testBit] at this
    cases this
  · rw [stI_out fun i hi e => hin ⟨i, hi, e⟩]
    exact hz y hy
theorem sl_none {b ms : Nat → Nat} (hW : Wf b) (hM : MV b ms) {k : Nat} (hk : k < b 3) (hh : hasW (rowM b ms) k = false) : SL b ms = [] := by
  cases hl : SL b ms with
  | nil => rfl
  | cons g l =>
    have hg : g ∈ SL b ms := by rw [hl]; exact List.mem_cons_self
    obtain ⟨w, w1, w2, w3⟩ := sl_word hW hM hg hk
    have := (hasW_iff hW hM hk).mpr ⟨w, w1, fun i hi => (w2 i hi).1, w3⟩
    rw [hh] at this
    cases this
