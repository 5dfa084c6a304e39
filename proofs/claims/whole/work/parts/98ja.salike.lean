/-! THE CLASS, 46a: digits that could be exchanged -/
/-- the cages ask no more than unlike digits -/
def zOu (b : Nat → Nat) (n : Nat) : Bool := (List.range n).all fun k => decide (b (148 + 10 * k) = 3)
theorem zOu_all {b : Nat → Nat} {n : Nat} (h : zOu b n = true) : ∀ k, k < n → b (148 + 10 * k) = 3 := fun k hk => by
  unfold zOu at h
  rw [List.all_eq_true] at h
  exact of_decide_eq_true (h k (List.mem_range.mpr hk))
theorem zOu_succ {b : Nat → Nat} {n : Nat} : zOu b (n + 1) = (zOu b n && decide (b (148 + 10 * n) = 3)) := by
  unfold zOu
  rw [List.range_succ, List.all_append]
  congr 1
  exact Bool.and_true _
theorem popc_pos {m z : Nat} (hz : z < 32) (h : m.testBit z = true) : 0 < popc m := List.countP_pos_iff.mpr ⟨z, List.mem_range.mpr hz, h⟩
theorem mv_of {b ms g : Nat → Nat} (hM : MV b ms) (hC : ∀ y, isO b y = false → g y = ms y) (hO : ∀ y, isO b y = true → ∃ x, (1 ≤ x ∧ x ≤ 7) ∧ (ms y).testBit x = true ∧ g y = 2 ^ x) : MV b g := fun c hc => by
  cases ho : isO b c with
  | false =>
    rw [hC c ho]
    exact ⟨(hM c hc).1, fun _ => (hM c hc).2 ho⟩
  | true =>
    obtain ⟨x, x1, x2, x3⟩ := hO c ho
    have := mv_bit hM hc x2
    refine ⟨⟨?_, ?_⟩, fun z => by cases z⟩
    · rw [x3]; exact Nat.pow_lt_pow_right (by omega) (by omega)
    · rw [x3, Nat.testBit_two_pow]; exact decide_eq_false (by omega)
def zsg (x y m : Nat) : Nat := if m = 2 ^ x then 2 ^ y else if m = 2 ^ y then 2 ^ x else m
theorem zsg_x {x y : Nat} : zsg x y (2 ^ x) = 2 ^ y := if_pos rfl
theorem zsg_y {x y : Nat} : zsg x y (2 ^ y) = 2 ^ x := by
  unfold zsg
  by_cases h : 2 ^ y = 2 ^ x
  · rw [if_pos h, h]
  · rw [if_neg h, if_pos rfl]
theorem zsg_o {x y m : Nat} (h1 : m ≠ 2 ^ x) (h2 : m ≠ 2 ^ y) : zsg x y m = m := by
  unfold zsg
  rw [if_neg h1, if_neg h2]
theorem zsg_2 {x y m : Nat} : zsg x y (zsg x y m) = m := by
  by_cases h1 : m = 2 ^ x
  · rw [h1, zsg_x, zsg_y]
  · by_cases h2 : m = 2 ^ y
    · rw [h2, zsg_y, zsg_x]
    · rw [zsg_o h1 h2, zsg_o h1 h2]
theorem pw_ne {v x : Nat} (h : v ≠ x) : 2 ^ v ≠ 2 ^ x := fun e => by
  have h1 : (2 ^ x).testBit v = true := by rw [← e, Nat.testBit_two_pow]; exact decide_eq_true rfl
  rw [Nat.testBit_two_pow, decide_eq_true_iff] at h1
  exact h h1.symm
theorem bn_ne {b : Nat → Nat} (hW : Wf b) {k i : Nat} (hk : k < b 3) (hi : i < cgN b k) (hbd : bdC b k = true) : bnM b (cgC b k i) ≠ 0 := fun z => by
  have hb : (bnM b (cgC b k i)).testBit k = true := by
    unfold bnM
    rw [msk_bit, decide_eq_true hk, (inC_iff hW).mpr ⟨i, hi, rfl⟩, hbd]
    rfl
  rw [z, Nat.zero_testBit] at hb
  cases hb
theorem nod_map {n : Nat} {f : Nat → Nat} (h : ∀ i j, i < n → j < n → i ≠ j → f i ≠ f j) : ((List.range n).map f).Nodup := by
  refine List.pairwise_map.mpr (List.Pairwise.imp_of_mem (fun {i j} hi hj hne => ?_) (List.nodup_range (n := n)))
  exact h i j (List.mem_range.mp hi) (List.mem_range.mp hj) hne
theorem nod_get {w : List Nat} (h : w.Nodup) {i j : Nat} (hi : i < w.length) (hj : j < w.length) (hne : i ≠ j) : w.getD i 0 ≠ w.getD j 0 := fun e => by
  rw [getD_el hi, getD_el hj] at e
  rcases Nat.lt_or_gt_of_ne hne with c | c
  · exact List.pairwise_iff_getElem.mp h i j hi hj c e
  · exact List.pairwise_iff_getElem.mp h j i hj hi c e.symm
/-- a digit exchanged for one that the cells not sure have alike -/
theorem sl_swap {b ms : Nat → Nat} (hW : Wf b) (hM : MV b ms) (hA : ∀ k, k < b 3 → b (148 + 10 * k) = 3) (hH : ∀ j, j < b 3 → bdC b j = true → zAc b ms j) {c x y : Nat} (hO : isO b c = true) (hp : 1 < popc (ms c)) (hbn : bnM b c ≠ 0) (hx : 1 ≤ x ∧ x ≤ 7) (hy : 1 ≤ y ∧ y ≤ 7) (hal : ∀ z, isO b z = true → 1 < popc (ms z) → bnM b z ≠ 0 → (ms z).testBit x = (ms z).testBit y) (hb : (ms c).testBit y = true) (h : SL b (um ms c (2 ^ x)) = []) : SL b (um ms c (2 ^ y)) = [] := by
  have hb7 := hW.1.2.2.1
  cases hL : SL b (um ms c (2 ^ y)) with
  | nil => rfl
  | cons g L =>
    exfalso
    have hg : g ∈ SL b (um ms c (2 ^ y)) := by rw [hL]; exact List.mem_cons_self
    have hm := mv_um hW hM hO (pow_bit hb)
    have hbx : (ms c).testBit x = true := by rw [hal c hO hp hbn]; exact hb
    have hmx := mv_um hW hM hO (pow_bit hbx)
    obtain ⟨⟨g1, g2⟩, g3⟩ := sl_mem.mp hg
    have hgc : g c = 2 ^ y := by
      obtain ⟨z, z1, z2, z3⟩ := g2 c hO
      rw [um_at, Nat.testBit_two_pow, decide_eq_true_iff] at z2
      rw [z3, ← z2]
    have e1 : ∀ z, (isO b z = true ∧ 1 < popc (ms z) ∧ bnM b z ≠ 0) → (fun z => if isO b z = true ∧ 1 < popc (ms z) ∧ bnM b z ≠ 0 then zsg x y (g z) else g z) z = zsg x y (g z) := fun z u => if_pos u
    have e2 : ∀ z, ¬ (isO b z = true ∧ 1 < popc (ms z) ∧ bnM b z ≠ 0) → (fun z => if isO b z = true ∧ 1 < popc (ms z) ∧ bnM b z ≠ 0 then zsg x y (g z) else g z) z = g z := fun z u => if_neg u
    generalize (fun z => if isO b z = true ∧ 1 < popc (ms z) ∧ bnM b z ≠ 0 then zsg x y (g z) else g z) = g' at e1 e2
    have hne : ∀ z, isO b z = false → z ≠ c := fun z hz e => by rw [e, hO] at hz; cases hz
    have hgb : ∀ z, isO b z = true → ∃ v, (1 ≤ v ∧ v ≤ 7) ∧ (ms z).testBit v = true ∧ g z = 2 ^ v := fun z hz => by
      obtain ⟨v, v1, v2, v3⟩ := g2 z hz
      exact ⟨v, v1, (le_um hO hb).2 z v v2, v3⟩
    have hO' : ∀ z, isO b z = true → ∃ v, (1 ≤ v ∧ v ≤ 7) ∧ (um ms c (2 ^ x) z).testBit v = true ∧ g' z = 2 ^ v := fun z hz => by
      by_cases ez : z = c
      · exact ⟨x, hx, by rw [ez, um_at, Nat.testBit_two_pow]; exact decide_eq_true rfl, by rw [ez, e1 c ⟨hO, hp, hbn⟩, hgc, zsg_y]⟩
      · obtain ⟨v, v1, v2, v3⟩ := hgb z hz
        rw [um_ne ez]
        by_cases hu : isO b z = true ∧ 1 < popc (ms z) ∧ bnM b z ≠ 0
        · by_cases ex : v = x
          · exact ⟨y, hy, by rw [← hal z hz hu.2.1 hu.2.2, ← ex]; exact v2, by rw [e1 z hu, v3, ex, zsg_x]⟩
          · by_cases ey : v = y
            · exact ⟨x, hx, by rw [hal z hz hu.2.1 hu.2.2, ← ey]; exact v2, by rw [e1 z hu, v3, ey, zsg_y]⟩
            · exact ⟨v, v1, v2, by rw [e1 z hu, v3, zsg_o (pw_ne ex) (pw_ne ey)]⟩
        · exact ⟨v, v1, v2, by rw [e2 z hu]; exact v3⟩
    have hC : ∀ z, isO b z = false → g' z = um ms c (2 ^ x) z := fun z hz => by
      rw [e2 z (fun u => by rw [hz] at u; cases u.1), g1 z hz, um_ne (hne z hz), um_ne (hne z hz)]
    have hM' : MV b g' := mv_of hmx hC hO'
    have hin : g' ∈ SL b (um ms c (2 ^ x)) := sl_mem.mpr ⟨⟨hC, hO'⟩, fun k hk => by
      have ho : ∀ j, j < cgN b k → isO b (cgC b k j) = true := fun j hj => (hW.2.2.2.2.2 k hk).2.2.1 j hj
      have hv : ∀ j, j < cgN b k → (1 ≤ lst (g' (cgC b k j)) ∧ lst (g' (cgC b k j)) ≤ 7) ∧ g' (cgC b k j) = 2 ^ lst (g' (cgC b k j)) := fun j hj => by
        obtain ⟨v, v1, v2, v3⟩ := hO' _ (ho j hj)
        rw [v3, lst_pow v v1.1 v1.2]
        exact ⟨v1, rfl⟩
      refine (hasW_iff hW hM' hk).mpr ⟨(List.range (cgN b k)).map fun j => lst (g' (cgC b k j)), by rw [List.length_map, List.length_range], fun i hi => ?_, ?_⟩
      · rw [map_get hi]
        refine ⟨(hv i hi).1, ?_⟩
        obtain ⟨v, v1, v2, v3⟩ := hO' _ (ho i hi)
        rw [v3, lst_pow v v1.1 v1.2, Nat.testBit_two_pow]
        exact decide_eq_true rfl
      · refine (cgD_cg hW hk _ (by rw [List.length_map, List.length_range]) (map_dig fun j hj => (hv j hj).1)).mpr ⟨fun hU => ?_, by unfold rgt; rw [decide_eq_true (hA k hk), Bool.true_or]⟩
        have hbd : bdC b k = true := by unfold bdC; rw [hU, Bool.not_true, Bool.and_false]; rfl
        have hnod : ∀ w : List Nat, w.length = cgN b k → (∀ j, j < cgN b k → 1 ≤ w.getD j 0 ∧ w.getD j 0 ≤ 7) → acc (cgD b k) w → w.Nodup := fun w w1 w2 w3 => by
          refine ((cgD_cg hW hk w w1 fun z hz => ?_).mp w3).1 hU
          obtain ⟨j, hj, rfl⟩ := List.getElem_of_mem hz
          rw [← getD_el hj]
          exact w2 j (by omega)
        have hgne : ∀ i j, i < cgN b k → j < cgN b k → i ≠ j → g (cgC b k i) ≠ g (cgC b k j) := fun i j hi hj hij => by
          obtain ⟨w, w1, w2, w3⟩ := sl_word hW hm hg hk
          have := nod_get (hnod w w1 (fun j hj => (w2 j hj).1.1) w3) (i := i) (j := j) (by omega) (by omega) hij
          rw [(w2 i hi).2, (w2 j hj).2]
          exact pw_ne this
        have hun : ∀ j, j < cgN b k → 1 < popc (ms (cgC b k j)) → g' (cgC b k j) = zsg x y (g (cgC b k j)) := fun j hj hpj => e1 _ ⟨ho j hj, hpj, bn_ne hW hk hj hbd⟩
        have hsu : ∀ j, ¬ 1 < popc (ms (cgC b k j)) → g' (cgC b k j) = g (cgC b k j) := fun j hpj => e2 _ fun u => hpj u.2.1
        have mix : ∀ i j, i < cgN b k → j < cgN b k → i ≠ j → ¬ 1 < popc (ms (cgC b k i)) → 1 < popc (ms (cgC b k j)) → g' (cgC b k i) ≠ g' (cgC b k j) := fun i j hi hj hij hpi hpj e => by
          rw [hsu i hpi, hun j hj hpj] at e
          obtain ⟨a, a1, a2, a3⟩ := hgb _ (ho i hi)
          obtain ⟨v, v1, v2, v3⟩ := hgb _ (ho j hj)
          have hci := cgC_lt hW hk hi
          have hp1 : popc (ms (cgC b k i)) = 1 := by
            have := popc_pos (show a < 32 by omega) a2
            omega
          have hms : ms (cgC b k i) = 2 ^ a := popc_pow1 _ (mv_lt hM hb7 hci) _ (by omega) hp1 a2
          have hno : (ms (cgC b k j)).testBit a = true → False := fun ha => by
            obtain ⟨w, w1, w2, w3, w4⟩ := hH k hk hbd j a hj ha
            have hwi := (w2 i hi).2
            rw [hms, Nat.testBit_two_pow, decide_eq_true_iff] at hwi
            exact nod_get (hnod w w1 (fun j hj => (w2 j hj).1) w3) (i := i) (j := j) (by omega) (by omega) hij (by rw [w4, ← hwi])
          have hale := hal _ (ho j hj) hpj (bn_ne hW hk hj hbd)
          rw [a3, v3] at e
          by_cases ex : v = x
          · rw [ex, zsg_x] at e
            have hay : a = y := by
              by_cases z : a = y
              · exact z
              · exact absurd e (pw_ne z)
            exact hno (by rw [hay, ← hale, ← ex]; exact v2)
          · by_cases ey : v = y
            · rw [ey, zsg_y] at e
              have hax : a = x := by
                by_cases z : a = x
                · exact z
                · exact absurd e (pw_ne z)
              exact hno (by rw [hax, hale, ← ey]; exact v2)
            · rw [zsg_o (pw_ne ex) (pw_ne ey)] at e
              exact hgne i j hi hj hij (by rw [a3, v3, e])
        refine nod_map fun i j hi hj hij e => ?_
        have e : g' (cgC b k i) = g' (cgC b k j) := by
          rw [(hv i hi).2, (hv j hj).2, e]
        by_cases hpi : 1 < popc (ms (cgC b k i))
        · by_cases hpj : 1 < popc (ms (cgC b k j))
          · rw [hun i hi hpi, hun j hj hpj] at e
            have := congrArg (zsg x y) e
            rw [zsg_2, zsg_2] at this
            exact hgne i j hi hj hij this
          · exact mix j i hj hi (fun z => hij z.symm) hpj hpi e.symm
        · by_cases hpj : 1 < popc (ms (cgC b k j))
          · exact mix i j hi hj hij hpi hpj e
          · rw [hsu i hpi, hsu j hpj] at e
            exact hgne i j hi hj hij e⟩
    rw [h] at hin
    cases hin
section QA
variable {d : Nat} {b : Nat → Nat} {M : ZM}
theorem n_biteq {m x y : Nat} (hm : m < 256) (hx : x < 8) (hy : y < 8) (h : (nI m >>> (nI x &&& 31)) &&& nI 1 = (nI m >>> (nI y &&& 31)) &&& nI 1) : m.testBit x = m.testBit y := by
  have h1 := n_bit0 (m := m) (d := x) (by omega) (by omega)
  have h2 := n_bit0 (m := m) (d := y) (by omega) (by omega)
  cases a : m.testBit x with
  | false => exact (h2.mp (h.symm.trans (h1.mpr a))).symm
  | true =>
    cases c : m.testBit y with
    | true => rfl
    | false =>
      have := h1.mp (h.trans (h2.mpr c))
      rw [a] at this
      cases this
theorem q_alike_3 (hW : Wf b) {ms : Nat → Nat} (hM : MV b ms) {dp : Nat} (hdp : dp < 17) (hP : SPl b M) (hS : SBd b M) (hR : SRw dp ms M) {x y : Nat} (hx : x < 8) (hy : y < 8) : ∀ n p, p + n = openN b → ∃ v, h_S_areMarkedAlike_3 (d + 1) (nI dp) (nI x) (nI y) (nI p) M = some (some (.int (nB v)), M) ∧ (v = true → ∀ p', p ≤ p' → p' < openN b → 1 < popc (ms (opA b p')) → bnM b (opA b p') ≠ 0 → (ms (opA b p')).testBit x = (ms (opA b p')).testBit y) := by
  intro n
  have h16 := hW.2.2.2.2.1
  have h12 := hW.1.2.2.2
  induction n with
  | zero =>
    intro p h
    refine ⟨true, e_S_areMarkedAlike_3 ?_, fun _ p' h1 h2 => by omega⟩
    rw [hP.1, if_neg (by rw [n_lt (by omega) (by omega)]; omega)]
    rfl
  | succ n ih =>
    intro p h
    have hp : p < openN b := by omega
    obtain ⟨o1, o2⟩ := opA_mem hp
    have hm := mv_lt hM hW.1.2.2.1 o1
    have hpl := popc_le (ms (opA b p))
    have hbn : bnM b (opA b p) < 4096 := msk_lt12 h12 _
    obtain ⟨v, a1, a2⟩ := ih (p + 1) (by omega)
    have head : ∀ rr, (if nI 1 < nI (popc (ms (opA b p))) then (if nI (bnM b (opA b p)) = nI 0 then h_S_areMarkedAlike_3 (d + 1) (nI dp) (nI x) (nI y) (nI (p + 1)) M else (if ((nI (ms (opA b p)) >>> (nI x &&& 31)) &&& nI 1) = ((nI (ms (opA b p)) >>> (nI y &&& 31)) &&& nI 1) then h_S_areMarkedAlike_3 (d + 1) (nI dp) (nI x) (nI y) (nI (p + 1)) M else some (some (.int (nI 0)), M))) else h_S_areMarkedAlike_3 (d + 1) (nI dp) (nI x) (nI y) (nI (p + 1)) M) = some rr → h_S_areMarkedAlike_3 (d + 1) (nI dp) (nI x) (nI y) (nI p) M = some rr := fun rr hrr => by
      refine e_S_areMarkedAlike_3 ?_
      rw [hP.1, if_pos ((n_lt (by omega) (by omega)).mpr hp), if_pos ((n_zin (by omega)).mpr hdp), if_pos ((n_zin (by omega)).mpr (by omega)), n_clamp (by omega), n_clamp (by omega), hP.2 p hp, if_pos ((n_zin (by omega)).mpr o1), n_clamp (by omega), hR _ o1, zLr, q_bitI (by omega), zC1_some, hP.2 p hp, if_pos (c := zin (nI (opA b p)) 36 = true) ((n_zin (by omega)).mpr o1), n_clamp (by omega), hS _ o1, n_add1]
      exact hrr
    have go : ((1 < popc (ms (opA b p)) ∧ bnM b (opA b p) ≠ 0) → (ms (opA b p)).testBit x = (ms (opA b p)).testBit y) → (v = true → ∀ p', p ≤ p' → p' < openN b → 1 < popc (ms (opA b p')) → bnM b (opA b p') ≠ 0 → (ms (opA b p')).testBit x = (ms (opA b p')).testBit y) := fun hh hv p' q1 q2 q3 q4 => by
      by_cases e : p' = p
      · rw [e] at q3 q4 ⊢
        exact hh ⟨q3, q4⟩
      · exact a2 hv p' (by omega) q2 q3 q4
    by_cases h1 : 1 < popc (ms (opA b p))
    · by_cases h2 : bnM b (opA b p) = 0
      · refine ⟨v, head _ ?_, go fun z => absurd h2 z.2⟩
        rw [if_pos ((n_lt (by omega) (by omega)).mpr h1), if_pos (by rw [h2])]
        exact a1
      · by_cases h3 : ((nI (ms (opA b p)) >>> (nI x &&& 31)) &&& nI 1) = ((nI (ms (opA b p)) >>> (nI y &&& 31)) &&& nI 1)
        · refine ⟨v, head _ ?_, go fun _ => n_biteq hm hx hy h3⟩
          rw [if_pos ((n_lt (by omega) (by omega)).mpr h1), if_neg (by rw [n_eq (by omega) (by omega)]; exact h2), if_pos h3]
          exact a1
        · refine ⟨false, head _ ?_, fun z => by cases z⟩
          rw [if_pos ((n_lt (by omega) (by omega)).mpr h1), if_neg (by rw [n_eq (by omega) (by omega)]; exact h2), if_neg h3]
          rfl
    · refine ⟨v, head _ ?_, go fun z => absurd z.1 h1⟩
      rw [if_neg (by rw [n_lt (by omega) (by omega)]; exact h1)]
      exact a1
theorem q_alike (hW : Wf b) {ms : Nat → Nat} (hM : MV b ms) {dp : Nat} (hdp : dp < 17) (hP : SPl b M) (hS : SBd b M) (hR : SRw dp ms M) {x y : Nat} (hx : x < 8) (hy : y < 8) : ∃ v, zEv (d + 2) zmS_areMarkedAlike [.ref 411, .int (nI dp), .int (nI x), .int (nI y)] M = some (some (.int (nB v)), M) ∧ (v = true → ∀ z, isO b z = true → 1 < popc (ms z) → bnM b z ≠ 0 → (ms z).testBit x = (ms z).testBit y) := by
  obtain ⟨v, a1, a2⟩ := q_alike_3 (d := d) hW hM hdp hP hS hR hx hy (openN b) 0 (by omega)
  refine ⟨v, e_S_areMarkedAlike a1, fun hv z hz => ?_⟩
  obtain ⟨p, hp, rfl⟩ := opA_ex (isO_lt hW hz) hz
  exact a2 hv p (Nat.zero_le _) hp
theorem q_hasFailed_2 (hW : Wf b) {ms : Nat → Nat} (hM : MV b ms) {dp : Nat} (hdp : dp < 17) (hP : SPl b M) (hS : SBd b M) (hR : SRw dp ms M) (hU : M.1 411 5 = nB (zOu b (b 3))) {y : Nat} (hy : y ≤ 7) : ∀ n l, l + n = 8 → 1 ≤ l → ∃ v, h_S_hasFailedAlike_2 (d + 2) (nI dp) (nI y) (nI l) M = some (some (.int (nB v)), M) ∧ (v = true → zOu b (b 3) = true ∧ ∃ x, 1 ≤ x ∧ x < y ∧ ∀ z, isO b z = true → 1 < popc (ms z) → bnM b z ≠ 0 → (ms z).testBit x = (ms z).testBit y) := by
  intro n
  induction n with
  | zero =>
    intro l h h1
    refine ⟨false, e_S_hasFailedAlike_2 ?_, fun z => by cases z⟩
    rw [if_neg (c := nI l < nI y) (by rw [n_lt (by omega) (by omega)]; omega)]
    by_cases hu : M.1 411 5 = nI 0
    · rw [if_pos hu]; rfl
    · rw [if_neg hu]; rfl
  | succ n ih =>
    intro l h h1
    cases hou : zOu b (b 3) with
    | false =>
      refine ⟨false, e_S_hasFailedAlike_2 ?_, fun z => by cases z⟩
      rw [hU, hou, if_pos (show nB false = nI 0 from rfl)]
      rfl
    | true =>
      have hne : ¬ M.1 411 5 = nI 0 := by rw [hU, hou]; decide
      by_cases hl : l < y
      · obtain ⟨v, a1, a2⟩ := q_alike (d := d) hW hM hdp hP hS hR (x := l) (y := y) (by omega) (by omega)
        cases v with
        | true =>
          refine ⟨true, e_S_hasFailedAlike_2 ?_, fun _ => ⟨rfl, l, h1, hl, a2 rfl⟩⟩
          rw [if_neg hne, if_pos ((n_lt (by omega) (by omega)).mpr hl), a1, zC1_some, if_neg (show ¬ nB true = nI 0 by decide)]
          rfl
        | false =>
          obtain ⟨v, b1, b2⟩ := ih (l + 1) (by omega) (by omega)
          rw [hou] at b2
          refine ⟨v, e_S_hasFailedAlike_2 ?_, b2⟩
          rw [if_neg hne, if_pos ((n_lt (by omega) (by omega)).mpr hl), a1, zC1_some, if_pos (show nB false = nI 0 from rfl), n_add1]
          exact b1
      · refine ⟨false, e_S_hasFailedAlike_2 ?_, fun z => by cases z⟩
        rw [if_neg hne, if_neg (by rw [n_lt (by omega) (by omega)]; exact hl)]
        rfl
theorem q_hasFailed (hW : Wf b) {ms : Nat → Nat} (hM : MV b ms) {dp : Nat} (hdp : dp < 17) (hP : SPl b M) (hS : SBd b M) (hR : SRw dp ms M) (hU : M.1 411 5 = nB (zOu b (b 3))) {y : Nat} (hy : y ≤ 7) : ∃ v, zEv (d + 3) zmS_hasFailedAlike [.ref 411, .int (nI dp), .int (nI y)] M = some (some (.int (nB v)), M) ∧ (v = true → zOu b (b 3) = true ∧ ∃ x, 1 ≤ x ∧ x < y ∧ ∀ z, isO b z = true → 1 < popc (ms z) → bnM b z ≠ 0 → (ms z).testBit x = (ms z).testBit y) := by
  obtain ⟨v, a1, a2⟩ := q_hasFailed_2 (d := d) hW hM hdp hP hS hR hU hy 7 1 (by omega) (Nat.le_refl 1)
  exact ⟨v, e_S_hasFailedAlike a1, a2⟩
end QA
