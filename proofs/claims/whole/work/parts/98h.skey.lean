/-! THE CLASS, 44: what a search remembers -/
theorem fold_perm {f : Nat → Nat → Nat} (hf : ∀ a x y, f (f a x) y = f (f a y) x) {l m : List Nat} (h : List.Perm l m) : ∀ a, l.foldl f a = m.foldl f a := by
  induction h with
  | nil => intro a; rfl
  | cons x _ ih => intro a; exact ih (f a x)
  | swap x y l => intro a; show l.foldl f (f (f a y) x) = l.foldl f (f (f a x) y); rw [hf]
  | trans _ _ ih1 ih2 => intro a; rw [ih1, ih2]
theorem tot_perm {s : Nat} {l m : List Nat} (h : List.Perm l m) : tot s l = tot s m := by
  unfold tot tSum tPrd tMin tMax
  rw [fold_perm (f := fun a x => a + x) (fun a x y => Nat.add_right_comm a x y) h, fold_perm (f := fun a x => a * x) (fun a x y => Nat.mul_right_comm a x y) h, fold_perm (f := fun a x => if x < a then x else a) (fun a x y => by (repeat' split) <;> omega) h, fold_perm (f := fun a x => if a < x then x else a) (fun a x y => by (repeat' split) <;> omega) h]
theorem rgt_perm {b : Nat → Nat} {k : Nat} {l m : List Nat} (h : List.Perm l m) : rgt b k l = rgt b k m := by
  unfold rgt
  rw [tot_perm h]
theorem acc_perm {b : Nat → Nat} (hW : Wf b) {k : Nat} (hk : k < b 3) {l m : List Nat} (h : List.Perm l m) (hl : l.length = cgN b k) (hd : ∀ x ∈ l, 1 ≤ x ∧ x ≤ 7) (ha : acc (cgD b k) l) : acc (cgD b k) m := by
  have h1 := (cgD_cg hW hk l hl hd).mp ha
  exact (cgD_cg hW hk m (by rw [← h.length_eq]; exact hl) fun x hx => hd x (h.mem_iff.mpr hx)).mpr ⟨fun u => h.nodup_iff.mp (h1.1 u), by rw [← rgt_perm h]; exact h1.2⟩
theorem rnO_app {D : DF} : ∀ (u v : List Nat) (s : Nat), rnO D (u ++ v) s = match rnO D u s with | some s1 => rnO D v s1 | none => none
  | [], v, s => rfl
  | x :: u, v, s => by
    show (match aft D s x with | some s1 => rnO D (u ++ v) s1 | none => none) = match (match aft D s x with | some s1 => rnO D u s1 | none => none) with | some s1 => rnO D v s1 | none => none
    cases aft D s x with
    | none => rfl
    | some s1 => exact rnO_app u v s1
def suB (b ms : Nat → Nat) (k j : Nat) : Bool := decide (popc (ms (cgC b k j)) = 1)
def swN (b : Nat → Nat) (k : Nat) (ms : Nat → Nat) (n : Nat) : List Nat := ((List.range n).filter (suB b ms k)).map fun j => lst (ms (cgC b k j))
def usN (b : Nat → Nat) (k : Nat) (ms v : Nat → Nat) : List Nat := ((List.range (cgN b k)).filter fun j => !suB b ms k j).map v
theorem wd_split {b : Nat → Nat} {k : Nat} {ms v : Nat → Nat} (h : ∀ j, j < cgN b k → popc (ms (cgC b k j)) = 1 → v j = lst (ms (cgC b k j))) : List.Perm (swN b k ms (cgN b k) ++ usN b k ms v) ((List.range (cgN b k)).map v) := by
  have h1 := (List.filter_append_perm (suB b ms k) (List.range (cgN b k))).map v
  rw [List.map_append] at h1
  have e : ((List.range (cgN b k)).filter (suB b ms k)).map v = swN b k ms (cgN b k) := List.map_congr_left fun j hj => by
    have hj2 := List.mem_filter.mp hj
    exact h j (List.mem_range.mp hj2.1) (of_decide_eq_true hj2.2)
  rw [e] at h1
  exact h1
def keyS (b : Nat → Nat) (k : Nat) (ms : Nat → Nat) : Nat := bif bdC b k && decide ((swN b k ms (cgN b k)).length < cgN b k) then (rnO (cgD b k) (swN b k ms (cgN b k)) 0).getD 0 else 0
theorem msk_nz {m : Nat} (hm : m < 256) (h0 : m.testBit 0 = false) (h : m ≠ 0) : ∃ z, (1 ≤ z ∧ z ≤ 7) ∧ m.testBit z = true := by
  obtain ⟨z, hz⟩ := Nat.exists_testBit_of_ne_zero h
  refine ⟨z, ⟨?_, ?_⟩, hz⟩
  · by_cases e : z = 0
    · rw [e, h0] at hz; cases hz
    · omega
  · have h1 : 2 ^ z ≤ m := Nat.ge_two_pow_of_testBit hz
    by_cases e : z ≤ 7
    · exact e
    · have : 2 ^ 8 ≤ 2 ^ z := Nat.pow_le_pow_right (by omega) (by omega)
      omega
theorem mv_su {b ms : Nat → Nat} (hM : MV b ms) (hb : b 2 ≤ 7) {c : Nat} (hc : c < 36) (h : popc (ms c) = 1) : ∃ x, (1 ≤ x ∧ x ≤ 7) ∧ ms c = 2 ^ x := by
  have h1 := mv_lt hM hb hc
  obtain ⟨x, hx, hb2⟩ := msk_nz h1 (hM c hc).1.2 (popc_0 (by omega))
  exact ⟨x, hx, popc_pow1 _ h1 x (by omega) h hb2⟩
theorem popc_2 : ∀ x, x < 8 → popc (2 ^ x) = 1 := by decide +kernel
/-- a mask below a single mark is that mark -/
theorem pow_below {m x : Nat} (h : ∀ z, m.testBit z = true → (2 ^ x).testBit z = true) (hz : m ≠ 0) : m = 2 ^ x := by
  obtain ⟨y, hy⟩ := Nat.exists_testBit_of_ne_zero hz
  have h1 := h y hy
  rw [Nat.testBit_two_pow, decide_eq_true_iff] at h1
  apply Nat.eq_of_testBit_eq
  intro z
  rw [Nat.testBit_two_pow]
  by_cases e : x = z
  · rw [decide_eq_true e, ← e, h1]; exact hy
  · rw [decide_eq_false e]
    cases hb : m.testBit z with
    | false => rfl
    | true =>
      have h2 := h z hb
      rw [Nat.testBit_two_pow, decide_eq_true_iff] at h2
      exact absurd h2 e
/-- marks that a search comes to from ms0 -/
def Inv (b ms0 ms : Nat → Nat) : Prop := ((Le b ms ms0 ∧ MV b ms) ∧ NZ b ms) ∧ (∀ g ∈ SL b ms0, (∀ c, isO b c = true → popc (ms c) = 1 → g c = ms c) → g ∈ SL b ms) ∧ ∀ j, j < b 3 → bdC b j = true → zHs b ms j
theorem inv_start {b ms0 ms : Nat → Nat} (h : Settd b ms0 ms) : Inv b ms0 ms := by
  obtain ⟨⟨⟨h1, h2⟩, h3, h4⟩, h5⟩ := h
  exact ⟨⟨⟨h1, h2⟩, h3⟩, fun g hg _ => by rw [h4]; exact hg, h5⟩
theorem le_um {b ms : Nat → Nat} {c x : Nat} (hO : isO b c = true) (hb : (ms c).testBit x = true) : Le b (um ms c (2 ^ x)) ms := by
  refine ⟨fun y hy => um_ne fun e => ?_, fun y z hz => ?_⟩
  · rw [e, hO] at hy; cases hy
  · by_cases e : y = c
    · rw [e, um_at] at hz
      rw [e]
      exact pow_bit hb z hz
    · rw [um_ne e] at hz
      exact hz
theorem sl_um {b ms g : Nat → Nat} {c x : Nat} (hO : isO b c = true) (hx : 1 ≤ x ∧ x ≤ 7) : g ∈ SL b ms → g c = 2 ^ x → g ∈ SL b (um ms c (2 ^ x)) := fun hg e => by
  obtain ⟨⟨h1, h2⟩, h3⟩ := sl_mem.mp hg
  refine sl_mem.mpr ⟨⟨fun y hy => ?_, fun y hy => ?_⟩, h3⟩
  · rw [um_ne fun e2 => by rw [e2, hO] at hy; cases hy]
    exact h1 y hy
  · by_cases e2 : y = c
    · rw [e2, um_at]
      exact ⟨x, hx, by rw [Nat.testBit_two_pow]; exact decide_eq_true rfl, e⟩
    · rw [um_ne e2]
      exact h2 y hy
theorem inv_step {b ms0 ms ms' : Nat → Nat} (hW : Wf b) (h : Inv b ms0 ms) {c x : Nat} (hO : isO b c = true) (hx : 1 ≤ x ∧ x ≤ 7) (hb : (ms c).testBit x = true) (hs : Settd b (um ms c (2 ^ x)) ms') : Inv b ms0 ms' := by
  obtain ⟨⟨⟨h1, h2⟩, h3⟩, h4, h5⟩ := h
  obtain ⟨⟨⟨s1, s2⟩, s3, s4⟩, s5⟩ := hs
  have hl := s1.trans (le_um hO hb)
  have hc := isO_lt hW hO
  refine ⟨⟨⟨hl.trans h1, s2⟩, s3⟩, fun g hg ha => ?_, s5⟩
  have hg1 : g ∈ SL b ms := h4 g hg fun y hy hp => by
    obtain ⟨z, _, hz⟩ := mv_su h2 hW.1.2.2.1 (isO_lt hW hy) hp
    have e := pow_below (m := ms' y) (x := z) (fun w hw => by rw [← hz]; exact hl.2 y w hw) (s3 y hy)
    rw [hz, ← e]
    exact ha y hy (by rw [e, ← hz]; exact hp)
  rw [s4]
  refine sl_um hO hx hg1 ?_
  have e := pow_below (m := ms' c) (x := x) (fun w hw => by have := s1.2 c w hw; rw [um_at] at this; exact this) (s3 c hO)
  rw [← e]
  exact ha c hO (by rw [e]; exact popc_2 x (by omega))
def KEq (b ms ms' : Nat → Nat) : Prop := (∀ c, isO b c = true → (popc (ms c) = 1 ↔ popc (ms' c) = 1)) ∧ ∀ k, k < b 3 → keyS b k ms = keyS b k ms'
theorem bdC_no {b : Nat → Nat} {k : Nat} (h : bdC b k = false) : b (148 + 10 * k) = 3 ∧ cgU b k = false := by
  unfold bdC at h
  rw [Bool.not_eq_false', Bool.and_eq_true, decide_eq_true_iff, Bool.not_eq_true'] at h
  exact h
theorem acc_any {b : Nat → Nat} (hW : Wf b) {k : Nat} (hk : k < b 3) (h : bdC b k = false) {w : List Nat} (hl : w.length = cgN b k) (hd : ∀ x ∈ w, 1 ≤ x ∧ x ≤ 7) : acc (cgD b k) w := by
  obtain ⟨h1, h2⟩ := bdC_no h
  refine (cgD_cg hW hk w hl hd).mpr ⟨fun u => (by rw [h2] at u; cases u), ?_⟩
  unfold rgt
  rw [decide_eq_true h1, Bool.true_or]
theorem map_dig {b : Nat → Nat} {k : Nat} {v : Nat → Nat} (hd : ∀ j, j < cgN b k → 1 ≤ v j ∧ v j ≤ 7) : ∀ x ∈ (List.range (cgN b k)).map v, 1 ≤ x ∧ x ≤ 7 := fun x hx => by
  obtain ⟨j, hj, rfl⟩ := List.mem_map.mp hx
  exact hd j (List.mem_range.mp hj)
theorem map_get {n : Nat} {v : Nat → Nat} {i : Nat} (hi : i < n) : ((List.range n).map v).getD i 0 = v i := by
  rw [getD_el (by rw [List.length_map, List.length_range]; exact hi), List.getElem_map, List.getElem_range]
/-- an accepted word, its sure digits first -/
theorem acc_su {b ms v : Nat → Nat} (hW : Wf b) {k : Nat} (hk : k < b 3) (hv : ∀ j, j < cgN b k → 1 ≤ v j ∧ v j ≤ 7) (hs : ∀ j, j < cgN b k → popc (ms (cgC b k j)) = 1 → v j = lst (ms (cgC b k j))) : acc (cgD b k) ((List.range (cgN b k)).map v) ↔ accF (cgD b k) 0 (swN b k ms (cgN b k) ++ usN b k ms v) = true := by
  rw [accF_iff (cgD_det b k)]
  have hp := wd_split hs
  have hl : ((List.range (cgN b k)).map v).length = cgN b k := by rw [List.length_map, List.length_range]
  constructor
  · intro h
    exact acc_perm hW hk hp.symm hl (map_dig hv) h
  · intro h
    exact acc_perm hW hk hp (by rw [hp.length_eq]; exact hl) (fun x hx => map_dig hv x (hp.mem_iff.mp hx)) h
theorem accF_app {D : DF} {u v : List Nat} : accF D 0 (u ++ v) = match rnO D u 0 with | some s1 => accF D s1 v | none => false := by
  unfold accF
  rw [rnO_app]
  cases rnO D u 0 <;> rfl
theorem hasW_su {b ms : Nat → Nat} (hW : Wf b) (hM : MV b ms) {k : Nat} (hk : k < b 3) (h : hasW (rowM b ms) k = true) : (∃ s1, rnO (cgD b k) (swN b k ms (cgN b k)) 0 = some s1) := by
  obtain ⟨w, h1, h2, h3⟩ := (hasW_iff hW hM hk).mp h
  rw [map_getD w, h1] at h3
  have h4 := (acc_su (ms := ms) hW hk (fun j hj => (h2 j hj).1) (fun j hj hp => by
    have hc := cgC_lt hW hk hj
    have := popc_pow1 _ (mv_lt hM hW.1.2.2.1 hc) _ (by have := (h2 j hj).1; omega) hp (h2 j hj).2
    rw [this, lst_pow _ (h2 j hj).1.1 (h2 j hj).1.2])).mp h3
  rw [accF_app] at h4
  cases e : rnO (cgD b k) (swN b k ms (cgN b k)) 0 with
  | none => rw [e] at h4; cases h4
  | some s1 => exact ⟨s1, rfl⟩
theorem suB_eq {b ms ms' : Nat → Nat} (hW : Wf b) (hK : ∀ c, isO b c = true → (popc (ms c) = 1 ↔ popc (ms' c) = 1)) {k j : Nat} (hk : k < b 3) (hj : j < cgN b k) : suB b ms k j = suB b ms' k j := by
  unfold suB
  have h := hK _ ((hW.2.2.2.2.2 k hk).2.2.1 j hj)
  by_cases e : popc (ms (cgC b k j)) = 1
  · rw [decide_eq_true e, decide_eq_true (h.mp e)]
  · rw [decide_eq_false e, decide_eq_false fun z => e (h.mpr z)]
/-- rests that look alike can be solved alike -/
theorem exch {b ms0 ms ms' : Nat → Nat} (hW : Wf b) (h0 : MV b ms0) (h1 : Inv b ms0 ms) (h2 : Inv b ms0 ms') (hK : KEq b ms ms') (hS : SL b ms' = []) : SL b ms = [] := by
  cases hL : SL b ms with
  | nil => rfl
  | cons g L =>
    exfalso
    have hg : g ∈ SL b ms := by rw [hL]; exact List.mem_cons_self
    have hb7 := hW.1.2.2.1
    obtain ⟨⟨g1, g2⟩, g3⟩ := sl_mem.mp hg
    have su' : ∀ y, isO b y = true → popc (ms' y) = 1 → ∃ x, (1 ≤ x ∧ x ≤ 7) ∧ ms' y = 2 ^ x := fun y hy hp => mv_su h2.1.1.2 hb7 (isO_lt hW hy) hp
    have hgs : ∀ y, isO b y = true → popc (ms y) = 1 → g y = ms y := fun y hy hp => by
      obtain ⟨x, x1, x2⟩ := mv_su h1.1.1.2 hb7 (isO_lt hW hy) hp
      obtain ⟨z, z1, z2, z3⟩ := g2 y hy
      rw [x2, Nat.testBit_two_pow, decide_eq_true_iff] at z2
      rw [z3, x2, z2]
    have e1 : ∀ y, isO b y = true → popc (ms' y) = 1 → (fun y => if isO b y = true ∧ popc (ms' y) = 1 then ms' y else g y) y = ms' y := fun y u v => if_pos ⟨u, v⟩
    have e2 : ∀ y, ¬ (isO b y = true ∧ popc (ms' y) = 1) → (fun y => if isO b y = true ∧ popc (ms' y) = 1 then ms' y else g y) y = g y := fun y u => if_neg u
    generalize (fun y => if isO b y = true ∧ popc (ms' y) = 1 then ms' y else g y) = g' at e1 e2
    have hO : ∀ y, isO b y = true → ∃ x, (1 ≤ x ∧ x ≤ 7) ∧ (ms0 y).testBit x = true ∧ g' y = 2 ^ x := fun y hy => by
      by_cases hp : popc (ms' y) = 1
      · obtain ⟨x, x1, x2⟩ := su' y hy hp
        exact ⟨x, x1, h2.1.1.1.2 y x (by rw [x2, Nat.testBit_two_pow]; exact decide_eq_true rfl), by rw [e1 y hy hp, x2]⟩
      · obtain ⟨x, x1, x2, x3⟩ := g2 y hy
        exact ⟨x, x1, h1.1.1.1.2 y x x2, by rw [e2 y fun z => hp z.2]; exact x3⟩
    have hC : ∀ y, isO b y = false → g' y = ms0 y := fun y hy => by
      rw [e2 y (fun z => by rw [hy] at z; cases z.1), g1 y hy]
      exact h1.1.1.1.1 y hy
    have hM' : MV b g' := fun c hc => by
      cases ho : isO b c with
      | false =>
        rw [hC c ho]
        exact ⟨(h0 c hc).1, fun _ => (h0 c hc).2 ho⟩
      | true =>
        obtain ⟨x, x1, x2, x3⟩ := hO c ho
        have := mv_bit h0 hc x2
        refine ⟨⟨?_, ?_⟩, fun z => by cases z⟩
        · rw [x3]; exact Nat.pow_lt_pow_right (by omega) (by omega)
        · rw [x3, Nat.testBit_two_pow]; exact decide_eq_false (by omega)
    have key : g' ∈ SL b ms0 := sl_mem.mpr ⟨⟨hC, hO⟩, fun k hk => by
      have ho : ∀ j, j < cgN b k → isO b (cgC b k j) = true := fun j hj => (hW.2.2.2.2.2 k hk).2.2.1 j hj
      have hv : ∀ j, j < cgN b k → 1 ≤ lst (g' (cgC b k j)) ∧ lst (g' (cgC b k j)) ≤ 7 := fun j hj => by
        obtain ⟨x, x1, x2, x3⟩ := hO _ (ho j hj)
        rw [x3, lst_pow x x1.1 x1.2]; exact x1
      refine (hasW_iff hW hM' hk).mpr ⟨(List.range (cgN b k)).map fun j => lst (g' (cgC b k j)), by rw [List.length_map, List.length_range], fun i hi => ?_, ?_⟩
      · rw [map_get hi]
        refine ⟨hv i hi, ?_⟩
        obtain ⟨x, x1, x2, x3⟩ := hO _ (ho i hi)
        rw [x3, lst_pow x x1.1 x1.2, Nat.testBit_two_pow]
        exact decide_eq_true rfl
      · cases hbd : bdC b k with
        | false => exact acc_any hW hk hbd (by rw [List.length_map, List.length_range]) (map_dig hv)
        | true =>
          have hsu' : ∀ j, j < cgN b k → popc (ms' (cgC b k j)) = 1 → lst (g' (cgC b k j)) = lst (ms' (cgC b k j)) := fun j hj hp => by rw [e1 _ (ho j hj) hp]
          have hgv : ∀ j, j < cgN b k → 1 ≤ lst (g (cgC b k j)) ∧ lst (g (cgC b k j)) ≤ 7 := fun j hj => by
            obtain ⟨x, x1, x2, x3⟩ := g2 _ (ho j hj)
            rw [x3, lst_pow x x1.1 x1.2]; exact x1
          obtain ⟨s1, r1⟩ := hasW_su hW h1.1.1.2 hk (h1.2.2 k hk hbd).1
          obtain ⟨s2, r2⟩ := hasW_su hW h2.1.1.2 hk (h2.2.2 k hk hbd).1
          have ef : (List.range (cgN b k)).filter (fun j => !suB b ms k j) = (List.range (cgN b k)).filter (fun j => !suB b ms' k j) := List.filter_congr fun j hj => by rw [suB_eq hW hK.1 hk (List.mem_range.mp hj)]
          have eu : usN b k ms' (fun j => lst (g' (cgC b k j))) = usN b k ms (fun j => lst (g (cgC b k j))) := by
            unfold usN
            rw [ef]
            refine List.map_congr_left fun j hj => ?_
            obtain ⟨j1, j2⟩ := List.mem_filter.mp hj
            rw [Bool.not_eq_true'] at j2
            rw [e2 _ fun z => of_decide_eq_false j2 z.2]
          have hf := List.filter_append_perm (suB b ms' k) (List.range (cgN b k))
          have hfl := hf.length_eq
          rw [List.length_append, List.length_range] at hfl
          cases hun : (List.range (cgN b k)).filter (fun j => !suB b ms' k j) with
          | nil =>
            obtain ⟨w, w1, w2, w3⟩ := (hasW_iff hW h2.1.1.2 hk).mp (h2.2.2 k hk hbd).1
            have ew : w = (List.range (cgN b k)).map fun j => lst (g' (cgC b k j)) := by
              conv => lhs; rw [map_getD w]
              rw [w1]
              refine List.map_congr_left fun j hj => ?_
              have hj' := List.mem_range.mp hj
              have hsu : suB b ms' k j = true := by
                cases hs : suB b ms' k j with
                | true => rfl
                | false =>
                  have : j ∈ (List.range (cgN b k)).filter (fun j => !suB b ms' k j) := List.mem_filter.mpr ⟨hj, by rw [hs]; rfl⟩
                  rw [hun] at this; cases this
              have hp := of_decide_eq_true hsu
              have := popc_pow1 _ (mv_lt h2.1.1.2 hb7 (cgC_lt hW hk hj')) _ (by have := (w2 j hj').1; omega) hp (w2 j hj').2
              rw [hsu' j hj' hp, this, lst_pow _ (w2 j hj').1.1 (w2 j hj').1.2]
            rw [← ew]
            exact w3
          | cons j0 L0 =>
            rw [hun] at hfl
            have hlt : (swN b k ms' (cgN b k)).length < cgN b k := by
              unfold swN
              rw [List.length_map]
              rw [List.length_cons] at hfl
              omega
            have hlt1 : (swN b k ms (cgN b k)).length < cgN b k := by
              unfold swN at hlt ⊢
              rw [List.length_map] at hlt ⊢
              rw [List.filter_congr (q := suB b ms' k) fun j hj => suB_eq hW hK.1 hk (List.mem_range.mp hj)]
              exact hlt
            have hke := hK.2 k hk
            unfold keyS at hke
            rw [hbd, decide_eq_true hlt, decide_eq_true hlt1, r1, r2] at hke
            have hke : s1 = s2 := hke
            have hag : acc (cgD b k) ((List.range (cgN b k)).map fun j => lst (g (cgC b k j))) := by
              obtain ⟨w, w1, w2, w3⟩ := sl_word hW h1.1.1.2 hg hk
              have ew : w = (List.range (cgN b k)).map fun j => lst (g (cgC b k j)) := by
                conv => lhs; rw [map_getD w]
                rw [w1]
                refine List.map_congr_left fun j hj => ?_
                have hj' := w2 j (List.mem_range.mp hj)
                rw [hj'.2, lst_pow _ hj'.1.1.1 hj'.1.1.2]
              rw [← ew]
              exact w3
            have h5 := (acc_su (ms := ms) hW hk hgv (fun j hj hp => by rw [hgs _ (ho j hj) hp])).mp hag
            refine (acc_su (ms := ms') hW hk hv hsu').mpr ?_
            rw [accF_app, r1] at h5
            rw [accF_app, r2, eu, ← hke]
            exact h5⟩
    have hin := h2.2.1 g' key fun c hc hp => e1 c hc hp
    rw [hS] at hin
    cases hin
