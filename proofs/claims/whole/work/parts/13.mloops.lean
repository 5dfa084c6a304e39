/-! THE MODEL, 2: small loops -/
def pI (o : Option Nat) : Int32 := match o with
  | some i => nI i
  | none => -1
def popc (m : Nat) : Nat := (List.range 32).countP fun i => m.testBit i
def lst (m : Nat) : Nat := ((List.range' 1 7).find? fun i => m.testBit i).getD 0
/-- which of a cage's cells -/
def plc (b : Nat → Nat) (k c : Nat) : Option Nat := (List.range (cgN b k)).find? fun i => cgC b k i == c
/-- totals -/
def tSum (l : List Nat) : Nat := l.foldl (fun a x => a + x) 0
def tPrd (l : List Nat) : Nat := l.foldl (fun a x => a * x) 1
def tMin (l : List Nat) : Nat := l.foldl (fun a x => if x < a then x else a) 9
def tMax (l : List Nat) : Nat := l.foldl (fun a x => if a < x then x else a) 0
def tot (sort : Nat) (l : List Nat) : Nat := if sort = 0 then tSum l else if sort = 1 then tPrd l else if sort = 2 then tMax l - tMin l else 0
theorem n_add1 (a : Nat) : nI a + nI 1 = nI (a + 1) := n_add a 1
section ML
variable {d : Nat} {M : ZM} {b : Nat → Nat}
theorem cgC_lt (hW : Wf b) {k i : Nat} (hk : k < b 3) (hi : i < cgN b k) : cgC b k i < 36 := isO_lt hW ((hW.2.2.2.2.2 k hk).2.2.1 i hi)
theorem cgN_le (hW : Wf b) {k : Nat} (hk : k < b 3) : cgN b k ≤ 6 := (hW.2.2.2.2.2 k hk).2.1.2
theorem cg_12 (hW : Wf b) {k : Nat} (hk : k < b 3) : k < 12 := Nat.lt_of_lt_of_le hk hW.1.2.2.2
theorem s_ofN (hR : MR b M) {k : Nat} (hk : k < 12) : zEv (d + 1) zmM_of [.ref 866, .int (nI k), .int (nI 3)] M = some (some (.int (nI (cgN b k))), M) := by
  rw [s_of hR hk (by omega)]
  unfold cgN
  rw [show 148 + 10 * k + 3 = 151 + 10 * k by omega]
theorem s_placeIn_l (hR : MR b M) (hW : Wf b) {k : Nat} (hk : k < b 3) {c : Nat} (hc : c < 2147483648) : ∀ j i, i + j = cgN b k → h_M_placeIn_2 (d + 2) (nI k) (nI c) (nI i) M = some (some (.int (pI ((List.range' i j).find? fun i => cgC b k i == c))), M) := by
  have h12 := cg_12 hW hk
  have h6 := cgN_le hW hk
  intro j
  induction j with
  | zero =>
    intro i h
    refine e_M_placeIn_2 ?_
    simp only [s_ofN hR h12, zC1_some, n_lt (show i < 2147483648 by omega) (show cgN b k < 2147483648 by omega)]
    rw [if_neg (by omega)]
    rfl
  | succ j ih =>
    intro i h
    refine e_M_placeIn_2 ?_
    have h36 := cgC_lt hW hk (show i < cgN b k by omega)
    simp only [s_ofN hR h12, zC1_some, n_lt (show i < 2147483648 by omega) (show cgN b k < 2147483648 by omega), s_cellOf hR h12 (show i < 6 by omega), n_eq (show cgC b k i < 2147483648 by omega) hc, n_add1, ih (i + 1) (by omega), List.range'_succ, List.find?_cons]
    rw [if_pos (by omega)]
    by_cases he : cgC b k i = c
    · rw [if_pos he, beq_iff_eq.mpr he]
      rfl
    · rw [if_neg he, beq_eq_false_iff_ne.mpr he]
theorem s_placeIn (hR : MR b M) (hW : Wf b) {k : Nat} (hk : k < b 3) {c : Nat} (hc : c < 2147483648) : zEv (d + 3) zmM_placeIn [.ref 866, .int (nI k), .int (nI c)] M = some (some (.int (pI (plc b k c))), M) := by
  refine e_M_placeIn ?_
  unfold plc
  rw [s_placeIn_l hR hW hk hc (cgN b k) 0 (by omega), List.range_eq_range']
/-- of a number below 0 -/
theorem s_placeIn_nl (hR : MR b M) (hW : Wf b) {k : Nat} (hk : k < b 3) {x : Int32} (hx : x.toInt < 0) : ∀ j i, i + j = cgN b k → h_M_placeIn_2 (d + 2) (nI k) x (nI i) M = some (some (.int (-1)), M) := by
  have h12 := cg_12 hW hk
  have h6 := cgN_le hW hk
  intro j
  induction j with
  | zero =>
    intro i h
    refine e_M_placeIn_2 ?_
    simp only [s_ofN hR h12, zC1_some, n_lt (show i < 2147483648 by omega) (show cgN b k < 2147483648 by omega)]
    rw [if_neg (by omega)]
  | succ j ih =>
    intro i h
    refine e_M_placeIn_2 ?_
    have h36 := cgC_lt hW hk (show i < cgN b k by omega)
    simp only [s_ofN hR h12, zC1_some, n_lt (show i < 2147483648 by omega) (show cgN b k < 2147483648 by omega), s_cellOf hR h12 (show i < 6 by omega), n_add1, ih (i + 1) (by omega)]
    rw [if_pos (by omega), if_neg]
    intro e
    rw [← e, n_toInt (by omega)] at hx
    omega
theorem s_placeIn_neg (hR : MR b M) (hW : Wf b) {k : Nat} (hk : k < b 3) {x : Int32} (hx : x.toInt < 0) : zEv (d + 3) zmM_placeIn [.ref 866, .int (nI k), .int x] M = some (some (.int (-1)), M) := by
  refine e_M_placeIn ?_
  exact s_placeIn_nl hR hW hk hx (cgN b k) 0 (by omega)
/-- the cages of a cell, as bits -/
def msk (n : Nat) (p : Nat → Bool) : Nat := (List.range n).foldl (fun a i => a ||| bif p i then 2 ^ i else 0) 0
theorem msk_succ (n : Nat) (p : Nat → Bool) : msk (n + 1) p = msk n p ||| bif p n then 2 ^ n else 0 := by
  unfold msk
  rw [List.range_succ, List.foldl_append]
  rfl
theorem msk_bit (n : Nat) (p : Nat → Bool) (i : Nat) : (msk n p).testBit i = (decide (i < n) && p i) := by
  induction n with
  | zero => simp [msk]
  | succ n ih =>
    rw [msk_succ, Nat.testBit_or, ih]
    cases hp : p n with
    | true =>
      rw [cond_true, Nat.testBit_two_pow]
      by_cases h : n = i
      · subst h; simp [hp]
      · have : (i < n + 1) ↔ i < n := by omega
        simp [h, this]
    | false =>
      rw [cond_false, Nat.zero_testBit]
      by_cases h : n = i
      · subst h; simp [hp]
      · have : (i < n + 1) ↔ i < n := by omega
        simp [this]
theorem msk_lt (n : Nat) (p : Nat → Bool) : msk n p < 2 ^ n := Nat.lt_pow_two_of_testBit _ fun i hi => by
  rw [msk_bit, decide_eq_false (by omega)]; rfl
theorem msk_congr {n : Nat} {p q : Nat → Bool} (h : ∀ i, i < n → p i = q i) : msk n p = msk n q := by
  apply Nat.eq_of_testBit_eq
  intro i
  rw [msk_bit, msk_bit]
  by_cases hi : i < n
  · rw [h i hi]
  · rw [decide_eq_false hi]; rfl
theorem pI_m1 {o : Option Nat} (h : ∀ i, o = some i → i < 2147483648) : (pI o = -1) ↔ o = none := by
  cases o with
  | none => exact ⟨fun _ => rfl, fun _ => rfl⟩
  | some i => exact ⟨fun z => absurd z (n_nem1 (h i rfl)), fun z => by cases z⟩
theorem plc_lt {k c i : Nat} (h : plc b k c = some i) : i < cgN b k ∧ cgC b k i = c := by
  unfold plc at h
  have h1 := List.mem_of_find?_eq_some h
  have h2 := List.find?_some h
  exact ⟨List.mem_range.mp h1, beq_iff_eq.mp h2⟩
def inC (b : Nat → Nat) (k c : Nat) : Bool := (plc b k c).isSome
def cagesM (b : Nat → Nat) (c : Nat) : Nat := msk (b 3) fun k => inC b k c
theorem s_cagesOf_l (hR : MR b M) (hW : Wf b) {c : Nat} (hc : c < 2147483648) : ∀ j i, i + j = b 3 → h_M_cagesOf_4 (d + 3) (nI c) (nI (msk i fun k => inC b k c)) (nI i) M = some (some (.int (nI (cagesM b c))), M) := by
  have h12 := hW.1.2.2.2
  intro j
  induction j with
  | zero =>
    intro i h
    refine e_M_cagesOf_4 ?_
    simp only [s_cages hR, zC1_some, n_lt (show i < 2147483648 by omega) (show b 3 < 2147483648 by omega)]
    rw [if_neg (by omega)]
    obtain rfl : i = b 3 := by omega
    rfl
  | succ j ih =>
    intro i h
    refine e_M_cagesOf_4 ?_
    have hp := pI_m1 (o := plc b i c) fun i' e => by
      have := (plc_lt e).1
      have := cgN_le hW (show i < b 3 by omega)
      omega
    have ih' := ih (i + 1) (by omega)
    rw [msk_succ] at ih'
    simp only [s_cages hR, zC1_some, n_lt (show i < 2147483648 by omega) (show b 3 < 2147483648 by omega), s_placeIn hR hW (show i < b 3 by omega) hc, hp, n_add1, n_shl (show i < 32 by omega), n_or, Nat.or_zero, Nat.one_shiftLeft]
    rw [if_pos (by omega)]
    have hin : inC b i c = (plc b i c).isSome := rfl
    cases hq : plc b i c with
    | none =>
      rw [if_pos rfl]
      rw [hin, hq] at ih'
      simpa using ih'
    | some z =>
      rw [if_neg (by simp)]
      rw [hin, hq] at ih'
      simpa using ih'
theorem s_cagesOf (hR : MR b M) (hW : Wf b) {c : Nat} (hc : c < 2147483648) : zEv (d + 4) zmM_cagesOf [.ref 866, .int (nI c)] M = some (some (.int (nI (cagesM b c))), M) := by
  refine e_M_cagesOf ?_
  exact s_cagesOf_l hR hW hc (b 3) 0 (by omega)
theorem s_bits_l {m : Nat} (hm : m < 2147483648) : ∀ j i, i + j = 32 → h_M_bits_4 d (nI m) (nI ((List.range i).countP fun i => m.testBit i)) (nI i) M = some (some (.int (nI (popc m))), M) := by
  intro j
  induction j with
  | zero =>
    intro i h
    refine e_M_bits_4 ?_
    simp only [n_lt (show i < 2147483648 by omega) (show 32 < 2147483648 by omega)]
    rw [if_neg (by omega)]
    obtain rfl : i = 32 := by omega
    rfl
  | succ j ih =>
    intro i h
    refine e_M_bits_4 ?_
    have ih' := ih (i + 1) (by omega)
    rw [List.range_succ, List.countP_append] at ih'
    simp only [n_lt (show i < 2147483648 by omega) (show 32 < 2147483648 by omega), n_shr hm (show i < 32 by omega), n_and, n_add]
    rw [if_pos (by omega)]
    have e : (m >>> i) &&& 1 = List.countP (fun i => m.testBit i) [i] := by
      rw [List.countP_cons, List.countP_nil, Nat.and_one_is_mod, Nat.shiftRight_eq_div_pow, Nat.testBit_eq_decide_div_mod_eq]
      by_cases hb : m / 2 ^ i % 2 = 1
      · simp [hb]
      · have : m / 2 ^ i % 2 = 0 := by omega
        simp [this]
    rw [e]
    exact ih'
theorem s_bits {m : Nat} (hm : m < 2147483648) : zEv (d + 1) zmM_bits [.int (nI m)] M = some (some (.int (nI (popc m))), M) := by
  refine e_M_bits ?_
  exact s_bits_l hm 32 0 (by omega)
theorem s_least_l {m : Nat} (hm : m < 2147483648) : ∀ j i, i + j = 8 → (∃ z, i ≤ z ∧ z < 8 ∧ m.testBit z = true) → h_M_least_2 (d + 1) (nI m) (nI i) M = some (some (.int (nI (((List.range' i j).find? fun i => m.testBit i).getD 0))), M) := by
  intro j
  induction j with
  | zero => rintro i h ⟨z, h1, h2, -⟩; omega
  | succ j ih =>
    rintro i h ⟨z, h1, h2, h3⟩
    refine e_M_least_2 ?_
    simp only [s_holds hm (show i < 32 by omega), zC1_some, nB0, n_add1, List.range'_succ, List.find?_cons]
    cases hb : m.testBit i with
    | true => simp
    | false =>
      simp only [if_true]
      refine ih (i + 1) (by omega) ⟨z, ?_, h2, h3⟩
      rcases Nat.lt_or_ge i z with q | q
      · omega
      · obtain rfl : i = z := by omega
        rw [hb] at h3; cases h3
theorem s_least {m : Nat} (hm : m < 2147483648) (h : ∃ z, 1 ≤ z ∧ z < 8 ∧ m.testBit z = true) : zEv (d + 2) zmM_least [.ref 866, .int (nI m)] M = some (some (.int (nI (lst m))), M) := by
  refine e_M_least ?_
  exact s_least_l hm 7 1 (by omega) h
/-- the digits laid -/
def Laid (l : List Nat) (M : ZM) : Prop := ∀ i, i < l.length → M.1 872 i = nI (l.getD i 0)
theorem s_totalBy_l {l : List Nat} (hL : Laid l M) (hd : ∀ x ∈ l, x ≤ 7) (h6 : l.length ≤ 6) {sort : Nat} (hs : sort ≤ 3) (hne : l ≠ []) : ∀ (l2 l1 : List Nat), l = l1 ++ l2 → h_M_totalBy_15 d (nI sort) (nI l.length) (nI (tSum l1)) (nI (tPrd l1)) (nI (tMin l1)) (nI (tMax l1)) (nI l1.length) M = some (some (.int (nI (tot sort l))), M) := by
  intro l2
  have hmin : ∀ (l1 : List Nat) (a : Nat), l1.foldl (fun a x => if x < a then x else a) a ≤ a := by
    intro l1
    induction l1 with
    | nil => intro a; exact Nat.le_refl a
    | cons x l1 ih =>
      intro a
      refine Nat.le_trans (ih _) ?_
      dsimp only
      split <;> omega
  have hmax : ∀ (l1 : List Nat) (a : Nat), (∀ x ∈ l1, x ≤ 7) → a ≤ 7 → l1.foldl (fun a x => if a < x then x else a) a ≤ 7 := by
    intro l1
    induction l1 with
    | nil => intro a _ h; exact h
    | cons x l1 ih =>
      intro a h1 h2
      refine ih _ (fun y hy => h1 y (List.mem_cons_of_mem _ hy)) ?_
      have := h1 x List.mem_cons_self
      dsimp only
      split <;> omega
  induction l2 with
  | nil =>
    intro l1 e
    rw [List.append_nil] at e
    subst e
    refine e_M_totalBy_15 ?_
    simp only [n_lt (show l.length < 2147483648 by omega) (show l.length < 2147483648 by omega), n_eq (show sort < 2147483648 by omega) (show 0 < 2147483648 by omega), n_eq (show sort < 2147483648 by omega) (show 1 < 2147483648 by omega), n_eq (show sort < 2147483648 by omega) (show 2 < 2147483648 by omega)]
    rw [if_neg (by omega)]
    unfold tot
    by_cases h0 : sort = 0
    · rw [if_pos h0, if_pos h0]
    · rw [if_neg h0, if_neg h0]
      by_cases h1 : sort = 1
      · rw [if_pos h1, if_pos h1]
      · rw [if_neg h1, if_neg h1]
        by_cases h2 : sort = 2
        · rw [if_pos h2, if_pos h2, n_sub]
          have key : ∀ (l1 : List Nat) (a c : Nat), a ≤ c → l1.foldl (fun a x => if x < a then x else a) a ≤ l1.foldl (fun a x => if a < x then x else a) c := by
            intro l1
            induction l1 with
            | nil => intro a c h; exact h
            | cons x l1 ih =>
              intro a c h
              refine ih _ _ ?_
              dsimp only
              split <;> split <;> omega
          cases l with
          | nil => exact absurd rfl hne
          | cons x l =>
            have hx := hd x List.mem_cons_self
            unfold tMin tMax
            rw [List.foldl_cons, List.foldl_cons]
            refine key l _ _ ?_
            split <;> split <;> omega
        · rw [if_neg h2, if_neg h2]
  | cons x l2 ih =>
    intro l1 e
    refine e_M_totalBy_15 ?_
    have hlen : l.length = l1.length + (l2.length + 1) := by rw [e, List.length_append, List.length_cons]
    have hx : M.1 872 l1.length = nI x := by
      rw [hL l1.length (by omega)]
      congr 1
      rw [e, List.getD_eq_getElem?_getD, List.getElem?_append_right (Nat.le_refl _), Nat.sub_self]
      rfl
    have hx7 : x ≤ 7 := hd x (by rw [e]; simp)
    have hm1 : tMin l1 ≤ 9 := hmin l1 9
    have hm2 : tMax l1 ≤ 7 := hmax l1 0 (fun y hy => hd y (by rw [e]; exact List.mem_append_left _ hy)) (by omega)
    have ih' := ih (l1 ++ [x]) (by rw [e]; simp)
    have e1 : tSum (l1 ++ [x]) = tSum l1 + x := by simp [tSum]
    have e2 : tPrd (l1 ++ [x]) = tPrd l1 * x := by simp [tPrd]
    have e3 : tMin (l1 ++ [x]) = if x < tMin l1 then x else tMin l1 := by unfold tMin; rw [List.foldl_append]; rfl
    have e4 : tMax (l1 ++ [x]) = if tMax l1 < x then x else tMax l1 := by unfold tMax; rw [List.foldl_append]; rfl
    rw [e1, e2, e3, e4, List.length_append, List.length_singleton] at ih'
    simp only [n_lt (show l1.length < 2147483648 by omega) (show l.length < 2147483648 by omega), n_zin (show l1.length < 2147483648 by omega), n_clamp (show l1.length < 2147483648 by omega), hx, n_lt (show x < 2147483648 by omega) (show tMin l1 < 2147483648 by omega), n_lt (show tMax l1 < 2147483648 by omega) (show x < 2147483648 by omega), n_add, n_mul]
    rw [if_pos (by omega), if_pos (by omega)]
    by_cases c1 : x < tMin l1
    · rw [if_pos c1] at ih' ⊢
      by_cases c2 : tMax l1 < x
      · rw [if_pos c2] at ih' ⊢; exact ih'
      · rw [if_neg c2] at ih' ⊢; exact ih'
    · rw [if_neg c1] at ih' ⊢
      by_cases c2 : tMax l1 < x
      · rw [if_pos c2] at ih' ⊢; exact ih'
      · rw [if_neg c2] at ih' ⊢; exact ih'
theorem s_totalBy {l : List Nat} (hL : Laid l M) (hd : ∀ x ∈ l, x ≤ 7) (h6 : l.length ≤ 6) {sort : Nat} (hs : sort ≤ 3) (hne : l ≠ []) : zEv (d + 1) zmM_totalBy [.ref 866, .int (nI sort), .int (nI l.length)] M = some (some (.int (nI (tot sort l))), M) := by
  refine e_M_totalBy ?_
  exact s_totalBy_l hL hd h6 hs hne l [] rfl
theorem s_isLaid_l {l : List Nat} (hL : Laid l M) (h6 : l.length ≤ 6) (h7 : ∀ x ∈ l, x ≤ 7) {x : Nat} (hx : x < 2147483648) : ∀ (l2 l1 : List Nat), l = l1 ++ l2 → h_M_isLaid_2 d (nI x) (nI l.length) (nI l1.length) M = some (some (.int (nB (l2.contains x))), M) := by
  intro l2
  induction l2 with
  | nil =>
    intro l1 e
    rw [List.append_nil] at e
    subst e
    refine e_M_isLaid_2 ?_
    simp only [n_lt (show l.length < 2147483648 by omega) (show l.length < 2147483648 by omega)]
    rw [if_neg (by omega)]
    rfl
  | cons y l2 ih =>
    intro l1 e
    refine e_M_isLaid_2 ?_
    have hlen : l.length = l1.length + (l2.length + 1) := by rw [e, List.length_append, List.length_cons]
    have hy : M.1 872 l1.length = nI y := by
      rw [hL l1.length (by omega)]
      congr 1
      rw [e, List.getD_eq_getElem?_getD, List.getElem?_append_right (Nat.le_refl _), Nat.sub_self]
      rfl
    have hy7 : y ≤ 7 := h7 y (by rw [e]; simp)
    have ih' := ih (l1 ++ [y]) (by rw [e]; simp)
    rw [List.length_append, List.length_singleton] at ih'
    simp only [n_lt (show l1.length < 2147483648 by omega) (show l.length < 2147483648 by omega), n_zin (show l1.length < 2147483648 by omega), n_clamp (show l1.length < 2147483648 by omega), hy, n_eq (show y < 2147483648 by omega) hx, n_add1, ih', List.contains_cons]
    rw [if_pos (by omega), if_pos (by omega)]
    by_cases c1 : y = x
    · rw [if_pos c1, c1, beq_self_eq_true]
      rfl
    · rw [if_neg c1, beq_eq_false_iff_ne.mpr (Ne.symm c1)]
      rfl
theorem s_isLaid {l : List Nat} (hL : Laid l M) (h6 : l.length ≤ 6) (h7 : ∀ x ∈ l, x ≤ 7) {x : Nat} (hx : x < 2147483648) : zEv (d + 1) zmM_isLaid [.ref 866, .int (nI x), .int (nI l.length)] M = some (some (.int (nB (l.contains x))), M) := by
  refine e_M_isLaid ?_
  exact s_isLaid_l hL h6 h7 hx l [] rfl
end ML
