/-! THE MODEL, 3: ways of a cage -/
/-- all rows of digits, one of each mask, none twice if unlike; from what is laid on -/
def ext (t : Nat) (un : Bool) : List Nat → List Nat → List (List Nat)
  | [], pre => [pre]
  | m :: ms, pre => (List.range' 1 t).flatMap fun d => if m.testBit d && !(un && pre.contains d) then ext t un ms (pre ++ [d]) else []
def cgU (b : Nat → Nat) (k : Nat) : Bool := decide (b (150 + 10 * k) = 1)
def cgM (b : Nat → Nat) (k : Nat) : List Nat := (List.range (cgN b k)).map fun i => b (112 + cgC b k i)
def rgt (b : Nat → Nat) (k : Nat) (l : List Nat) : Bool := decide (b (148 + 10 * k) = 3) || decide (tot (b (148 + 10 * k)) l = b (149 + 10 * k))
def tooM (b : Nat → Nat) (k : Nat) (l : List Nat) : Bool := decide (b (148 + 10 * k) < 3) && decide (b (149 + 10 * k) < tot (b (148 + 10 * k)) l)
def ways (b : Nat → Nat) (k : Nat) : List (List Nat) := (ext (b 2) (cgU b k) (cgM b k) []).filter (rgt b k)
def hasW (b : Nat → Nat) (k : Nat) : Bool := (ext (b 2) (cgU b k) (cgM b k) []).any (rgt b k)
theorem hasW_ways {b : Nat → Nat} {k : Nat} : hasW b k = !(ways b k).isEmpty := by
  unfold hasW ways
  generalize ext (b 2) (cgU b k) (cgM b k) [] = L
  induction L with
  | nil => rfl
  | cons x L ih =>
    rw [List.any_cons, List.filter_cons]
    cases h : rgt b k x with
    | true => rfl
    | false => simpa using ih
theorem ext_mem {t : Nat} {un : Bool} : ∀ {ms pre w : List Nat}, w ∈ ext t un ms pre → ∃ s, w = pre ++ s ∧ s.length = ms.length ∧ ∀ x ∈ s, 1 ≤ x ∧ x ≤ t
  | [], pre, w, h => by
    simp only [ext, List.mem_singleton] at h
    exact ⟨[], by simp [h], rfl, fun _ z => by cases z⟩
  | m :: ms, pre, w, h => by
    simp only [ext, List.mem_flatMap] at h
    obtain ⟨d, hd, h⟩ := h
    split at h
    · obtain ⟨s, e1, e2, e3⟩ := ext_mem h
      refine ⟨d :: s, by rw [e1]; simp, by simp [e2], fun x hx => ?_⟩
      rcases List.mem_cons.mp hx with e | e
      · have := List.mem_range'_1.mp hd
        rw [e]; omega
      · exact e3 x e
    · cases h
theorem tSum_app (l s : List Nat) : tSum (l ++ s) = s.foldl (fun a x => a + x) (tSum l) := by unfold tSum; rw [List.foldl_append]
theorem foldS_ge : ∀ (s : List Nat) (a : Nat), a ≤ s.foldl (fun a x => a + x) a
  | [], a => Nat.le_refl a
  | x :: s, a => Nat.le_trans (Nat.le_add_right a x) (foldS_ge s (a + x))
theorem foldP_ge : ∀ (s : List Nat) (a : Nat), (∀ x ∈ s, 1 ≤ x) → a ≤ s.foldl (fun a x => a * x) a
  | [], a, _ => Nat.le_refl a
  | x :: s, a, h => Nat.le_trans (Nat.le_mul_of_pos_right a (h x List.mem_cons_self)) (foldP_ge s (a * x) fun y hy => h y (List.mem_cons_of_mem _ hy))
theorem foldMin_le : ∀ (s : List Nat) (a : Nat), s.foldl (fun a x => if x < a then x else a) a ≤ a
  | [], a => Nat.le_refl a
  | x :: s, a => by
    refine Nat.le_trans (foldMin_le s _) ?_
    dsimp only
    split <;> omega
theorem foldMax_ge : ∀ (s : List Nat) (a : Nat), a ≤ s.foldl (fun a x => if a < x then x else a) a
  | [], a => Nat.le_refl a
  | x :: s, a => by
    refine Nat.le_trans ?_ (foldMax_ge s _)
    dsimp only
    split <;> omega
theorem tot_mono {sort : Nat} {l s : List Nat} (h : ∀ x ∈ s, 1 ≤ x) : tot sort l ≤ tot sort (l ++ s) := by
  unfold tot
  by_cases h0 : sort = 0
  · rw [if_pos h0, if_pos h0, tSum_app]; exact foldS_ge s _
  · rw [if_neg h0, if_neg h0]
    by_cases h1 : sort = 1
    · rw [if_pos h1, if_pos h1]
      unfold tPrd
      rw [List.foldl_append]
      exact foldP_ge s _ h
    · rw [if_neg h1, if_neg h1]
      by_cases h2 : sort = 2
      · rw [if_pos h2, if_pos h2]
        have e1 : tMin (l ++ s) ≤ tMin l := by unfold tMin; rw [List.foldl_append]; exact foldMin_le s _
        have e2 : tMax l ≤ tMax (l ++ s) := by unfold tMax; rw [List.foldl_append]; exact foldMax_ge s _
        omega
      · rw [if_neg h2, if_neg h2]; exact Nat.le_refl 0
theorem prune {b : Nat → Nat} {k t : Nat} {un : Bool} {ms pre : List Nat} (h : tooM b k pre = true) : ∀ w ∈ ext t un ms pre, rgt b k w = false := by
  intro w hw
  unfold tooM at h
  rw [Bool.and_eq_true] at h
  have h1 := of_decide_eq_true h.1
  have h2 := of_decide_eq_true h.2
  obtain ⟨s, rfl, -, h3⟩ := ext_mem hw
  have h4 := tot_mono (sort := b (148 + 10 * k)) (l := pre) (s := s) fun x hx => (h3 x hx).1
  unfold rgt
  rw [decide_eq_false (by omega), decide_eq_false (by omega)]
  rfl
section MW
variable {d : Nat} {M : ZM} {b : Nat → Nat}
theorem tPrd_le : ∀ (l : List Nat) (a c : Nat), (∀ x ∈ l, x ≤ 7) → a ≤ c → l.foldl (fun a x => a * x) a ≤ c * 7 ^ l.length
  | [], a, c, _, h => by simpa using h
  | x :: l, a, c, h, h2 => by
    have := tPrd_le l (a * x) (c * 7) (fun y hy => h y (List.mem_cons_of_mem _ hy)) (Nat.mul_le_mul h2 (h x List.mem_cons_self))
    rw [List.length_cons, Nat.pow_succ, Nat.mul_comm (7 ^ l.length) 7, ← Nat.mul_assoc]
    exact this
theorem tSum_le : ∀ (l : List Nat) (a : Nat), (∀ x ∈ l, x ≤ 7) → l.foldl (fun a x => a + x) a ≤ a + 7 * l.length
  | [], a, _ => by simp
  | x :: l, a, h => by
    have := tSum_le l (a + x) (fun y hy => h y (List.mem_cons_of_mem _ hy))
    have := h x List.mem_cons_self
    rw [List.length_cons, List.foldl_cons]
    omega
theorem tMax_le : ∀ (l : List Nat) (a : Nat), (∀ x ∈ l, x ≤ 7) → a ≤ 7 → l.foldl (fun a x => if a < x then x else a) a ≤ 7
  | [], a, _, h => h
  | x :: l, a, h, h2 => by
    refine tMax_le l _ (fun y hy => h y (List.mem_cons_of_mem _ hy)) ?_
    have := h x List.mem_cons_self
    dsimp only
    split <;> omega
theorem tot_lt {sort : Nat} {l : List Nat} (h : ∀ x ∈ l, x ≤ 7) (h6 : l.length ≤ 6) : tot sort l ≤ 117649 := by
  unfold tot
  by_cases h0 : sort = 0
  · rw [if_pos h0]
    have := tSum_le l 0 h
    unfold tSum
    omega
  · rw [if_neg h0]
    by_cases h1 : sort = 1
    · rw [if_pos h1]
      have h2 := tPrd_le l 1 1 h (Nat.le_refl 1)
      have h3 : 7 ^ l.length ≤ 7 ^ 6 := Nat.pow_le_pow_right (by omega) h6
      unfold tPrd
      omega
    · rw [if_neg h1]
      by_cases h2 : sort = 2
      · rw [if_pos h2]
        have := tMax_le l 0 h (by omega)
        unfold tMax
        omega
      · rw [if_neg h2]; omega
theorem s_isTooMuch (hR : MR b M) (hW : Wf b) {k : Nat} (hk : k < b 3) {l : List Nat} (hL : Laid l M) (hd : ∀ x ∈ l, x ≤ 7) (h6 : l.length ≤ 6) (hne : l ≠ []) : zEv (d + 2) zmM_isTooMuch [.ref 866, .int (nI k), .int (nI l.length)] M = some (some (.int (nB (tooM b k l))), M) := by
  refine e_M_isTooMuch ?_
  have h12 := cg_12 hW hk
  have hg := hW.2.2.2.2.2 k hk
  have ht := tot_lt (sort := b (148 + 10 * k)) hd h6
  have hl : 0 < l.length := List.length_pos_iff.mpr hne
  have g1 := hg.1.1
  have g2 := hg.1.2.1
  simp only [s_of hR h12 (show 0 < 10 by omega), s_of hR h12 (show 1 < 10 by omega), zC1_some, Nat.add_zero, show 148 + 10 * k + 1 = 149 + 10 * k by omega, n_lt (show b (148 + 10 * k) < 2147483648 by omega) (show 3 < 2147483648 by omega), n_lt (show 0 < 2147483648 by omega) (show l.length < 2147483648 by omega), s_totalBy hL hd h6 g1 hne, n_lt (show b (149 + 10 * k) < 2147483648 by omega) (show tot (b (148 + 10 * k)) l < 2147483648 by omega), nBite]
  rw [if_pos hl]
  unfold tooM
  by_cases h : b (148 + 10 * k) < 3
  · rw [if_pos h, decide_eq_true h]; simp
  · rw [if_neg h, decide_eq_false h]; rfl
theorem s_isRight (hR : MR b M) (hW : Wf b) {k : Nat} (hk : k < b 3) {l : List Nat} (hL : Laid l M) (hd : ∀ x ∈ l, x ≤ 7) (hn : l.length = cgN b k) : zEv (d + 2) zmM_isRight [.ref 866, .int (nI k)] M = some (some (.int (nB (rgt b k l))), M) := by
  refine e_M_isRight ?_
  have h12 := cg_12 hW hk
  have hg := hW.2.2.2.2.2 k hk
  have h6 : l.length ≤ 6 := by rw [hn]; exact hg.2.1.2
  have ht := tot_lt (sort := b (148 + 10 * k)) hd h6
  have g1 := hg.1.1
  have g2 := hg.1.2.1
  have hne : l ≠ [] := by
    intro e
    rw [e] at hn
    have := hg.2.1.1
    simp at hn
    omega
  simp only [s_of hR h12 (show 0 < 10 by omega), s_of hR h12 (show 1 < 10 by omega), s_ofN hR h12, zC1_some, Nat.add_zero, show 148 + 10 * k + 1 = 149 + 10 * k by omega, n_eq (show b (148 + 10 * k) < 2147483648 by omega) (show 3 < 2147483648 by omega), ← hn, s_totalBy hL hd h6 g1 hne, n_eq (show tot (b (148 + 10 * k)) l < 2147483648 by omega) (show b (149 + 10 * k) < 2147483648 by omega), nBite]
  unfold rgt
  by_cases h : b (148 + 10 * k) = 3
  · rw [if_pos h, decide_eq_true h]; rfl
  · rw [if_neg h, decide_eq_false h]; simp
/-- what hasWayFrom writes -/
def pL (i : Nat) : Nat → Nat → Prop := fun a k => a = 872 ∧ i ≤ k
theorem Laid.fr {l : List Nat} {i : Nat} {M M' : ZM} (h : Laid l M) (hf : frI (pL i) M M') (hi : l.length ≤ i) : Laid l M' := fun j hj => (hf.1 872 j (fun z => by have := z.2; omega)).trans (h j hj)
theorem MR.frL {i : Nat} {M M' : ZM} (h : MR b M) (hf : frI (pL i) M M') : MR b M' := h.fr hf fun k _ z => by have := z.1; omega
theorem Laid.push {l : List Nat} {x : Nat} (h : Laid l M) : Laid (l ++ [x]) (zpi M 872 l.length (nI x)) := by
  intro i hi
  rw [List.length_append, List.length_singleton] at hi
  rw [m_pi]
  by_cases e : i = l.length
  · rw [if_pos ⟨rfl, e⟩, e, List.getD_eq_getElem?_getD, List.getElem?_append_right (Nat.le_refl _), Nat.sub_self]
    rfl
  · rw [if_neg (fun z => e z.2), h i (by omega), List.getD_eq_getElem?_getD, List.getD_eq_getElem?_getD, List.getElem?_append_left (by omega)]
theorem cgM_drop {k i : Nat} (hi : i < cgN b k) : (cgM b k).drop i = b (112 + cgC b k i) :: (cgM b k).drop (i + 1) := by
  have hl : i < (cgM b k).length := by unfold cgM; simp; exact hi
  rw [List.drop_eq_getElem_cons hl]
  congr 1
  have e : (cgM b k)[i]? = some (b (112 + cgC b k i)) := by
    unfold cgM
    rw [List.getElem?_map, List.getElem?_range hi]
    rfl
  exact (List.getElem?_eq_some_iff.mp e).2
theorem s_hasWayFrom (hW : Wf b) {k : Nat} (hk : k < b 3) : ∀ (j i : Nat) (pre : List Nat) (M : ZM), i + j = cgN b k → pre.length = i → (∀ x ∈ pre, x ≤ 7) → MR b M → Laid pre M →
    ∃ M', zEv (j + (d + 3)) zmM_hasWayFrom [.ref 866, .int (nI k), .int (nI i)] M = some (some (.int (nB ((ext (b 2) (cgU b k) ((cgM b k).drop i) pre).any (rgt b k)))), M') ∧ frI (pL i) M M' := by
  have h12 := cg_12 hW hk
  have hg := hW.2.2.2.2.2 k hk
  have h6 := hg.2.1.2
  have htop := hW.1.2.2.1
  intro j
  induction j with
  | zero =>
    intro i pre M hij hpl h7 hR hL
    refine ⟨M, ?_, fr.refl⟩
    rw [Nat.zero_add]
    refine e_M_hasWayFrom ?_
    have hd : (cgM b k).drop i = [] := List.drop_eq_nil_of_le (by unfold cgM; simp; omega)
    simp only [s_ofN hR h12, zC1_some, n_eq (show i < 2147483648 by omega) (show cgN b k < 2147483648 by omega), s_isRight hR hW hk hL h7 (show pre.length = cgN b k by omega), nB01, if_true, hd, ext]
    rw [if_pos (by omega)]
    simp
  | succ j ih =>
    intro i pre M hij hpl h7 hR hL
    have hi : i < cgN b k := by omega
    have hc36 := cgC_lt hW hk hi
    have hm := (hW.2.2.2.1 _ hc36).2.1.2.1
    have hm2 : 2 ^ (b 2 + 1) ≤ 2 ^ 8 := Nat.pow_le_pow_right (by omega) (by omega)
    have hm3 : b (112 + cgC b k i) < 2147483648 := by omega
    rw [cgM_drop hi, show (j + 1) + (d + 3) = (j + (d + 2)) + 1 + 1 by omega]
    -- the loop over the digits
    have loop : ∀ (r dg : Nat) (M1 : ZM), 1 ≤ dg → dg + r = b 2 + 1 → MR b M1 → Laid pre M1 → ∃ M', h_M_hasWayFrom_18 (j + (d + 2) + 1) (nI k) (nI i) (nI dg) M1 = some (some (.int (nB ((List.range' dg r).any fun x => ((b (112 + cgC b k i)).testBit x && !(cgU b k && pre.contains x)) && (ext (b 2) (cgU b k) ((cgM b k).drop (i + 1)) (pre ++ [x])).any (rgt b k)))), M') ∧ frI (pL i) M1 M' := by
      intro r
      induction r with
      | zero =>
        intro dg M1 h1 hdr hR1 hL1
        refine ⟨M1, ?_, fr.refl⟩
        refine e_M_hasWayFrom_18 ?_
        simp only [s_top hR1, zC1_some, n_lt (show b 2 < 2147483648 by omega) (show dg < 2147483648 by omega)]
        rw [if_pos (by omega)]
        rfl
      | succ r ihr =>
        intro dg M1 h1 hdr hR1 hL1
        obtain ⟨Mn, hn1, hn2⟩ := ihr (dg + 1) M1 (by omega) (by omega) hR1 hL1
        -- the rest, if this digit may be laid
        have laid : ∃ M', h_M_hasWayFrom_65 (j + (d + 2) + 1) (nI k) (nI i) (nI dg) M1 = some (some (.int (nB ((ext (b 2) (cgU b k) ((cgM b k).drop (i + 1)) (pre ++ [dg])).any (rgt b k) || (List.range' (dg + 1) r).any fun x => ((b (112 + cgC b k i)).testBit x && !(cgU b k && pre.contains x)) && (ext (b 2) (cgU b k) ((cgM b k).drop (i + 1)) (pre ++ [x])).any (rgt b k)))), M') ∧ frI (pL i) M1 M' := by
          have hR2 : MR b (zpi M1 872 i (nI dg)) := hR1.fr (fr.refl.pi (p := pL i) (q := fun _ _ => False) ⟨rfl, Nat.le_refl i⟩) fun k _ z => by have := z.1; omega
          have hL2 : Laid (pre ++ [dg]) (zpi M1 872 i (nI dg)) := by rw [← hpl]; exact hL1.push
          have f2 : frI (pL i) M1 (zpi M1 872 i (nI dg)) := fr.refl.pi ⟨rfl, Nat.le_refl i⟩
          have hlen : (pre ++ [dg]).length = i + 1 := by simp [hpl]
          have h72 : ∀ x ∈ pre ++ [dg], x ≤ 7 := by
            intro x hx
            rcases List.mem_append.mp hx with e | e
            · exact h7 x e
            · rw [List.mem_singleton.mp e]; omega
          have hne : pre ++ [dg] ≠ [] := by simp
          have hT := s_isTooMuch (d := j + (d + 2) - 1) hR2 hW hk hL2 h72 (by omega) hne
          rw [hlen, show j + (d + 2) - 1 + 2 = j + (d + 2) + 1 by omega] at hT
          cases htm : tooM b k (pre ++ [dg]) with
          | true =>
            obtain ⟨Mn, hn1, hn2⟩ := ihr (dg + 1) _ (by omega) (by omega) hR2 (hL1.fr f2 (by omega))
            refine ⟨Mn, ?_, f2.trans hn2⟩
            refine e_M_hasWayFrom_65 ?_
            simp only [n_zin (show i < 2147483648 by omega), n_clamp (show i < 2147483648 by omega), n_add1, hT, zC1_some, nB0, htm, hn1]
            rw [if_pos (by omega), if_neg (by simp)]
            have : (ext (b 2) (cgU b k) ((cgM b k).drop (i + 1)) (pre ++ [dg])).any (rgt b k) = false := List.any_eq_false.mpr fun w hw => by rw [prune htm w hw]; simp
            rw [this, Bool.false_or]
          | false =>
            obtain ⟨Mw, hw1, hw2⟩ := ih (i + 1) (pre ++ [dg]) _ (by omega) hlen h72 hR2 hL2
            have hw3 : frI (pL i) (zpi M1 872 i (nI dg)) Mw := hw2.mono (fun a k z => ⟨z.1, by have := z.2; omega⟩) (fun _ _ z => z)
            cases hany : (ext (b 2) (cgU b k) ((cgM b k).drop (i + 1)) (pre ++ [dg])).any (rgt b k) with
            | true =>
              refine ⟨Mw, ?_, f2.trans hw3⟩
              refine e_M_hasWayFrom_65 ?_
              rw [hany] at hw1
              rw [show j + (d + 2) + 1 = j + (d + 3) by omega] at hT ⊢
              simp only [n_zin (show i < 2147483648 by omega), n_clamp (show i < 2147483648 by omega), n_add1, hT, zC1_some, nB0, htm, if_true, hw1]
              rw [if_pos (by omega)]
              rfl
            | false =>
              obtain ⟨Mn, hn1, hn2⟩ := ihr (dg + 1) Mw (by omega) (by omega) (hR2.frL hw3) ((hL1.fr f2 (by omega)).fr hw3 (by omega))
              refine ⟨Mn, ?_, (f2.trans hw3).trans hn2⟩
              refine e_M_hasWayFrom_65 ?_
              rw [hany] at hw1
              rw [show j + (d + 2) + 1 = j + (d + 3) by omega] at hT hn1 ⊢
              simp only [n_zin (show i < 2147483648 by omega), n_clamp (show i < 2147483648 by omega), n_add1, hT, zC1_some, nB0, htm, if_true, hw1, hn1]
              rw [if_pos (by omega)]
              rfl
        have hcell := s_cellOf (d := j + (d + 2) - 1) hR1 h12 (show i < 6 by omega)
        rw [show j + (d + 2) - 1 + 2 = j + (d + 2) + 1 by omega] at hcell
        have hof := s_of (d := j + (d + 2)) hR1 h12 (show 2 < 10 by omega)
        rw [show 148 + 10 * k + 2 = 150 + 10 * k by omega] at hof
        have hlaid := s_isLaid (d := j + (d + 2)) hL1 (by omega) h7 (show dg < 2147483648 by omega)
        rw [hpl] at hlaid
        have hu2 := hg.1.2.2
        rw [List.range'_succ, List.any_cons]
        cases hbit : (b (112 + cgC b k i)).testBit dg with
        | false =>
          refine ⟨Mn, ?_, hn2⟩
          refine e_M_hasWayFrom_18 ?_
          simp only [s_top hR1, zC1_some, n_lt (show b 2 < 2147483648 by omega) (show dg < 2147483648 by omega), hcell, s_marks hR1 hc36, s_holds hm3 (show dg < 32 by omega), hbit, nB0, if_true, n_add1, hn1]
          rw [if_neg (by omega)]
          simp
        | true =>
          obtain ⟨Ml, hl1, hl2⟩ := laid
          cases hu : cgU b k with
          | true =>
            have hu' : b (150 + 10 * k) = 1 := of_decide_eq_true hu
            cases hcon : pre.contains dg with
            | true =>
              refine ⟨Mn, ?_, hn2⟩
              refine e_M_hasWayFrom_18 ?_
              simp only [s_top hR1, zC1_some, n_lt (show b 2 < 2147483648 by omega) (show dg < 2147483648 by omega), hcell, s_marks hR1 hc36, s_holds hm3 (show dg < 32 by omega), hbit, nB0, hof, hu', if_true, hlaid, hcon, n_add1, hn1]
              rw [if_neg (by omega), if_neg (by simp), if_neg (by simp)]
              rw [hu]
              simp
            | false =>
              refine ⟨Ml, ?_, hl2⟩
              refine e_M_hasWayFrom_18 ?_
              simp only [s_top hR1, zC1_some, n_lt (show b 2 < 2147483648 by omega) (show dg < 2147483648 by omega), hcell, s_marks hR1 hc36, s_holds hm3 (show dg < 32 by omega), hbit, nB0, hof, hu', if_true, hlaid, hcon, hl1]
              rw [if_neg (by omega), if_neg (by simp)]
              rw [hu]
              simp
          | false =>
            have hu' : ¬ b (150 + 10 * k) = 1 := of_decide_eq_false hu
            refine ⟨Ml, ?_, hl2⟩
            refine e_M_hasWayFrom_18 ?_
            simp only [s_top hR1, zC1_some, n_lt (show b 2 < 2147483648 by omega) (show dg < 2147483648 by omega), hcell, s_marks hR1 hc36, s_holds hm3 (show dg < 32 by omega), hbit, nB0, hof, n_eq (show b (150 + 10 * k) < 2147483648 by omega) (show 1 < 2147483648 by omega), hu', if_false, hl1]
            rw [if_neg (by omega), if_neg (by simp)]
            rw [hu]
            simp
    obtain ⟨M', hl1, hl2⟩ := loop (b 2) 1 M (Nat.le_refl 1) (by omega) hR hL
    refine ⟨M', ?_, hl2⟩
    refine e_M_hasWayFrom ?_
    simp only [s_ofN hR h12, zC1_some, n_eq (show i < 2147483648 by omega) (show cgN b k < 2147483648 by omega), hl1, ext, List.any_flatMap]
    rw [if_neg (by omega)]
    congr 6
    funext x
    split <;> simp_all
end MW
