/-! THE MODEL, 49: a text read, tell -/
def rdLoop (tp : List Nat) : Nat → Nat → (Nat → Nat) → Except Nat (Nat × (Nat → Nat))
  | 0, _, _ => .error 0
  | f + 1, s, r => if skp tp s < tp.length ∧ tq tp (skp tp s) = 59 then
      match rdPt tp (skp tp s + 1) r with
      | .error e => .error e
      | .ok q => rdLoop tp f q.1 q.2
    else .ok (skp tp s, r)
def opnR (r : Nat → Nat) : Nat := ((List.range (r 0 * r 1)).filter fun c => decide (r (4 + c) = 0)).length
def rdEnd (tp : List Nat) (s : Nat) (r : Nat → Nat) : Except Nat (Nat → Nat) :=
  if skp tp s < tp.length then .error (8 * skp tp s + 1) else if 16 < opnR r then .error (8 * tp.length + 4) else .ok r
def zR : Nat → Nat := fun _ => 0
def rdAll (tp : List Nat) : Except Nat (Nat → Nat) :=
  if isW tp 0 (wd 9) = true then
    match rdN tp (skp tp 0 + 5) 1 6 with
    | .error e => .error e
    | .ok q0 => match rdN tp q0.2 1 6 with
      | .error e => .error e
      | .ok q1 => if isW tp q1.2 (wd 16) = true then
          match rdN tp (skp tp q1.2 + 3) 2 7 with
          | .error e => .error e
          | .ok q2 => match rdLoop tp 401 q2.2 (upN (upN (upN zR 0 q0.1) 1 q1.1) 2 q2.1) with
            | .error e => .error e
            | .ok p => rdEnd tp p.1 p.2
        else .error (8 * skp tp q1.2 + 1)
  else .error (8 * skp tp 0 + 1)
theorem wd_l9 : (wd 9).length = 5 ∧ (wd 16).length = 3 := by decide +kernel
/-- a board as far as it is read -/
def PV (r : Nat → Nat) : Prop := ((1 ≤ r 0 ∧ r 0 ≤ 6) ∧ (1 ≤ r 1 ∧ r 1 ≤ 6) ∧ (2 ≤ r 2 ∧ r 2 ≤ 7) ∧ r 3 ≤ 12) ∧
  (∀ c, c < 36 → (r (4 + c) ≤ 1 ∧ r (76 + c) ≤ 1 ∧ r (40 + c) ≤ r 2) ∧ (r (76 + c) = 1 → isO r c = true ∧ 0 < r (40 + c)) ∧ (r (76 + c) = 0 → r (40 + c) = 0) ∧ r (112 + c) = 0) ∧ ∀ k, k < r 3 → WfG r k
theorem isO_cg {r r' : Nat → Nat} (hN : r 0 * r 1 ≤ 36) (h : ∀ k, k < 40 → r' k = r k ∨ k = 2 ∨ k = 3) : isO r' = isO r := funext fun x => by
  have h0 : r' 0 = r 0 := by rcases h 0 (by omega) with z | z | z; exact z; omega; omega
  have h1 : r' 1 = r 1 := by rcases h 1 (by omega) with z | z | z; exact z; omega; omega
  unfold isO
  rw [h0, h1]
  by_cases hx : x < r 0 * r 1
  · have : r' (4 + x) = r (4 + x) := by rcases h (4 + x) (by omega) with z | z | z; exact z; omega; omega
    rw [this]
  · rw [decide_eq_false hx, Bool.false_and, Bool.false_and]
theorem PV.n36 {r : Nat → Nat} (h : PV r) : r 0 * r 1 ≤ 36 := Nat.mul_le_mul h.1.1.2 h.1.2.1.2
theorem PV.blk {r : Nat → Nat} (h : PV r) (hB : PB r) {c : Nat} (hc : c < r 0 * r 1) (h76 : r (76 + c) = 0) (hK : inK r c = false) : PV (upN r (4 + c) 1) := by
  have h36 := h.n36
  have ne : ∀ k, k ≠ 4 + c → upN r (4 + c) 1 k = r k := fun k hk => upN_ne hk
  have eO : ∀ x, x ≠ c → isO (upN r (4 + c) 1) x = isO r x := fun x hx => by
    unfold isO
    rw [ne 0 (by omega), ne 1 (by omega)]
    by_cases g : x < r 0 * r 1
    · rw [ne (4 + x) (by omega)]
    · rw [decide_eq_false g, Bool.false_and, Bool.false_and]
  refine ⟨?_, fun x hx => ?_, fun k hk => ?_⟩
  · rw [ne 0 (by omega), ne 1 (by omega), ne 2 (by omega), ne 3 (by omega)]
    exact h.1
  · have g := h.2.1 x hx
    rw [ne (76 + x) (by omega), ne (40 + x) (by omega), ne 2 (by omega), ne (112 + x) (by omega)]
    by_cases e : x = c
    · subst e
      rw [upN_at]
      exact ⟨⟨Nat.le_refl 1, g.1.2⟩, (fun z => by rw [h76] at z; cases z), g.2.2⟩
    · rw [ne (4 + x) (by omega), eO x e]
      exact g
  · rw [ne 3 (by omega)] at hk
    have h12 := h.1.2.2.2
    have g := h.2.2 k hk
    have eN : cgN (upN r (4 + c) 1) k = cgN r k := ne _ (by omega)
    have eC : ∀ i, cgC (upN r (4 + c) 1) k i = cgC r k i := fun i => ne _ (by omega)
    unfold WfG at g ⊢
    rw [eN, ne (148 + 10 * k) (by omega), ne (149 + 10 * k) (by omega), ne (150 + 10 * k) (by omega)]
    refine ⟨g.1, g.2.1, fun i hi => ?_, fun i j hij hj => by rw [eC, eC]; exact g.2.2.2 i j hij hj⟩
    rw [eC, eO _ (fun z => ?_)]
    · exact g.2.2.1 i hi
    · have : inK r c = true := by
        unfold inK
        rw [List.any_eq_true]
        refine ⟨k, List.mem_range.mpr hk, ?_⟩
        rw [List.any_eq_true]
        exact ⟨i, List.mem_range.mpr hi, decide_eq_true z⟩
      rw [this] at hK
      cases hK
theorem rdBl_ok {tp : List Nat} : ∀ f s r q, PB r → PV r → s ≤ tp.length → rdBl tp f s r = .ok q → (s ≤ q.1 ∧ q.1 ≤ tp.length) ∧ PV q.2 ∧ PB q.2
  | 0, _, _, _, _, _, _, h => by cases h
  | f + 1, s, r, q, hB, hV, hs, h => by
    have h36 := hV.n36
    have h' : (match rdC tp s r true with
      | Except.error e => Except.error e
      | Except.ok q => if inB tp (skp tp q.2.2) 97 122 = true then rdBl tp f (skp tp q.2.2) (upN r (4 + q.1) 1) else Except.ok (skp tp q.2.2, upN r (4 + q.1) 1)) = .ok q := h
    cases hE : rdC tp s r true with
    | error e => rw [hE] at h'; cases h'
    | ok c =>
      rw [hE] at h'
      dsimp only at h'
      obtain ⟨g1, g2, g3, g4⟩ := rdC_ok hB hs hE
      obtain ⟨g5, g6⟩ := g4 rfl
      have hV2 := hV.blk hB g1.1 g5 g6
      have hB2 : PB (upN r (4 + c.1) 1) := hB.up (by omega) (by omega) (fun k _ => by omega)
      have hle := skp_le g3.2
      by_cases hL : inB tp (skp tp c.2.2) 97 122 = true
      · rw [if_pos hL] at h'
        have ih := rdBl_ok f _ _ q hB2 hV2 hle.2 h'
        exact ⟨⟨by omega, ih.1.2⟩, ih.2⟩
      · rw [if_neg hL] at h'
        cases h'
        exact ⟨⟨by show s ≤ skp tp c.2.2; omega, hle.2⟩, hV2, hB2⟩
theorem rdMem_ok {tp : List Nat} {r : Nat → Nat} (hB : PB r) (hV : ∀ x, x < 36 → r (4 + x) ≤ 1) : ∀ f s S p, s ≤ tp.length → (∀ x, S x = true → isO r x = true) → (cOf S).length ≤ 6 → rdMem tp r f s S = .ok p → (s ≤ p.1 ∧ p.1 ≤ tp.length) ∧ (∀ x, p.2 x = true → isO r x = true) ∧ 1 ≤ (cOf p.2).length ∧ (cOf p.2).length ≤ 6
  | 0, _, _, _, _, _, _, h => by cases h
  | f + 1, s, S, p, hs, hS, h6, h => by
    have h' : (if inB tp (skp tp s) 97 (96 + r 0) = true ∧ (cOf S).length = 6 then Except.error (8 * skp tp s + 3) else
        match rdC tp s r false with
        | Except.error e => Except.error e
        | Except.ok q => if S q.1 = true then Except.error (8 * q.2.1 + 2) else if inB tp (skp tp q.2.2) 97 122 = true then rdMem tp r f (skp tp q.2.2) (upB S q.1) else Except.ok (skp tp q.2.2, upB S q.1)) = .ok p := h
    by_cases hx : inB tp (skp tp s) 97 (96 + r 0) = true ∧ (cOf S).length = 6
    · rw [if_pos hx] at h'; cases h'
    · rw [if_neg hx] at h'
      cases hE : rdC tp s r false with
      | error e => rw [hE] at h'; cases h'
      | ok c =>
        rw [hE] at h'
        dsimp only at h'
        obtain ⟨g1, g2, g3, -⟩ := rdC_ok hB hs hE
        have hcol := rdC_col hE
        have h66 : (cOf S).length < 6 := by
          rcases Nat.lt_or_ge (cOf S).length 6 with g | g
          · exact g
          · exact absurd ⟨hcol, by omega⟩ hx
        cases hSc : S c.1 with
        | true => rw [if_pos hSc] at h'; cases h'
        | false =>
          rw [if_neg (by rw [hSc]; simp)] at h'
          have h7 := cOf_up g1.2 hSc
          have hle := skp_le g3.2
          have h4 := hV c.1 g1.2
          have hO : isO r c.1 = true := by
            unfold isO
            rw [decide_eq_true g1.1, decide_eq_true (by omega)]
            rfl
          have hS2 : ∀ x, upB S c.1 x = true → isO r x = true := fun x hx2 => by
            unfold upB at hx2
            rw [Bool.or_eq_true] at hx2
            rcases hx2 with z | z
            · exact hS x z
            · rw [of_decide_eq_true z]; exact hO
          by_cases hL : inB tp (skp tp c.2.2) 97 122 = true
          · rw [if_pos hL] at h'
            have ih := rdMem_ok hB hV f _ _ p hle.2 hS2 (by omega) h'
            exact ⟨⟨by omega, ih.1.2⟩, ih.2⟩
          · rw [if_neg hL] at h'
            cases h'
            exact ⟨⟨by show s ≤ skp tp c.2.2; omega, hle.2⟩, hS2, by show 1 ≤ (cOf (upB S c.1)).length; omega, by show (cOf (upB S c.1)).length ≤ 6; omega⟩
theorem cOf_lt (S : Nat → Bool) {i j : Nat} (hij : i < j) (hj : j < (cOf S).length) : (cOf S).getD i 0 < (cOf S).getD j 0 := by
  have hp : (cOf S).Pairwise (· < ·) := by
    unfold cOf
    exact List.Pairwise.filter _ (by rw [List.range_eq_range']; exact List.pairwise_lt_range')
  rw [getD_el (by omega), getD_el hj]
  exact List.pairwise_iff_getElem.mp hp i j (by omega) hj hij
theorem PV.fin {r : Nat → Nat} (h : PV r) {t n u : Nat} {S : Nat → Bool} (h3 : r 3 < 12) (ht : t ≤ 3) (hn : n ≤ 999999) (hu : u ≤ 1) (hS : ∀ x, S x = true → isO r x = true) (h1 : 1 ≤ (cOf S).length) (h6 : (cOf S).length ≤ 6) : PV (finR (cagR r (148 + 10 * r 3) t n u) (148 + 10 * r 3) S) := by
  have h36 := h.n36
  have low : ∀ k, k < 148 → k ≠ 3 → finR (cagR r (148 + 10 * r 3) t n u) (148 + 10 * r 3) S k = r k := fun k hk hk3 => by
    unfold finR
    rw [upN_ne hk3, memR_low (by omega) h6, cagR_ne (by omega)]
  have low2 : ∀ k, 148 ≤ k → k < 148 + 10 * r 3 → finR (cagR r (148 + 10 * r 3) t n u) (148 + 10 * r 3) S k = r k := fun k hk hk3 => by
    unfold finR
    rw [upN_ne (by omega), memR_low (by omega) h6, cagR_ne (by omega)]
  have e3 : finR (cagR r (148 + 10 * r 3) t n u) (148 + 10 * r 3) S 3 = r 3 + 1 := by
    unfold finR
    rw [upN_at, cagR_ne (by omega)]
  have eO : isO (finR (cagR r (148 + 10 * r 3) t n u) (148 + 10 * r 3) S) = isO r := isO_cg h36 fun k hk => by
    by_cases e : k = 3
    · exact Or.inr (Or.inr e)
    · exact Or.inl (low k (by omega) e)
  have g0 : finR (cagR r (148 + 10 * r 3) t n u) (148 + 10 * r 3) S (148 + 10 * r 3) = t := by
    unfold finR
    rw [upN_ne (by omega), memR_low (by omega) h6]
    unfold cagR
    rw [upN_ne (by omega), upN_ne (by omega), upN_at]
  have g1 : finR (cagR r (148 + 10 * r 3) t n u) (148 + 10 * r 3) S (149 + 10 * r 3) = n := by
    unfold finR
    rw [upN_ne (by omega), memR_low (by omega) h6]
    unfold cagR
    rw [upN_ne (by omega), show 149 + 10 * r 3 = 148 + 10 * r 3 + 1 by omega, upN_at]
  have g2 : finR (cagR r (148 + 10 * r 3) t n u) (148 + 10 * r 3) S (150 + 10 * r 3) = u := by
    unfold finR
    rw [upN_ne (by omega), memR_low (by omega) h6]
    unfold cagR
    rw [show 150 + 10 * r 3 = 148 + 10 * r 3 + 2 by omega, upN_at]
  have gN : cgN (finR (cagR r (148 + 10 * r 3) t n u) (148 + 10 * r 3) S) (r 3) = (cOf S).length := by
    unfold cgN finR
    rw [upN_ne (by omega)]
    unfold memR
    rw [if_pos (by omega)]
  have gC : ∀ i, i < (cOf S).length → cgC (finR (cagR r (148 + 10 * r 3) t n u) (148 + 10 * r 3) S) (r 3) i = (cOf S).getD i 0 := fun i hi => by
    unfold cgC finR
    rw [upN_ne (by omega)]
    unfold memR
    rw [if_neg (by omega), if_pos (by omega), show 152 + 10 * r 3 + i - (148 + 10 * r 3 + 4) = i by omega]
  refine ⟨?_, fun x hx => ?_, fun k hk => ?_⟩
  · rw [low 0 (by omega) (by omega), low 1 (by omega) (by omega), low 2 (by omega) (by omega), e3]
    exact ⟨h.1.1, h.1.2.1, h.1.2.2.1, by omega⟩
  · rw [low (4 + x) (by omega) (by omega), low (76 + x) (by omega) (by omega), low (40 + x) (by omega) (by omega), low 2 (by omega) (by omega), low (112 + x) (by omega) (by omega), eO]
    exact h.2.1 x hx
  · rw [e3] at hk
    by_cases e : k = r 3
    · rw [e]
      unfold WfG
      rw [g0, g1, g2, gN, eO]
      refine ⟨⟨ht, hn, hu⟩, ⟨h1, h6⟩, fun i hi => ?_, fun i j hij hj => ?_⟩
      · rw [gC i hi]
        exact hS _ (cOf_mem.mp (getD_mem hi)).2
      · rw [gC i (by omega), gC j hj]
        exact cOf_lt S hij hj
    · have g := h.2.2 k (by omega)
      have h6k := g.2.1.2
      have eN : cgN (finR (cagR r (148 + 10 * r 3) t n u) (148 + 10 * r 3) S) k = cgN r k := low2 _ (by omega) (by omega)
      have eC : ∀ i, i < 6 → cgC (finR (cagR r (148 + 10 * r 3) t n u) (148 + 10 * r 3) S) k i = cgC r k i := fun i hi => low2 _ (by omega) (by omega)
      unfold WfG at g ⊢
      rw [eN, eO, low2 (148 + 10 * k) (by omega) (by omega), low2 (149 + 10 * k) (by omega) (by omega), low2 (150 + 10 * k) (by omega) (by omega)]
      exact ⟨g.1, g.2.1, fun i hi => by rw [eC i (by omega)]; exact g.2.2.1 i hi, fun i j hij hj => by rw [eC i (by omega), eC j (by omega)]; exact g.2.2.2 i j hij hj⟩
