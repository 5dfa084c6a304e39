/-! THE MODEL, 52: tell -/
theorem rdLoop_ok {tp : List Nat} : ∀ f s r q, PB r → PV r → s ≤ tp.length → rdLoop tp f s r = .ok q → (s ≤ q.1 ∧ q.1 ≤ tp.length) ∧ PV q.2 ∧ PB q.2
  | 0, _, _, _, _, _, _, h => by cases h
  | f + 1, s, r, q, hB, hV, hs, h => by
    have hle := skp_le hs
    have h' : (if skp tp s < tp.length ∧ tq tp (skp tp s) = 59 then
      match rdPt tp (skp tp s + 1) r with
      | Except.error e => Except.error e
      | Except.ok q => rdLoop tp f q.1 q.2
      else Except.ok (skp tp s, r)) = .ok q := h
    by_cases hx : skp tp s < tp.length ∧ tq tp (skp tp s) = 59
    · rw [if_pos hx] at h'
      cases hE : rdPt tp (skp tp s + 1) r with
      | error e => rw [hE] at h'; cases h'
      | ok p =>
        rw [hE] at h'
        obtain ⟨g1, g2, g3⟩ := rdPt_ok hB hV (by omega) hE
        have ih := rdLoop_ok f p.1 p.2 q g3 g2 g1.2 h'
        exact ⟨⟨by omega, ih.1.2⟩, ih.2⟩
    · rw [if_neg hx] at h'
      cases h'
      exact ⟨⟨hle.1, hle.2⟩, hV, hB⟩
/-- the sides told -/
def sidR (w h t : Nat) : Nat → Nat := upN (upN (upN zR 0 w) 1 h) 2 t
theorem sidR_z {w h t k : Nat} (hk : 3 ≤ k) : sidR w h t k = 0 := by
  unfold sidR
  rw [upN_ne (by omega), upN_ne (by omega), upN_ne (by omega)]
  rfl
theorem sidR_b {w h t : Nat} (hw : w ≤ 6) (hh : h ≤ 6) (ht : t ≤ 7) : PB (sidR w h t) := by
  have e0 : sidR w h t 0 = w := by unfold sidR; rw [upN_ne (by omega), upN_ne (by omega), upN_at]
  have e1 : sidR w h t 1 = h := by unfold sidR; rw [upN_ne (by omega), upN_at]
  have e2 : sidR w h t 2 = t := by unfold sidR; rw [upN_at]
  refine ⟨fun k => ?_, ⟨by rw [e0]; exact hw, by rw [e1]; exact hh, by rw [e2]; exact ht, by rw [sidR_z (by omega)]; omega⟩, fun k hk => by rw [sidR_z (by omega)]; omega⟩
  rcases (show k = 0 ∨ k = 1 ∨ k = 2 ∨ 3 ≤ k by omega) with z | z | z | z
  · rw [z, e0]; omega
  · rw [z, e1]; omega
  · rw [z, e2]; omega
  · rw [sidR_z z]; omega
theorem sidR_v {w h t : Nat} (hw : 1 ≤ w ∧ w ≤ 6) (hh : 1 ≤ h ∧ h ≤ 6) (ht : 2 ≤ t ∧ t ≤ 7) : PV (sidR w h t) := by
  have e0 : sidR w h t 0 = w := by unfold sidR; rw [upN_ne (by omega), upN_ne (by omega), upN_at]
  have e1 : sidR w h t 1 = h := by unfold sidR; rw [upN_ne (by omega), upN_at]
  have e2 : sidR w h t 2 = t := by unfold sidR; rw [upN_at]
  refine ⟨⟨by rw [e0]; exact hw, by rw [e1]; exact hh, by rw [e2]; exact ht, by rw [sidR_z (by omega)]; omega⟩, fun c hc => ?_, fun k hk => by rw [sidR_z (by omega)] at hk; omega⟩
  rw [sidR_z (show 3 ≤ 4 + c by omega), sidR_z (show 3 ≤ 76 + c by omega), sidR_z (show 3 ≤ 40 + c by omega), sidR_z (show 3 ≤ 112 + c by omega)]
  exact ⟨⟨by omega, by omega, by omega⟩, fun z => by omega, fun _ => rfl, rfl⟩
/-- the marks are laid -/
def mkS (r : Nat → Nat) (c : Nat) : Nat → Nat := if isO r c = true then setK r c (if r (76 + c) = 1 then 2 ^ r (40 + c) else allM r) else r
def mkN (r : Nat → Nat) : Nat → Nat → Nat
  | 0 => r
  | c + 1 => mkS (mkN r c) c
def mkR (r : Nat → Nat) : Nat → Nat := mkN r (r 0 * r 1)
def spTell (tp : List Nat) : Int32 × Option (Nat → Nat) := match rdAll tp with
  | .error e => (-2 - nI e, none)
  | .ok r => (nI (r 3), some (mkR r))
theorem mkS_ne {r : Nat → Nat} {c k : Nat} (h : k ≠ 112 + c) : mkS r c k = r k := by
  unfold mkS
  split
  · exact setK_ne h
  · rfl
theorem mkN_ne {r : Nat → Nat} : ∀ {c k : Nat}, (k < 112 ∨ 112 + c ≤ k) → mkN r c k = r k
  | 0, _, _ => rfl
  | c + 1, k, h => (mkS_ne (by omega)).trans (mkN_ne (by omega))
theorem mkN_isO {r : Nat → Nat} (hN : r 0 * r 1 ≤ 36) (c : Nat) : isO (mkN r c) = isO r := funext fun x => by
  unfold isO
  rw [mkN_ne (by omega), mkN_ne (by omega)]
  by_cases h : x < r 0 * r 1
  · rw [mkN_ne (by omega)]
  · rw [decide_eq_false h, Bool.false_and, Bool.false_and]
theorem mkN_at {r : Nat → Nat} (hN : r 0 * r 1 ≤ 36) : ∀ {c x : Nat}, x < c → c ≤ 36 → mkN r c (112 + x) = if isO r x = true then (if r (76 + x) = 1 then 2 ^ r (40 + x) else allM r) else r (112 + x)
  | 0, x, h, _ => by omega
  | c + 1, x, h, hc => by
    show mkS (mkN r c) c (112 + x) = _
    by_cases e : x = c
    · subst e
      unfold mkS
      rw [mkN_isO hN]
      cases hO : isO r x with
      | true =>
        rw [if_pos rfl, if_pos rfl, setK_at, mkN_ne (by omega), mkN_ne (by omega)]
        unfold allM
        rw [mkN_ne (by omega)]
      | false =>
        rw [if_neg (by simp), if_neg (by simp), mkN_ne (by omega)]
    · rw [mkS_ne (by omega)]
      exact mkN_at hN (by omega) (by omega)
theorem mkR_w {r : Nat → Nat} (hV : PV r) (hO : opnR r ≤ 16) (hM : ∀ c, 36 ≤ c → True) : Wf (mkR r) ∧ WfD (mkR r) := by
  have h36 := hV.n36
  have eO : isO (mkR r) = isO r := mkN_isO h36 _
  have ne : ∀ k, (k < 112 ∨ 148 ≤ k) → mkR r k = r k := fun k hk => mkN_ne (by omega)
  have hm : ∀ c, c < 36 → mkR r (112 + c) = if isO r c = true then (if r (76 + c) = 1 then 2 ^ r (40 + c) else allM r) else 0 := fun c hc => by
    by_cases hc2 : c < r 0 * r 1
    · unfold mkR
      rw [mkN_at h36 hc2 h36, (hV.2.1 c hc).2.2.2]
    · unfold mkR
      rw [mkN_ne (by omega), (hV.2.1 c hc).2.2.2, if_neg]
      unfold isO
      rw [decide_eq_false hc2]
      simp
  refine ⟨?_, fun c hc => ?_⟩
  · unfold Wf
    rw [ne 0 (by omega), ne 1 (by omega), ne 2 (by omega), ne 3 (by omega)]
    refine ⟨⟨hV.1.1.2, hV.1.2.1.2, hV.1.2.2.1.2, hV.1.2.2.2⟩, fun z => by have := hV.1.2.2.1.1; omega, fun _ => ⟨hV.1.1.1, hV.1.2.1.1, hV.1.2.2.1.1⟩, fun c hc => ?_, ?_, fun k hk => ?_⟩
    · have g := hV.2.1 c hc
      unfold WfC
      rw [eO, ne (4 + c) (by omega), ne (76 + c) (by omega), ne (40 + c) (by omega), ne 2 (by omega), hm c hc]
      refine ⟨⟨g.1.1, g.1.2.1⟩, ⟨g.1.2.2, ?_, ?_⟩, fun z => ?_⟩
      · by_cases e : isO r c = true
        · rw [if_pos e]
          by_cases e2 : r (76 + c) = 1
          · rw [if_pos e2]
            exact (Nat.pow_lt_pow_iff_right (by omega)).mpr (by omega)
          · rw [if_neg e2]
            exact allM_lt0 r
        · rw [if_neg e]
          exact Nat.lt_of_lt_of_le Nat.zero_lt_one Nat.one_le_two_pow
      · by_cases e : isO r c = true
        · rw [if_pos e]
          by_cases e2 : r (76 + c) = 1
          · rw [if_pos e2, Nat.testBit_two_pow]
            have := (g.2.1 e2).2
            exact decide_eq_false (by omega)
          · rw [if_neg e2]
            exact allM_0 r
        · rw [if_neg e]
          exact Nat.zero_testBit 0
      · rw [if_neg (by rw [z]; simp)]
        have h76 : r (76 + c) = 0 := by
          rcases Nat.eq_zero_or_pos (r (76 + c)) with h | h
          · exact h
          · have := (g.2.1 (by omega)).1
            rw [z] at this
            cases this
        exact ⟨rfl, g.2.2.1 h76, h76⟩
    · unfold openN
      rw [eO]
      have : ((List.range 36).filter (isO r)).length = opnR r := by
        unfold opnR
        rw [show (36 : Nat) = r 0 * r 1 + (36 - r 0 * r 1) by omega, List.range_add, List.filter_append, List.length_append]
        have e1 : (List.range (r 0 * r 1)).filter (isO r) = (List.range (r 0 * r 1)).filter fun c => decide (r (4 + c) = 0) := List.filter_congr fun x hx => by
          have := List.mem_range.mp hx
          unfold isO
          rw [decide_eq_true this, Bool.true_and]
        have e2 : ((List.range (36 - r 0 * r 1)).map (r 0 * r 1 + ·)).filter (isO r) = [] := List.filter_eq_nil_iff.mpr fun x hx => by
          obtain ⟨y, _, rfl⟩ := List.mem_map.mp hx
          unfold isO
          rw [decide_eq_false (by omega)]
          simp
        rw [e1, e2]
        rfl
      rw [this]
      exact hO
    · have g := hV.2.2 k hk
      have h12 := hV.1.2.2.2
      have eN : cgN (mkR r) k = cgN r k := ne _ (by omega)
      have eC : ∀ i, cgC (mkR r) k i = cgC r k i := fun i => ne _ (by omega)
      unfold WfG at g ⊢
      rw [eN, eO, ne (148 + 10 * k) (by omega), ne (149 + 10 * k) (by omega), ne (150 + 10 * k) (by omega)]
      exact ⟨g.1, g.2.1, fun i hi => by rw [eC i]; exact g.2.2.1 i hi, fun i j hij hj => by rw [eC i, eC j]; exact g.2.2.2 i j hij hj⟩
  · have g := hV.2.1 c hc
    rw [ne (76 + c) (by omega), ne (40 + c) (by omega), hm c hc]
    refine ⟨fun z => (g.2.1 z).2, fun z => ?_⟩
    have h76 : r (76 + c) = 1 := by
      rcases Nat.eq_zero_or_pos (r (76 + c)) with h | h
      · have := g.2.2.1 h
        omega
      · omega
    rw [if_pos (g.2.1 h76).1, if_pos h76]
theorem rdAll_ok {tp : List Nat} {r : Nat → Nat} (h : rdAll tp = .ok r) : PV r ∧ PB r ∧ opnR r ≤ 16 := by
  have hle0 := skp_le (Nat.zero_le tp.length)
  have wl := wd_l9
  unfold rdAll at h
  by_cases e9 : isW tp 0 (wd 9) = true
  · rw [if_pos e9] at h
    have hw := isW_le (Nat.zero_le _) (by rw [wl.1]; omega) e9
    rw [wl.1] at hw
    cases h0 : rdN tp (skp tp 0 + 5) 1 6 with
    | error e => rw [h0] at h; cases h
    | ok q0 =>
      rw [h0] at h
      dsimp only at h
      obtain ⟨a1, a2⟩ := rdN_ok hw h0
      cases h1 : rdN tp q0.2 1 6 with
      | error e => rw [h1] at h; cases h
      | ok q1 =>
        rw [h1] at h
        dsimp only at h
        obtain ⟨b1, b2⟩ := rdN_ok a2.2 h1
        by_cases e16 : isW tp q1.2 (wd 16) = true
        · rw [if_pos e16] at h
          have hw2 := isW_le b2.2 (by rw [wl.2]; omega) e16
          rw [wl.2] at hw2
          cases h2 : rdN tp (skp tp q1.2 + 3) 2 7 with
          | error e => rw [h2] at h; cases h
          | ok q2 =>
            rw [h2] at h
            dsimp only at h
            obtain ⟨c1, c2⟩ := rdN_ok hw2 h2
            cases h3 : rdLoop tp 401 q2.2 (upN (upN (upN zR 0 q0.1) 1 q1.1) 2 q2.1) with
            | error e => rw [h3] at h; cases h
            | ok p =>
              rw [h3] at h
              dsimp only at h
              obtain ⟨d1, d2, d3⟩ := rdLoop_ok 401 q2.2 (sidR q0.1 q1.1 q2.1) p (sidR_b a1.2 b1.2 c1.2) (sidR_v a1 b1 c1) c2.2 h3
              unfold rdEnd at h
              by_cases x1 : skp tp p.1 < tp.length
              · rw [if_pos x1] at h; cases h
              · rw [if_neg x1] at h
                by_cases x2 : 16 < opnR p.2
                · rw [if_pos x2] at h; cases h
                · rw [if_neg x2] at h
                  cases h
                  exact ⟨d2, d3, by omega⟩
        · rw [if_neg e16] at h; cases h
  · rw [if_neg e9] at h; cases h
