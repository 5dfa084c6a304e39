/-! THE MODEL, 51: what is read is well made -/
theorem rdCg_ok {tp : List Nat} {s : Nat} {r : Nat → Nat} (hB : PB r) (hV : PV r) (hs : s + 4 ≤ tp.length) {q : Nat × (Nat → Nat)} (h : rdCg tp s r = .ok q) : (s ≤ q.1 ∧ q.1 ≤ tp.length) ∧ PV q.2 ∧ PB q.2 := by
  have h12 := hB.2.1.2.2.2
  have h36 := hV.n36
  unfold rdCg at h
  by_cases e12 : r 3 = 12
  · rw [if_pos e12] at h; cases h
  · rw [if_neg e12] at h
    cases hT : rdT tp (s + 4) with
    | error e => rw [hT] at h; cases h
    | ok c =>
      rw [hT] at h
      dsimp only at h
      obtain ⟨t1, t2, t3⟩ := rdT_ok hs hT
      have hm := mostT_lt c.1
      have ha := alk_le tp c.2.2
      have htk := tkW_le t3 (show 6 < 17 by omega)
      have hsk := skp_le t3
      have hBc : PB (cagR r (148 + 10 * r 3) c.1 c.2.1 (alk tp c.2.2)) := hB.cag (by omega) (by omega) (by omega)
      have eO : isO (cagR r (148 + 10 * r 3) c.1 c.2.1 (alk tp c.2.2)) = isO r := isO_cg h36 fun k hk => Or.inl (cagR_ne (by omega))
      cases hM : rdMem tp (cagR r (148 + 10 * r 3) c.1 c.2.1 (alk tp c.2.2)) 400 (tkW tp c.2.2 (wd 6)) (fun _ => false) with
      | error e => rw [hM] at h; cases h
      | ok p =>
        rw [hM] at h
        cases h
        obtain ⟨k1, k2, k3, k4⟩ := rdMem_ok hBc (fun x hx => by rw [cagR_ne (by omega)]; exact (hV.2.1 x hx).1.1) 400 _ (fun _ => false) p htk.2 (fun x z => by cases z) (by rw [cOf_no]; exact Nat.zero_le _) hM
        have hmost : mostT c.1 ≤ 999999 := by
          unfold mostT
          split
          · omega
          · split <;> omega
        refine ⟨⟨by show s ≤ p.1; omega, k1.2⟩, hV.fin (by omega) t1.1 (by omega) ha (fun x hx => ?_) k3 k4, hBc.fin k4 (by rw [cagR_ne (by omega)]; omega)⟩
        rw [← eO]
        exact k2 x hx
theorem lnS_ok {r : Nat → Nat} {st en : Nat} (hen : en ≤ r 0 * r 1) (h36 : r 0 * r 1 ≤ 36) (hst : 0 < st) : ∀ f k S, (∀ x, S x = true → isO r x = true) → (∀ x, k ≤ x → S x = false) → (∀ x, lnS r st en f k S x = true → isO r x = true) ∧ (cOf S).length ≤ (cOf (lnS r st en f k S)).length ∧ (cOf (lnS r st en f k S)).length ≤ (cOf S).length + f
  | 0, _, S, h, _ => ⟨h, Nat.le_refl _, Nat.le_refl _⟩
  | f + 1, k, S, h, hk => by
    by_cases hx : k < en ∧ r (4 + k) = 0
    · have eL : lnS r st en (f + 1) k S = lnS r st en f (k + st) (upB S k) := if_pos hx
      rw [eL]
      have h7 := cOf_up (S := S) (show k < 36 by omega) (hk k (Nat.le_refl k))
      obtain ⟨g1, g2, g3⟩ := lnS_ok hen h36 hst f (k + st) (upB S k) (fun x hx2 => by
        unfold upB at hx2
        rw [Bool.or_eq_true] at hx2
        rcases hx2 with z | z
        · exact h x z
        · rw [of_decide_eq_true z]
          unfold isO
          rw [decide_eq_true (show k < r 0 * r 1 by omega), decide_eq_true hx.2]
          rfl) (fun x hx2 => by
        unfold upB
        rw [hk x (by omega), decide_eq_false (by omega), Bool.or_false])
      exact ⟨g1, by omega, by omega⟩
    · have eL : lnS r st en (f + 1) k S = S := if_neg hx
      rw [eL]
      exact ⟨h, Nat.le_refl _, by omega⟩
theorem lnEN_le {r : Nat → Nat} {c : Nat} (hB : PB r) (hc : c < r 0 * r 1) (down : Bool) : (c < lnEN r down c ∧ lnEN r down c ≤ r 0 * r 1) ∧ 0 < lnST r down := by
  obtain ⟨⟨x1, x2⟩, x3, x4, x5, x6, x7⟩ := cell_split hB hc
  unfold lnEN lnST
  cases down with
  | true => exact ⟨⟨hc, Nat.le_refl _⟩, x1⟩
  | false => exact ⟨⟨x5, x4⟩, Nat.zero_lt_one⟩
theorem rdLn_ok {tp : List Nat} {s len : Nat} {r : Nat → Nat} {down : Bool} (hB : PB r) (hV : PV r) (hs : s + len ≤ tp.length) {q : Nat × (Nat → Nat)} (h : rdLn tp s r down len = .ok q) : (s ≤ q.1 ∧ q.1 ≤ tp.length) ∧ PV q.2 ∧ PB q.2 := by
  have h12 := hB.2.1.2.2.2
  have h36 := hV.n36
  unfold rdLn at h
  by_cases e12 : r 3 = 12
  · rw [if_pos e12] at h; cases h
  · rw [if_neg e12] at h
    cases hC : rdC tp (s + len) r false with
    | error e => rw [hC] at h; cases h
    | ok c =>
      rw [hC] at h
      dsimp only at h
      obtain ⟨g1, g2, g3, -⟩ := rdC_ok hB hs hC
      cases hT : rdT tp c.2.2 with
      | error e => rw [hT] at h; cases h
      | ok p =>
        rw [hT] at h
        cases h
        obtain ⟨t1, t2, t3⟩ := rdT_ok g3.2 hT
        have ha := alk_le tp p.2.2
        have htk := tkW_le t3 (show 6 < 17 by omega)
        have hsk := skp_le t3
        obtain ⟨⟨l1, l2⟩, l3⟩ := lnEN_le hB g1.1 down
        have hmost : mostT p.1 ≤ 999999 := by
          unfold mostT
          split
          · omega
          · split <;> omega
        have h4 := (hV.2.1 c.1 g1.2).1.1
        obtain ⟨k1, k2, k3⟩ := lnS_ok (r := r) (st := lnST r down) (en := lnEN r down c.1) l2 h36 l3 6 c.1 (fun _ => false) (fun x z => by cases z) (fun _ _ => rfl)
        rw [cOf_no] at k3
        have k3' : (cOf (lnS r (lnST r down) (lnEN r down c.1) 6 c.1 fun _ => false)).length ≤ 0 + 6 := k3
        have k4 : 1 ≤ (cOf (lnS r (lnST r down) (lnEN r down c.1) 6 c.1 fun _ => false)).length := by
          have eL : lnS r (lnST r down) (lnEN r down c.1) 6 c.1 (fun _ => false) = lnS r (lnST r down) (lnEN r down c.1) 5 (c.1 + lnST r down) (upB (fun _ => false) c.1) := if_pos ⟨l1, by omega⟩
          rw [eL]
          have h7 := cOf_up (S := fun _ => false) g1.2 rfl
          have hO : isO r c.1 = true := by
            unfold isO
            rw [decide_eq_true g1.1, decide_eq_true (by omega)]
            rfl
          have k := (lnS_ok (r := r) (st := lnST r down) (en := lnEN r down c.1) l2 h36 l3 5 (c.1 + lnST r down) (upB (fun _ => false) c.1) (fun x z => by
            unfold upB at z
            rw [Bool.false_or] at z
            rw [of_decide_eq_true z]; exact hO) (fun x z => by
            unfold upB
            rw [Bool.false_or]
            exact decide_eq_false (by omega))).2.1
          omega
        exact ⟨⟨by show s ≤ tkW tp p.2.2 (wd 6); omega, htk.2⟩, hV.fin (by omega) t1.1 (by omega) ha k1 k4 (by omega), (hB.cag (by omega) (by omega) (by omega)).fin (by omega) (by rw [cagR_ne (by omega)]; omega)⟩
theorem rdGv_ok {tp : List Nat} {s : Nat} {r : Nat → Nat} (hB : PB r) (hV : PV r) (hs : s + 5 ≤ tp.length) {q : Nat × (Nat → Nat)} (h : rdGv tp s r = .ok q) : (s ≤ q.1 ∧ q.1 ≤ tp.length) ∧ PV q.2 ∧ PB q.2 := by
  have h36 := hV.n36
  unfold rdGv at h
  cases hC : rdC tp (s + 5) r false with
  | error e => rw [hC] at h; cases h
  | ok c =>
    rw [hC] at h
    dsimp only at h
    obtain ⟨g1, g2, g3, -⟩ := rdC_ok hB hs hC
    by_cases e : r (76 + c.1) = 1
    · rw [if_pos e] at h; cases h
    · rw [if_neg e] at h
      cases hN : rdN tp c.2.2 1 (r 2) with
      | error e2 => rw [hN] at h; cases h
      | ok p =>
        rw [hN] at h
        cases h
        obtain ⟨k1, k2⟩ := rdN_ok g3.2 hN
        have h4 := (hV.2.1 c.1 g1.2).1.1
        have hO : isO r c.1 = true := by
          unfold isO
          rw [decide_eq_true g1.1, decide_eq_true (by omega)]
          rfl
        have ne : ∀ k, k ≠ 40 + c.1 → k ≠ 76 + c.1 → upN (upN r (40 + c.1) p.1) (76 + c.1) 1 k = r k := fun k h1 h2 => by rw [upN_ne h2, upN_ne h1]
        have eO : isO (upN (upN r (40 + c.1) p.1) (76 + c.1) 1) = isO r := isO_cg h36 fun k hk => Or.inl (ne k (by omega) (by omega))
        have h27 := hB.2.1.2.2.1
        refine ⟨⟨by show s ≤ p.2; omega, k2.2⟩, ?_, (hB.up (by omega) (by omega) (fun k _ => by omega)).up (by omega) (by omega) (fun k _ => by omega)⟩
        show PV (upN (upN r (40 + c.1) p.1) (76 + c.1) 1)
        refine ⟨?_, fun x hx => ?_, fun k hk => ?_⟩
        · rw [ne 0 (by omega) (by omega), ne 1 (by omega) (by omega), ne 2 (by omega) (by omega), ne 3 (by omega) (by omega)]
          exact hV.1
        · have g := hV.2.1 x hx
          rw [eO, ne (4 + x) (by omega) (by omega), ne 2 (by omega) (by omega), ne (112 + x) (by omega) (by omega)]
          by_cases e2 : x = c.1
          · have e76 : upN (upN r (40 + c.1) p.1) (76 + c.1) 1 (76 + x) = 1 := by rw [e2, upN_at]
            have e40 : upN (upN r (40 + c.1) p.1) (76 + c.1) 1 (40 + x) = p.1 := by rw [upN_ne (by omega), e2, upN_at]
            rw [e76, e40, e2]
            exact ⟨⟨h4, Nat.le_refl 1, k1.2⟩, fun _ => ⟨hO, k1.1⟩, (fun z => by cases z), (e2 ▸ g.2.2.2)⟩
          · rw [ne (76 + x) (by omega) (by omega), ne (40 + x) (by omega) (by omega)]
            exact g
        · have h12 := hV.1.2.2.2
          rw [ne 3 (by omega) (by omega)] at hk
          have g := hV.2.2 k hk
          have h6k := g.2.1.2
          have eN : cgN (upN (upN r (40 + c.1) p.1) (76 + c.1) 1) k = cgN r k := ne _ (by omega) (by omega)
          have eC : ∀ i, cgC (upN (upN r (40 + c.1) p.1) (76 + c.1) 1) k i = cgC r k i := fun i => ne _ (by omega) (by omega)
          unfold WfG at g ⊢
          rw [eN, eO, ne (148 + 10 * k) (by omega) (by omega), ne (149 + 10 * k) (by omega) (by omega), ne (150 + 10 * k) (by omega) (by omega)]
          exact ⟨g.1, g.2.1, fun i hi => by rw [eC i]; exact g.2.2.1 i hi, fun i j hij hj => by rw [eC i, eC j]; exact g.2.2.2 i j hij hj⟩
theorem rdPt_ok {tp : List Nat} {s : Nat} {r : Nat → Nat} (hB : PB r) (hV : PV r) (hs : s ≤ tp.length) {q : Nat × (Nat → Nat)} (h : rdPt tp s r = .ok q) : (s ≤ q.1 ∧ q.1 ≤ tp.length) ∧ PV q.2 ∧ PB q.2 := by
  have hle := skp_le hs
  have wl := wd_l4
  have tr : ∀ {a : Nat}, ((a ≤ q.1 ∧ q.1 ≤ tp.length) ∧ PV q.2 ∧ PB q.2) → s ≤ a → ((s ≤ q.1 ∧ q.1 ≤ tp.length) ∧ PV q.2 ∧ PB q.2) := fun h1 h2 => ⟨⟨by omega, h1.1.2⟩, h1.2⟩
  unfold rdPt at h
  by_cases e8 : isW tp s (wd 8) = true
  · rw [if_pos e8] at h
    have hw := isW_le hs (by rw [wl.2.1]; omega) e8
    rw [wl.2.1] at hw
    exact tr (rdBl_ok 400 _ r q hB hV hw h) (by omega)
  · rw [if_neg e8] at h
    by_cases e10 : isW tp s (wd 10) = true
    · rw [if_pos e10] at h
      have hw := isW_le hs (by rw [wl.1]; omega) e10
      rw [wl.1] at hw
      exact tr (rdCg_ok hB hV hw h) (by omega)
    · rw [if_neg e10] at h
      by_cases e5 : isW tp s (wd 5) = true
      · rw [if_pos e5] at h
        have hw := isW_le hs (by rw [wl.2.2.1]; omega) e5
        rw [wl.2.2.1] at hw
        exact tr (rdLn_ok hB hV hw h) (by omega)
      · rw [if_neg e5] at h
        by_cases e11 : isW tp s (wd 11) = true
        · rw [if_pos e11] at h
          have hw := isW_le hs (by rw [wl.2.2.2.1]; omega) e11
          rw [wl.2.2.2.1] at hw
          exact tr (rdLn_ok hB hV hw h) (by omega)
        · rw [if_neg e11] at h
          by_cases e12 : isW tp s (wd 12) = true
          · rw [if_pos e12] at h
            have hw := isW_le hs (by rw [wl.2.2.2.2]; omega) e12
            rw [wl.2.2.2.2] at hw
            exact tr (rdGv_ok hB hV hw h) (by omega)
          · rw [if_neg e12] at h
            cases h
