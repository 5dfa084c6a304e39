/-! THE CLASS, 23: products of alike digits; what a rule means -/
def eP (t : Nat) : Nat × Nat × Nat × Nat := (tm t 2, tm t 3, tm t 5, tm t 7)
def okP (t : Nat) : Bool := (decide (1 ≤ t) && decide (t ≤ 117649)) && (decide (prP (tm t 2) (tm t 3) (tm t 5) (tm t 7) = t) && decide (stP (tm t 2) (tm t 3) (tm t 5) (tm t 7) ≤ 128))
def sP (t : Nat) : Nat := stP (tm t 2) (tm t 3) (tm t 5) (tm t 7)
def wP (t σ : Nat) : Nat := vP (tm t 2) (tm t 3) (tm t 5) σ
def hP (t g : Nat) : Nat := shP (tm t 2) (tm t 3) (tm t 5) g
def rPrd (t : Nat) : DF := (fun _ _ => false, fun g σ => okP t && (decide (σ < sP t) && decide (t / wP t σ % g = 0)), fun g => bif okP t then hP t g else 0, fun σ => okP t && decide (σ + 1 = sP t))
theorem pr_bd {A B C E : Nat} (h : prP A B C E ≤ 117649) : A < 17 ∧ B < 11 ∧ C < 8 ∧ E < 7 := by
  have p2 : 0 < 2 ^ A := Nat.pow_pos (by omega)
  have p3 : 0 < 3 ^ B := Nat.pow_pos (by omega)
  have p5 : 0 < 5 ^ C := Nat.pow_pos (by omega)
  have p7 : 0 < 7 ^ E := Nat.pow_pos (by omega)
  unfold prP at h
  have b2 : 2 ^ A ≤ 2 ^ A * 3 ^ B * 5 ^ C * 7 ^ E := by
    rw [Nat.mul_assoc, Nat.mul_assoc]
    exact Nat.le_mul_of_pos_right _ (Nat.mul_pos p3 (Nat.mul_pos p5 p7))
  have b3 : 3 ^ B ≤ 2 ^ A * 3 ^ B * 5 ^ C * 7 ^ E := by
    rw [Nat.mul_assoc, Nat.mul_comm (2 ^ A), Nat.mul_assoc]
    exact Nat.le_mul_of_pos_right _ (Nat.mul_pos p2 (Nat.mul_pos p5 p7))
  have b5 : 5 ^ C ≤ 2 ^ A * 3 ^ B * 5 ^ C * 7 ^ E := by
    rw [Nat.mul_comm (2 ^ A * 3 ^ B), Nat.mul_assoc]
    exact Nat.le_mul_of_pos_right _ (Nat.mul_pos (Nat.mul_pos p2 p3) p7)
  have b7 : 7 ^ E ≤ 2 ^ A * 3 ^ B * 5 ^ C * 7 ^ E := Nat.le_mul_of_pos_left _ (Nat.mul_pos (Nat.mul_pos p2 p3) p5)
  have key : ∀ p n m, 1 < p → p ^ n ≤ 117649 → 117649 < p ^ m → n < m := fun p n m hp h1 h2 => (Nat.pow_lt_pow_iff_right hp).mp (by omega)
  exact ⟨key 2 A 17 (by omega) (by omega) (by decide), key 3 B 11 (by omega) (by omega) (by decide), key 5 C 8 (by omega) (by omega) (by decide), key 7 E 7 (by omega) (by omega) (by decide)⟩
theorem ck_get {A B C E : Nat} (h : prP A B C E ≤ 117649) : ckP A B C E (prP A B C E) (stP A B C E) = true := by
  obtain ⟨h1, h2, h3, h4⟩ := pr_bd h
  have hA := ck_all A h1
  unfold ckA at hA
  have hB := List.all_eq_true.mp hA B (List.mem_range.mpr h2)
  have hC := List.all_eq_true.mp hB C (List.mem_range.mpr h3)
  have hE := List.all_eq_true.mp hC E (List.mem_range.mpr h4)
  rw [Bool.or_eq_true] at hE
  rcases hE with z | z
  · have z2 : 117649 + 1 ≤ prP A B C E := Nat.le_of_ble_eq_true z
    omega
  · exact z
theorem ck_use {A B C E t z : Nat} (h : ckP A B C E t z = true) : (z ≤ 128 ∧ (tm t 2 = A ∧ tm t 3 = B) ∧ tm t 5 = C ∧ tm t 7 = E) ∧ vP A B C (z - 1) = t ∧ ∀ σ, σ < z → (1 ≤ vP A B C σ ∧ (vP A B C σ = t → σ + 1 = z)) ∧ ∀ g, 1 ≤ g → g ≤ 7 → t / vP A B C σ % g = 0 → σ + shP A B C g < z ∧ vP A B C (σ + shP A B C g) = vP A B C σ * g := by
  unfold ckP at h
  rw [Bool.and_eq_true, Bool.and_eq_true, Bool.and_eq_true, Bool.and_eq_true, Bool.and_eq_true, Bool.and_eq_true] at h
  obtain ⟨⟨⟨⟨a1, a2, a3⟩, a4, a5⟩, a6⟩, a7⟩ := h
  refine ⟨⟨Nat.le_of_ble_eq_true a1, ⟨Nat.eq_of_beq_eq_true a2, Nat.eq_of_beq_eq_true a3⟩, Nat.eq_of_beq_eq_true a4, Nat.eq_of_beq_eq_true a5⟩, Nat.eq_of_beq_eq_true a6, fun σ hs => ?_⟩
  have h := List.all_eq_true.mp a7 σ (List.mem_range.mpr hs)
  rw [Bool.and_eq_true, Bool.and_eq_true] at h
  obtain ⟨⟨b1, b2⟩, b3⟩ := h
  refine ⟨⟨Nat.le_of_ble_eq_true b1, fun e => ?_⟩, fun g h1 h7 hm => ?_⟩
  · rw [e, Bool.or_eq_true] at b2
    rcases b2 with y | y
    · rw [Nat.beq_refl] at y; cases y
    · exact Nat.eq_of_beq_eq_true y
  · have h := List.all_eq_true.mp b3 g (List.mem_range'_1.mpr (by omega))
    rw [hm, Bool.or_eq_true] at h
    rcases h with y | y
    · cases y
    · rw [Bool.and_eq_true] at y
      exact ⟨Nat.le_of_ble_eq_true y.1, Nat.eq_of_beq_eq_true y.2⟩
theorem okP_use {t : Nat} (h : okP t = true) : sP t ≤ 128 ∧ (1 ≤ sP t ∧ wP t (sP t - 1) = t) ∧ ∀ σ, σ < sP t → (1 ≤ wP t σ ∧ (wP t σ = t → σ + 1 = sP t)) ∧ ∀ g, 1 ≤ g → g ≤ 7 → t / wP t σ % g = 0 → σ + hP t g < sP t ∧ wP t (σ + hP t g) = wP t σ * g := by
  unfold okP at h
  rw [Bool.and_eq_true, Bool.and_eq_true, Bool.and_eq_true] at h
  have h1 := of_decide_eq_true h.1.2
  have h2 := of_decide_eq_true h.2.1
  have hc := ck_get (A := tm t 2) (B := tm t 3) (C := tm t 5) (E := tm t 7) (by omega)
  rw [h2] at hc
  obtain ⟨c1, c2, c3⟩ := ck_use hc
  exact ⟨c1.1, ⟨Nat.mul_pos (Nat.mul_pos (Nat.mul_pos (Nat.succ_pos _) (Nat.succ_pos _)) (Nat.succ_pos _)) (Nat.succ_pos _), c2⟩, c3⟩
theorem wP_0 (t : Nat) : wP t 0 = 1 := by
  unfold wP vP
  rw [Nat.zero_mod, Nat.zero_div, Nat.zero_mod, Nat.zero_div, Nat.zero_mod, Nat.zero_div]
theorem rprd_ok (t : Nat) : DOk (rPrd t) := fun g h1 h7 => by
  by_cases ho : okP t = true
  · obtain ⟨u1, u2, u3⟩ := okP_use ho
    refine ⟨?_, fun σ hs h => ?_⟩
    · show (bif okP t then hP t g else 0) ≤ 128
      rw [ho, cond_true]
      have hst : sP t = (tm t 2 + 1) * (tm t 3 + 1) * (tm t 5 + 1) * (tm t 7 + 1) := rfl
      have q1 : (tm t 2 + 1) * (tm t 3 + 1) * (tm t 5 + 1) ≤ sP t := by rw [hst]; exact Nat.le_mul_of_pos_right _ (Nat.succ_pos _)
      have q2 : (tm t 2 + 1) * (tm t 3 + 1) ≤ (tm t 2 + 1) * (tm t 3 + 1) * (tm t 5 + 1) := Nat.le_mul_of_pos_right _ (Nat.succ_pos _)
      have q3 : tm t 2 + 1 ≤ (tm t 2 + 1) * (tm t 3 + 1) := Nat.le_mul_of_pos_right _ (Nat.succ_pos _)
      unfold hP shP
      by_cases e : g = 6
      · subst e
        rw [if_neg (by omega), if_neg (by omega), if_neg (by omega), if_neg (by omega), if_pos rfl]
        have : tm t 2 < 17 := (pr_bd (A := tm t 2) (B := tm t 3) (C := tm t 5) (E := tm t 7) (by
          unfold okP at ho
          rw [Bool.and_eq_true, Bool.and_eq_true, Bool.and_eq_true] at ho
          have h1 := of_decide_eq_true ho.1.2
          have h2 := of_decide_eq_true ho.2.1
          omega)).1
        omega
      · split
        · omega
        · split
          · omega
          · split
            · omega
            · split
              · omega
              · split
                · omega
                · omega
    · have h : (okP t && (decide (σ < sP t) && decide (t / wP t σ % g = 0))) = true := h
      rw [Bool.and_eq_true, Bool.and_eq_true] at h
      have := ((u3 σ (of_decide_eq_true h.2.1)).2 g h1 h7 (of_decide_eq_true h.2.2)).1
      show σ + (bif okP t then hP t g else 0) < 128
      rw [ho, cond_true]
      omega
  · rw [Bool.not_eq_true] at ho
    refine ⟨?_, fun σ hs h => ?_⟩
    · show (bif okP t then hP t g else 0) ≤ 128
      rw [ho, cond_false]; omega
    · have h : (okP t && (decide (σ < sP t) && decide (t / wP t σ % g = 0))) = true := h
      rw [ho] at h
      cases h
theorem foldl_mul_eq : ∀ (w : List Nat) (a : Nat), ∃ k, w.foldl (fun a x => a * x) a = a * k
  | [], a => ⟨1, (Nat.mul_one a).symm⟩
  | g :: w, a => by
    obtain ⟨k, hk⟩ := foldl_mul_eq w (a * g)
    exact ⟨g * k, by rw [← Nat.mul_assoc]; exact hk⟩
theorem rprd_fw {t : Nat} (ho : okP t = true) : ∀ (w : List Nat) (σ s' : Nat), (∀ x ∈ w, 1 ≤ x ∧ x ≤ 7) → σ < sP t → Rn (rPrd t) w σ s' → wP t s' = w.foldl (fun a x => a * x) (wP t σ)
  | [], σ, s', _, hs, h => by have : s' = σ := h; rw [this]; rfl
  | g :: w, σ, s', hd, hs, h => by
    obtain ⟨s1, h1, h2⟩ := h
    rcases h1 with z | z
    · exact absurd z.1 (by show ¬ false = true; simp)
    · have z1 : (okP t && (decide (σ < sP t) && decide (t / wP t σ % g = 0))) = true := z.1
      have z2 : s1 = σ + (bif okP t then hP t g else 0) := z.2
      rw [Bool.and_eq_true, Bool.and_eq_true] at z1
      rw [ho, cond_true] at z2
      have hg := hd g List.mem_cons_self
      obtain ⟨u1, u2⟩ := ((okP_use ho).2.2 σ hs).2 g hg.1 hg.2 (of_decide_eq_true z1.2.2)
      rw [rprd_fw ho w s1 s' (fun x hx => hd x (List.mem_cons_of_mem _ hx)) (by omega) h2, z2, u2]
      rfl
theorem rprd_bw {t : Nat} (ho : okP t = true) : ∀ (w : List Nat) (σ : Nat), (∀ x ∈ w, 1 ≤ x ∧ x ≤ 7) → σ < sP t → w.foldl (fun a x => a * x) (wP t σ) = t → ∃ s', Rn (rPrd t) w σ s' ∧ s' + 1 = sP t
  | [], σ, _, hs, h => ⟨σ, rfl, ((okP_use ho).2.2 σ hs).1.2 h⟩
  | g :: w, σ, hd, hs, h => by
    have hg := hd g List.mem_cons_self
    have h : w.foldl (fun a x => a * x) (wP t σ * g) = t := h
    obtain ⟨k, hk⟩ := foldl_mul_eq w (wP t σ * g)
    have hp := ((okP_use ho).2.2 σ hs).1.1
    have hm : t / wP t σ % g = 0 := by
      have e : t = wP t σ * (g * k) := by rw [← Nat.mul_assoc, ← hk]; exact h.symm
      have e2 : t / wP t σ = g * k := by
        generalize wP t σ = v at e hp
        rw [e]
        exact Nat.mul_div_cancel_left _ hp
      rw [e2]
      exact Nat.mul_mod_right g k
    obtain ⟨u1, u2⟩ := ((okP_use ho).2.2 σ hs).2 g hg.1 hg.2 hm
    obtain ⟨s', v1, v2⟩ := rprd_bw ho w (σ + hP t g) (fun x hx => hd x (List.mem_cons_of_mem _ hx)) u1 (by rw [u2]; exact h)
    refine ⟨s', ⟨σ + hP t g, Or.inr ⟨?_, ?_⟩, v1⟩, v2⟩
    · show (okP t && (decide (σ < sP t) && decide (t / wP t σ % g = 0))) = true
      rw [ho, decide_eq_true hs, decide_eq_true hm]
      rfl
    · show σ + hP t g = σ + (bif okP t then hP t g else 0)
      rw [ho, cond_true]
theorem dig_pr : ∀ g, g < 8 → 1 ≤ g → g = prP (if g = 2 then 1 else if g = 4 then 2 else if g = 6 then 1 else 0) (if g = 3 then 1 else if g = 6 then 1 else 0) (if g = 5 then 1 else 0) (if g = 7 then 1 else 0) := by decide +kernel
theorem pr_mul (a b c e a' b' c' e' : Nat) : prP a b c e * prP a' b' c' e' = prP (a + a') (b + b') (c + c') (e + e') := by
  unfold prP
  rw [Nat.pow_add, Nat.pow_add, Nat.pow_add, Nat.pow_add]
  ac_rfl
theorem foldl_pr : ∀ (w : List Nat) (a b c e : Nat), (∀ x ∈ w, 1 ≤ x ∧ x ≤ 7) → ∃ a' b' c' e', w.foldl (fun a x => a * x) (prP a b c e) = prP a' b' c' e'
  | [], a, b, c, e, _ => ⟨a, b, c, e, rfl⟩
  | g :: w, a, b, c, e, hd => by
    have hg := hd g List.mem_cons_self
    show ∃ a' b' c' e', w.foldl (fun a x => a * x) (prP a b c e * g) = prP a' b' c' e'
    rw [dig_pr g (by omega) hg.1, pr_mul]
    exact foldl_pr w _ _ _ _ fun x hx => hd x (List.mem_cons_of_mem _ hx)
theorem prd_ok {w : List Nat} (hd : ∀ x ∈ w, 1 ≤ x ∧ x ≤ 7) (h6 : w.length ≤ 6) : okP (tPrd w) = true := by
  have hle := tPrd_le w 1 1 (fun x hx => (hd x hx).2) (Nat.le_refl 1)
  have h7 : 7 ^ w.length ≤ 7 ^ 6 := Nat.pow_le_pow_right (by omega) h6
  have h117 : tPrd w ≤ 117649 := by
    unfold tPrd
    have : (7 : Nat) ^ 6 = 117649 := by decide
    omega
  obtain ⟨a, b, c, e, h⟩ := foldl_pr w 0 0 0 0 hd
  have h : tPrd w = prP a b c e := h
  have hc := ck_get (A := a) (B := b) (C := c) (E := e) (by omega)
  rw [← h] at hc
  obtain ⟨c1, c2, c3⟩ := ck_use hc
  have hpos : 1 ≤ tPrd w := by
    rw [h]
    exact Nat.mul_pos (Nat.mul_pos (Nat.mul_pos (Nat.pow_pos (by omega)) (Nat.pow_pos (by omega))) (Nat.pow_pos (by omega))) (Nat.pow_pos (by omega))
  unfold okP
  rw [c1.2.1.1, c1.2.1.2, c1.2.2.1, c1.2.2.2, decide_eq_true hpos, decide_eq_true h117, decide_eq_true h.symm, decide_eq_true c1.1]
  rfl
theorem rprd_acc {t : Nat} {w : List Nat} (hd : ∀ x ∈ w, 1 ≤ x ∧ x ≤ 7) (h6 : w.length ≤ 6) : acc (rPrd t) w ↔ tPrd w = t := by
  unfold acc
  constructor
  · rintro ⟨s', h1, h2⟩
    have h2 : (okP t && decide (s' + 1 = sP t)) = true := h2
    rw [Bool.and_eq_true] at h2
    have h3 := of_decide_eq_true h2.2
    have u := okP_use h2.1
    have := rprd_fw h2.1 w 0 s' hd (by omega) h1
    rw [wP_0, show s' = sP t - 1 by omega, u.2.1.2] at this
    exact this.symm
  · intro h
    have ho := prd_ok hd h6
    rw [h] at ho
    have u := okP_use ho
    obtain ⟨s', v1, v2⟩ := rprd_bw ho w 0 hd (by omega) (by rw [wP_0]; exact h)
    refine ⟨s', v1, ?_⟩
    show (okP t && decide (s' + 1 = sP t)) = true
    rw [ho, decide_eq_true v2]
    rfl
/-- the rule by its four numbers -/
def ofS (s : Nat) (al : Bool) : Bool := !al || (decide (s = 2) || decide (s = 3))
def rl (s : Nat) (al : Bool) (t z : Nat) : DF := bif ofS s al then rSet s al t z else bif decide (s = 0) then rSum t else rPrd t
theorem rl_ok (s : Nat) (al : Bool) (t z : Nat) : DOk (rl s al t z) := by
  unfold rl
  cases ofS s al with
  | true => exact rset_ok s al t z
  | false =>
    cases decide (s = 0) with
    | true => exact rsum_ok t
    | false => exact rprd_ok t
theorem rl_acc {s : Nat} {al : Bool} {t z : Nat} {w : List Nat} (h3 : s ≤ 3) (hd : ∀ x ∈ w, 1 ≤ x ∧ x ≤ 7) (hz : w.length = z) (h0 : 1 ≤ z) (h6 : z ≤ 6) : acc (rl s al t z) w ↔ (al = false → w.Nodup) ∧ (decide (s = 3) || decide (tot s w = t)) = true := by
  unfold rl
  cases ho : ofS s al with
  | true =>
    rw [cond_true]
    refine rset_acc hd hz h0 fun ha => ?_
    unfold ofS at ho
    rw [ha, Bool.not_true, Bool.false_or, Bool.or_eq_true] at ho
    rcases ho with z | z
    · exact Or.inl (of_decide_eq_true z)
    · exact Or.inr (of_decide_eq_true z)
  | false =>
    unfold ofS at ho
    rw [Bool.or_eq_false_iff, Bool.or_eq_false_iff] at ho
    have ha : al = true := by cases al with | true => rfl | false => cases ho.1
    have n2 := of_decide_eq_false ho.2.1
    have n3 := of_decide_eq_false ho.2.2
    rw [cond_false, ha, decide_eq_false n3, Bool.false_or, decide_eq_true_eq]
    have hdr : ∀ p : Prop, p ↔ (true = false → w.Nodup) ∧ p := fun p => ⟨fun h => ⟨(fun z => by cases z), h⟩, fun h => h.2⟩
    rw [← hdr]
    unfold tot
    by_cases c0 : s = 0
    · rw [decide_eq_true c0, cond_true, if_pos c0]
      exact rsum_acc hd (by omega)
    · rw [decide_eq_false c0, cond_false, if_neg c0, if_pos (show s = 1 by omega)]
      exact rprd_acc hd (by omega)
def cgD (b : Nat → Nat) (k : Nat) : DF := rl (b (148 + 10 * k)) (!cgU b k) (b (149 + 10 * k)) (cgN b k)
theorem cgD_cg {b : Nat → Nat} (hW : Wf b) {k : Nat} (hk : k < b 3) : DCg (cgD b k) b k := fun w hl hd => by
  have hg := hW.2.2.2.2.2 k hk
  unfold cgD
  rw [rl_acc hg.1.1 hd hl hg.2.1.1 hg.2.1.2]
  unfold rgt
  constructor
  · rintro ⟨h1, h2⟩
    exact ⟨fun hu => h1 (by rw [hu]; rfl), h2⟩
  · rintro ⟨h1, h2⟩
    exact ⟨fun hu => h1 (by cases hc : cgU b k with | true => rfl | false => rw [hc] at hu; cases hu), h2⟩
theorem cgD_ok (b : Nat → Nat) (k : Nat) : DOk (cgD b k) := rl_ok _ _ _ _
