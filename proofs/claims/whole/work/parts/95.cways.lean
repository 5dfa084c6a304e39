/-! THE CLASS, 32: ways read; rules made ready -/
theorem kset_bit : ∀ (w : List Nat) (σ x : Nat), (∀ x ∈ w, 1 ≤ x ∧ x ≤ 7) → σ < 128 → 1 ≤ x → x ≤ 7 → (kSet σ w).testBit (x - 1) = (σ.testBit (x - 1) || w.contains x)
  | [], σ, x, _, _, _, _ => by
    show σ.testBit (x - 1) = (σ.testBit (x - 1) || false)
    rw [Bool.or_false]
  | g :: w, σ, x, hd, hs, h1, h7 => by
    have hg := hd g List.mem_cons_self
    have ih := kset_bit w (kIn σ g) x (fun x hx => hd x (List.mem_cons_of_mem _ hx)) (k_in1 σ hs g (by omega) hg.1).1 h1 h7
    show (kSet (kIn σ g) w).testBit (x - 1) = _
    rw [ih, k_bit σ hs g (by omega) hg.1 x (by omega) h1, List.contains_cons, Bool.or_comm (decide (x = g)), Bool.or_assoc]
    rfl
theorem dbl_bit (s x : Nat) : (2 * s).testBit x = (decide (1 ≤ x) && s.testBit (x - 1)) := by
  cases x with
  | zero =>
    rw [Nat.testBit_zero]
    simp
  | succ x =>
    rw [Nat.testBit_succ, Nat.mul_div_cancel_left _ (by omega), Nat.add_sub_cancel, decide_eq_true (by omega), Bool.true_and]
theorem contains_no {w : List Nat} (hd : ∀ x ∈ w, 1 ≤ x ∧ x ≤ 7) {x : Nat} (h : x = 0 ∨ 8 ≤ x) : w.contains x = false := by
  cases hc : w.contains x with
  | false => rfl
  | true =>
    have := hd x (List.contains_iff_mem.mp hc)
    omega
theorem kset_has {w : List Nat} (hd : ∀ x ∈ w, 1 ≤ x ∧ x ≤ 7) {x : Nat} (hx : x < 8) : (2 * kSet 0 w).testBit x = w.contains x := by
  rw [dbl_bit]
  by_cases h0 : x = 0
  · rw [h0, contains_no hd (Or.inl rfl)]; rfl
  · rw [kset_bit w 0 x hd (by omega) (by omega) (by omega), Nat.zero_testBit, Bool.false_or, decide_eq_true (by omega), Bool.true_and]
theorem setOf_k {w : List Nat} (hd : ∀ x ∈ w, 1 ≤ x ∧ x ≤ 7) : setOf w = 2 * kSet 0 w := by
  have hl := kset_lt w 0 hd (by omega)
  apply Nat.eq_of_testBit_eq
  intro i
  unfold setOf
  rw [msk_bit]
  by_cases hi : i < 8
  · rw [decide_eq_true hi, Bool.true_and, kset_has hd hi]
  · rw [decide_eq_false hi, Bool.false_and]
    exact (Nat.testBit_lt_two_pow (Nat.lt_of_lt_of_le (show 2 * kSet 0 w < 2 ^ 8 by omega) (Nat.pow_le_pow_right (by omega) (by omega)))).symm
def DgW (W : List (List Nat)) : Prop := ∀ w ∈ W, ∀ x ∈ w, 1 ≤ x ∧ x ≤ 7
theorem kc_sum {p : Nat → Bool} {W : List (List Nat)} (hW : DgW W) : sumF (fun s => if p s = true then kC W s else 0) 128 = W.countP fun w => p (kSet 0 w) := by
  have h := sumF_fib (κ := fun w => some (kSet 0 w)) (φ := fun s => if p s = true then 1 else 0) (W := W) fun w hw s hs => by
    injection hs with hs
    rw [← hs]
    exact kset_lt w 0 (hW w hw) (by omega)
  rw [sumF_congr (g := fun s => W.countP (fun w => some (kSet 0 w) == some s) * if p s = true then 1 else 0) fun s _ => by
    have e : W.countP (fun w => some (kSet 0 w) == some s) = kC W s := by
      unfold kC
      exact List.countP_congr fun w _ => by rw [beq_iff_eq, beq_iff_eq, Option.some_inj]
    rw [e]
    by_cases c : p s = true
    · rw [if_pos c, if_pos c, Nat.mul_one]
    · rw [if_neg c, if_neg c, Nat.mul_zero], h]
  clear h hW
  induction W with
  | nil => rfl
  | cons w W ih =>
    rw [List.foldr_cons, ih, List.countP_cons, Nat.add_comm]
theorem kc_len {W : List (List Nat)} (hW : DgW W) : sumF (kC W) 128 = W.length := by
  have h := kc_sum (p := fun _ => true) hW
  rw [List.countP_true] at h
  exact (sumF_congr fun s _ => by rw [if_pos rfl]).trans h
theorem kc_has {W : List (List Nat)} (hW : DgW W) {x : Nat} (hx : x < 8) : sumF (fun s => if (2 * s).testBit x = true then kC W s else 0) 128 = hasD W x := by
  rw [kc_sum (p := fun s => (2 * s).testBit x) hW]
  unfold hasD
  by_cases h0 : x = 0
  · rw [if_pos h0, List.countP_eq_zero]
    intro w hw h
    rw [kset_has (hW w hw) hx, h0, contains_no (hW w hw) (Or.inl rfl)] at h
    cases h
  · rw [if_neg h0]
    exact List.countP_congr fun w hw => by rw [kset_has (hW w hw) hx]
theorem inA_none {c : Nat → Nat} : ∀ {i : Nat}, inA c i = none ↔ ∀ s, s < i → c s = 0
  | 0 => ⟨fun _ s hs => absurd hs (Nat.not_lt_zero s), fun _ => rfl⟩
  | i + 1 => by
    unfold inA
    by_cases h0 : 0 < c i
    · rw [if_pos h0]
      constructor
      · intro h
        cases hA : inA c i <;> rw [hA] at h <;> cases h
      · intro h
        have := h i (by omega)
        omega
    · rw [if_neg h0, inA_none]
      constructor
      · intro h s hs
        by_cases e : s = i
        · rw [e]; omega
        · exact h s (by omega)
      · intro h s hs
        exact h s (by omega)
theorem inA_some {c : Nat → Nat} : ∀ {i m : Nat}, inA c i = some m → ∀ x, m.testBit x = true ↔ (∃ s, s < i ∧ 0 < c s) ∧ ∀ s, s < i → 0 < c s → (2 * s).testBit x = true
  | 0, m, h, _ => by cases h
  | i + 1, m, h, x => by
    unfold inA at h
    by_cases h0 : 0 < c i
    · rw [if_pos h0] at h
      cases hA : inA c i with
      | none =>
        rw [hA] at h
        injection h with h
        rw [← h]
        have hn := inA_none.mp hA
        constructor
        · intro hx
          refine ⟨⟨i, by omega, h0⟩, fun s hs h1 => ?_⟩
          by_cases e : s = i
          · rw [e]; exact hx
          · have := hn s (by omega); omega
        · rintro ⟨-, h2⟩
          exact h2 i (by omega) h0
      | some m1 =>
        rw [hA] at h
        injection h with h
        rw [← h, Nat.testBit_and, Bool.and_eq_true, inA_some hA x]
        constructor
        · rintro ⟨⟨⟨s0, h1, h2⟩, h3⟩, h4⟩
          refine ⟨⟨s0, by omega, h2⟩, fun s hs h5 => ?_⟩
          by_cases e : s = i
          · rw [e]; exact h4
          · exact h3 s (by omega) h5
        · rintro ⟨-, h2⟩
          have hne : ∃ s, s < i ∧ 0 < c s := by
            by_cases hh : ∃ s, s < i ∧ 0 < c s
            · exact hh
            · have : inA c i = none := inA_none.mpr fun s hs => by
                by_cases e : 0 < c s
                · exact absurd ⟨s, hs, e⟩ hh
                · omega
              rw [this] at hA; cases hA
          exact ⟨⟨hne, fun s hs h5 => h2 s (by omega) h5⟩, h2 i (by omega) h0⟩
    · rw [if_neg h0] at h
      rw [inA_some h x]
      constructor
      · rintro ⟨⟨s0, h1, h2⟩, h3⟩
        refine ⟨⟨s0, by omega, h2⟩, fun s hs h5 => ?_⟩
        by_cases e : s = i
        · rw [e] at h5; exact absurd h5 h0
        · exact h3 s (by omega) h5
      · rintro ⟨⟨s0, h1, h2⟩, h3⟩
        refine ⟨⟨s0, ?_, h2⟩, fun s hs h5 => h3 s (by omega) h5⟩
        by_cases e : s0 = i
        · rw [e] at h2; exact absurd h2 h0
        · omega
theorem kc_pos {W : List (List Nat)} {s : Nat} : 0 < kC W s ↔ ∃ w, w ∈ W ∧ kSet 0 w = s := by
  unfold kC
  rw [List.countP_pos_iff]
  constructor
  · rintro ⟨w, h1, h2⟩; exact ⟨w, h1, beq_iff_eq.mp h2⟩
  · rintro ⟨w, h1, h2⟩; exact ⟨w, h1, beq_iff_eq.mpr h2⟩
theorem kc_must {b : Nat → Nat} (hb : b 2 ≤ 7) {W : List (List Nat)} (hW : ∀ w ∈ W, ∀ x ∈ w, 1 ≤ x ∧ x ≤ b 2) : (inA (kC W) 128).getD 0 = mustD b W := by
  have hD : DgW W := fun w hw x hx => by have := hW w hw x hx; omega
  cases hA : inA (kC W) 128 with
  | none =>
    have hn := inA_none.mp hA
    cases W with
    | nil => rfl
    | cons w W =>
      have := hn (kSet 0 w) (kset_lt w 0 (hD w List.mem_cons_self) (by omega))
      have h2 : 0 < kC (w :: W) (kSet 0 w) := kc_pos.mpr ⟨w, List.mem_cons_self, rfl⟩
      omega
  | some m =>
    show m = _
    apply Nat.eq_of_testBit_eq
    intro x
    rw [Bool.eq_iff_iff, inA_some hA x]
    unfold mustD
    cases W with
    | nil =>
      constructor
      · rintro ⟨⟨s, _, h⟩, -⟩
        obtain ⟨w, hw, _⟩ := kc_pos.mp h
        cases hw
      · intro h
        rw [show (bif ([] : List (List Nat)).isEmpty then 0 else msk 8 fun x => (allM b).testBit x && ([] : List (List Nat)).all fun w => w.contains x) = 0 from rfl, Nat.zero_testBit] at h
        cases h
    | cons w0 W =>
      rw [show (w0 :: W).isEmpty = false from rfl, cond_false, msk_bit, Bool.and_eq_true, Bool.and_eq_true, List.all_eq_true]
      constructor
      · rintro ⟨-, h⟩
        have hx8 : x < 8 := by
          by_cases c : x < 8
          · exact c
          · have h0 := h (kSet 0 w0) (kset_lt w0 0 (hD w0 List.mem_cons_self) (by omega)) (kc_pos.mpr ⟨w0, List.mem_cons_self, rfl⟩)
            have hl := kset_lt w0 0 (hD w0 List.mem_cons_self) (by omega)
            rw [Nat.testBit_lt_two_pow (Nat.lt_of_lt_of_le (show 2 * kSet 0 w0 < 2 ^ 8 by omega) (Nat.pow_le_pow_right (by omega) (by omega)))] at h0
            cases h0
        have hall : ∀ w, w ∈ w0 :: W → w.contains x = true := fun w hw => by
          rw [← kset_has (hD w hw) hx8]
          exact h (kSet 0 w) (kset_lt w 0 (hD w hw) (by omega)) (kc_pos.mpr ⟨w, hw, rfl⟩)
        refine ⟨decide_eq_true hx8, ?_, hall⟩
        have := hW w0 List.mem_cons_self x (List.contains_iff_mem.mp (hall w0 List.mem_cons_self))
        have ha : allM b = 2 * (2 ^ b 2 - 1) := by
          unfold allM
          have := Nat.one_le_two_pow (n := b 2)
          rw [Nat.pow_succ]
          omega
        rw [ha, dbl_bit, Nat.testBit_two_pow_sub_one, decide_eq_true (by omega), decide_eq_true (by omega)]
        rfl
      · rintro ⟨h1, -, h3⟩
        have hx8 := of_decide_eq_true h1
        refine ⟨⟨kSet 0 w0, kset_lt w0 0 (hD w0 List.mem_cons_self) (by omega), kc_pos.mpr ⟨w0, List.mem_cons_self, rfl⟩⟩, fun s hs h => ?_⟩
        obtain ⟨w, hw, rfl⟩ := kc_pos.mp h
        rw [kset_has (hD w hw) hx8]
        exact h3 w hw
theorem even_filter {p : Nat → Bool} (hp : ∀ s, p (2 * s + 1) = false) : ∀ n, (List.range (2 * n)).filter p = ((List.range n).filter fun s => p (2 * s)).map (2 * ·)
  | 0 => rfl
  | n + 1 => by
    rw [show 2 * (n + 1) = 2 * n + 1 + 1 by omega, List.range_succ, List.range_succ, List.range_succ, List.filter_append, List.filter_append, List.filter_append, List.map_append, even_filter hp n, List.filter_cons_of_neg (p := p) (a := 2 * n + 1) (by rw [hp]; simp), List.filter_nil, List.append_nil]
    congr 1
    by_cases c : p (2 * n) = true
    · rw [List.filter_cons_of_pos (p := p) c, List.filter_cons_of_pos (p := fun s => p (2 * s)) c]; rfl
    · rw [List.filter_cons_of_neg (p := p) c, List.filter_cons_of_neg (p := fun s => p (2 * s)) c]; rfl
theorem kc_sets2 {W : List (List Nat)} (hW : DgW W) : setsL W = ((List.range 128).filter fun s => decide (0 < kC W s)).map (2 * ·) := by
  unfold setsL
  rw [show (256 : Nat) = 2 * 128 from rfl, even_filter]
  · congr 1
    refine List.filter_congr fun s _ => ?_
    rw [Bool.eq_iff_iff, decide_eq_true_eq, kc_pos, List.any_eq_true]
    constructor
    · rintro ⟨w, h1, h2⟩
      have h2 := beq_iff_eq.mp h2
      rw [setOf_k (hW w h1)] at h2
      exact ⟨w, h1, by omega⟩
    · rintro ⟨w, h1, h2⟩
      exact ⟨w, h1, beq_iff_eq.mpr (by rw [setOf_k (hW w h1), h2])⟩
  · intro s
    rw [List.any_eq_false]
    intro w hw h
    have h := beq_iff_eq.mp h
    rw [setOf_k (hW w hw)] at h
    omega
theorem ways_dig {b : Nat → Nat} (hW : Wf b) {k : Nat} (hk : k < b 3) : DgW (ways b k) := fun w hw => wo_dig ((ways_iff hW hk w).mp hw).1.2
theorem ways_top {b : Nat → Nat} (hW : Wf b) {k : Nat} (hk : k < b 3) : ∀ w ∈ ways b k, ∀ x ∈ w, 1 ≤ x ∧ x ≤ b 2 := fun w hw x hx => by
  have h := ((ways_iff hW hk w).mp hw).1
  have hd := wo_dig h.2 x hx
  obtain ⟨i, hi, e⟩ := List.mem_iff_getElem.mp hx
  have := ((wo_get w 0).mp h.2 i hi).2
  rw [getD_el hi, e, Nat.zero_add] at this
  have hm := (hW.2.2.2.1 _ (cgC_lt hW hk (show i < cgN b k by omega))).2.1.2.1
  have h9 : 2 ^ x ≤ cgMs b k i := Nat.ge_two_pow_of_testBit this
  have h10 : cgMs b k i < 2 ^ (b 2 + 1) := hm
  have := (Nat.pow_lt_pow_iff_right (show 1 < 2 by omega)).mp (Nat.lt_of_le_of_lt h9 h10)
  omega
theorem kc_lt {b : Nat → Nat} (hW : Wf b) {k : Nat} (hk : k < b 3) (s : Nat) : kC (ways b k) s < 2147483648 := by
  have h1 := List.countP_le_length (p := fun w => kSet 0 w == s) (l := ways b k)
  have h2 : (ways b k).length ≤ (wds (cgM b k)).length := by rw [ways_wds hW hk]; exact List.length_filter_le _ _
  have h3 := wds_len (cgM b k)
  rw [cgM_eq, List.length_map, List.length_range] at h3
  rw [cgM_eq] at h2
  have h4 : 7 ^ cgN b k ≤ 7 ^ 6 := Nat.pow_le_pow_right (by omega) (cgN_le hW hk)
  have h5 : (7 : Nat) ^ 6 = 117649 := by decide
  unfold kC
  omega
/-! rules at hand -/
def RSI (r : Nat) (M : ZM) : Prop := (∀ k, k < 12 → RCI (r + 12 + 10 * k) M) ∧ RCI (r + 2) M
def RSK (r : Nat) : Prop := (zkd r = (14, 0) ∧ zkd (r + 2) = (13, 0)) ∧ ∀ k, k < 12 → zkd (r + 12 + 10 * k) = (13, 0)
theorem rsk_C : RSK 127 := by unfold RSK; decide +kernel
theorem rsk_L : RSK 263 := by unfold RSK; decide +kernel
theorem rsk_S : RSK 412 := by unfold RSK; decide +kernel
/-- the rule of that cage of that row -/
def RCk (b : Nat → Nat) (k q : Nat) (M : ZM) : Prop := RC (b (148 + 10 * k)) (!cgU b k) (b (149 + 10 * k)) (cgN b k) q M
section QR
variable {d : Nat} {M : ZM} {b : Nat → Nat} {r q : Nat}
theorem RSI.at {k : Nat} (h : RSI r M) {M' : ZM} (hk : k < 12) (hf : fr (pRu (r + 12 + 10 * k)) (pRu (r + 12 + 10 * k)) M M') (hI : RCI (r + 12 + 10 * k) M') : RSI r M' := by
  refine ⟨fun k' hk' => ?_, h.2.fr hf (fun a x h1 h2 h3 => by unfold pRu; omega) fun a x h1 h2 h3 => by unfold pRu; omega⟩
  by_cases e : k' = k
  · rw [e]; exact hI
  · exact (h.1 k' hk').fr hf (fun a x h1 h2 h3 => by unfold pRu; omega) fun a x h1 h2 h3 => by unfold pRu; omega
theorem RC.ci {s t z : Nat} {al : Bool} (h : RC s al t z q M) (hs : s ≤ 3) (ht : t ≤ 999999) : RCI q M := Or.inr ⟨s, al, t, z, ⟨hs, ht⟩, h.2.1.2, h⟩
theorem q_ready (hr : RSK r) (hq : zkd q = (10, 0)) (hB : BRep b q M) (hW : Wf b) {k : Nat} (hk : k < b 3) (hI : RSI r M) : ∃ M', zEv (d + 4) zmRS_ready [.ref r, .ref q, .int (nI k)] M = some (some (.ref (r + 12 + 10 * k)), M') ∧ RCk b k (r + 12 + 10 * k) M' ∧ RSI r M' ∧ fr (pRu (r + 12 + 10 * k)) (pRu (r + 12 + 10 * k)) M M' := by
  have h12 := cg_12 hW hk
  have hg := hW.2.2.2.2.2 k hk
  obtain ⟨M', a1, a2, a3⟩ := q_fit (d := d) (hr.2 k h12) hg.1.1 hg.1.2.1 hg.2.1.2 (hI.1 k h12) (al := !cgU b k)
  refine ⟨M', e_RS_ready (d := d + 3) hr.1.1 hq ?_, a2, hI.at h12 a3 (a2.ci hg.1.1 hg.1.2.1), a3⟩
  rw [if_neg (by rw [n_lt (by omega) (by omega)]; omega), if_pos ((n_lt (by omega) (by omega)).mpr h12), if_pos ((n_zin (by omega)).mpr h12), q_isAlike (d := d + 2) hq hB.sc hW.wk hk, zC1_some, n_clamp (by omega), (hB.2.2.2 k hk).1.1.1, (hB.2.2.2 k hk).1.1.2, (hB.2.2.2 k hk).1.2.1, a1, zC0_some]
theorem q_spare (hr : RSK r) (hq : zkd q = (10, 0)) (hB : BRep b q M) (hW : Wf b) {k : Nat} (hk : k < b 3) (hI : RSI r M) : ∃ M', zEv (d + 4) zmRS_spare [.ref r, .ref q, .int (nI k)] M = some (some (.ref (r + 2)), M') ∧ RC 3 (!cgU b k) 0 (cgN b k) (r + 2) M' ∧ RSI r M' ∧ fr (pRu (r + 2)) (pRu (r + 2)) M M' := by
  have h12 := cg_12 hW hk
  have hg := hW.2.2.2.2.2 k hk
  obtain ⟨M', a1, a2, a3⟩ := q_fit (d := d) hr.1.2 (show 3 ≤ 3 by omega) (show 0 ≤ 999999 by omega) hg.2.1.2 hI.2 (al := !cgU b k)
  refine ⟨M', e_RS_spare (d := d + 3) hr.1.1 hq ?_, a2, ⟨fun k' hk' => (hI.1 k' hk').fr a3 (fun a x h1 h2 h3 => by unfold pRu; omega) fun a x h1 h2 h3 => by unfold pRu; omega, a2.ci (by omega) (by omega)⟩, a3⟩
  rw [if_neg (by rw [n_lt (by omega) (by omega)]; omega), if_pos ((n_lt (by omega) (by omega)).mpr h12), q_isAlike (d := d + 2) hq hB.sc hW.wk hk, zC1_some, if_pos ((n_zin (by omega)).mpr h12), n_clamp (by omega), (hB.2.2.2 k hk).1.2.1, a1, zC0_some]
end QR
