/-! THE MODEL, 33: solutions are unlike; digits found are digits -/
/-- a solution of these marks, from a cell on -/
def SolE (b : Nat → Nat) (c n : Nat) (r : Nat → Nat) : Prop :=
  (∀ k, ¬ (∃ x, (c ≤ x ∧ x < c + n) ∧ isO b x = true ∧ k = 112 + x) → r k = b k) ∧ ∀ x, c ≤ x → x < c + n → isO b x = true → ∃ y, (1 ≤ y ∧ y ≤ b 2) ∧ (b (112 + x)).testBit y = true ∧ r (112 + x) = 2 ^ y
theorem sols_mem : ∀ (n c : Nat) (b r : Nat → Nat), b 0 * b 1 ≤ 36 → c + n ≤ 36 → r ∈ sols n b c → SolE b c n r
  | 0, c, b, r, _, _, h => by
    have e : r = b := List.mem_singleton.mp h
    rw [e]
    exact ⟨fun k _ => rfl, fun x h1 h2 _ => by omega⟩
  | n + 1, c, b, r, hN, hc, h => by
    cases hO : isO b c with
    | false =>
      rw [sols_shut hO] at h
      obtain ⟨g1, g2⟩ := sols_mem n (c + 1) b r hN (by omega) h
      refine ⟨fun k hk => g1 k fun z => hk ?_, fun x h1 h2 h3 => ?_⟩
      · obtain ⟨x, z1, z2, z3⟩ := z
        exact ⟨x, by omega, z2, z3⟩
      · by_cases e : x = c
        · rw [e, hO] at h3; cases h3
        · exact g2 x (by omega) (by omega) h3
    | true =>
      rw [sols_open hO] at h
      obtain ⟨y, hy, hr⟩ := List.mem_flatMap.mp h
      rw [List.mem_range'_1] at hy
      unfold solG at hr
      by_cases hg : ((b (112 + c)).testBit y && okC (setK b c (2 ^ y)) c) = true
      · rw [if_pos hg] at hr
        rw [Bool.and_eq_true] at hg
        have hN' : setK b c (2 ^ y) 0 * setK b c (2 ^ y) 1 ≤ 36 := by rw [setK_ne (by omega), setK_ne (by omega)]; exact hN
        obtain ⟨g1, g2⟩ := sols_mem n (c + 1) (setK b c (2 ^ y)) r hN' (by omega) hr
        rw [setK_isO hN] at g1 g2
        refine ⟨fun k hk => ?_, fun x h1 h2 h3 => ?_⟩
        · rw [g1 k fun z => hk ?_]
          · exact setK_ne fun z => hk ⟨c, by omega, hO, z⟩
          · obtain ⟨x, z1, z2, z3⟩ := z
            exact ⟨x, by omega, z2, z3⟩
        · by_cases e : x = c
          · subst e
            refine ⟨y, by omega, hg.1, ?_⟩
            rw [g1 (112 + x) (fun z => by obtain ⟨x', z1, z2, z3⟩ := z; omega), setK_at]
          · obtain ⟨y', u1, u2, u3⟩ := g2 x (by omega) (by omega) h3
            rw [setK_ne (by omega)] at u1 u2
            exact ⟨y', u1, u2, u3⟩
      · rw [if_neg hg] at hr
        cases hr
/-- unlike somewhere -/
def Unl (b : Nat → Nat) (c n : Nat) (r r' : Nat → Nat) : Prop := ∃ x, (c ≤ x ∧ x < c + n) ∧ isO b x = true ∧ r (112 + x) ≠ r' (112 + x)
theorem sols_pw : ∀ (n c : Nat) (b : Nat → Nat), b 0 * b 1 ≤ 36 → c + n ≤ 36 → (sols n b c).Pairwise (Unl b c n)
  | 0, c, b, _, _ => List.pairwise_singleton _ _
  | n + 1, c, b, hN, hc => by
    cases hO : isO b c with
    | false =>
      rw [sols_shut hO]
      refine (sols_pw n (c + 1) b hN (by omega)).imp fun h => ?_
      obtain ⟨x, z1, z2, z3⟩ := h
      exact ⟨x, by omega, z2, z3⟩
    | true =>
      have hN' : ∀ y, setK b c (2 ^ y) 0 * setK b c (2 ^ y) 1 ≤ 36 := fun y => by rw [setK_ne (by omega), setK_ne (by omega)]; exact hN
      have hat : ∀ y r, r ∈ solG n c b y → r (112 + c) = 2 ^ y := fun y r hr => by
        unfold solG at hr
        by_cases hg : ((b (112 + c)).testBit y && okC (setK b c (2 ^ y)) c) = true
        · rw [if_pos hg] at hr
          obtain ⟨g1, g2⟩ := sols_mem n (c + 1) (setK b c (2 ^ y)) r (hN' y) (by omega) hr
          rw [g1 (112 + c) (fun z => by obtain ⟨x', z1, z2, z3⟩ := z; omega), setK_at]
        · rw [if_neg hg] at hr
          cases hr
      rw [sols_open hO, List.pairwise_flatMap]
      refine ⟨fun y hy => ?_, ?_⟩
      · unfold solG
        by_cases hg : ((b (112 + c)).testBit y && okC (setK b c (2 ^ y)) c) = true
        · rw [if_pos hg]
          refine (sols_pw n (c + 1) (setK b c (2 ^ y)) (hN' y) (by omega)).imp fun h => ?_
          obtain ⟨x, z1, z2, z3⟩ := h
          rw [setK_isO hN] at z2
          exact ⟨x, by omega, z2, z3⟩
        · rw [if_neg hg]
          exact List.Pairwise.nil
      · refine (List.pairwise_lt_range' (s := 1) (n := b 2)).imp fun h r hr r' hr' => ⟨c, by omega, hO, ?_⟩
        rw [hat _ r hr, hat _ r' hr']
        have h9 : 2 ^ _ < 2 ^ _ := Nat.pow_lt_pow_right (show 1 < 2 by omega) h
        omega
theorem lst_pow8 : ∀ y, y < 8 → 1 ≤ y → lst (2 ^ y) = y := by decide
theorem lst_pow (y : Nat) (h1 : 1 ≤ y) (h2 : y ≤ 7) : lst (2 ^ y) = y := lst_pow8 y (by omega) h1
theorem slv_mem {b r : Nat → Nat} (hW : Wf b) (h : r ∈ slv b) : SolE b 0 (b 0 * b 1) r := by
  unfold slv at h
  cases hb : brk b with
  | true => rw [hb] at h; cases h
  | false => rw [hb] at h; exact sols_mem _ _ _ _ hW.n36 (by have := hW.n36; omega) h
theorem slv_pw {b : Nat → Nat} (hW : Wf b) : (slv b).Pairwise (Unl b 0 (b 0 * b 1)) := by
  unfold slv
  cases hb : brk b with
  | true => exact List.Pairwise.nil
  | false => exact sols_pw _ _ _ hW.n36 (by have := hW.n36; omega)
theorem solE_dgt {b r : Nat → Nat} {n : Nat} (hW : Wf b) (h : SolE b 0 n r) {x : Nat} (hx : x < n) (hO : isO b x = true) : (1 ≤ dgt r x ∧ dgt r x ≤ b 2) ∧ (b (112 + x)).testBit (dgt r x) = true ∧ r (112 + x) = 2 ^ dgt r x := by
  have h27 := hW.1.2.2.1
  obtain ⟨y, u1, u2, u3⟩ := h.2 x (by omega) (by omega) hO
  have hp := Nat.one_le_two_pow (n := y)
  have e : dgt r x = y := by
    unfold dgt
    rw [u3, if_neg (by omega), lst_pow y u1.1 (by omega)]
  rw [e]
  exact ⟨u1, u2, u3⟩
/-- the first cell in which the first two solutions are unlike -/
def unl (b : Nat → Nat) : Option Nat := (List.range (b 0 * b 1)).find? fun c => decide (dgt ((slv b).getD 0 fun _ => 0) c ≠ dgt ((slv b).getD 1 fun _ => 0) c)
theorem unl_some {b : Nat → Nat} (hW : Wf b) (hD : WfD b) (h : 2 ≤ (slv b).length) : ∃ c, unl b = some c ∧ c < b 0 * b 1 ∧ isO b c = true ∧ b (76 + c) ≠ 1 := by
  have h36 := hW.n36
  have g0 : (slv b).getD 0 (fun _ => 0) = (slv b)[0] := getD_el (by omega)
  have g1 : (slv b).getD 1 (fun _ => 0) = (slv b)[1] := getD_el (by omega)
  have m0 := slv_mem hW (List.getElem_mem (show 0 < (slv b).length by omega))
  have m1 := slv_mem hW (List.getElem_mem (show 1 < (slv b).length by omega))
  have hp := List.pairwise_iff_getElem.mp (slv_pw hW) 0 1 (by omega) (by omega) (by omega)
  obtain ⟨x, z1, z2, z3⟩ := hp
  have d0 := solE_dgt hW m0 (x := x) (by omega) z2
  have d1 := solE_dgt hW m1 (x := x) (by omega) z2
  have hne : dgt (slv b)[0] x ≠ dgt (slv b)[1] x := fun e => z3 (by rw [d0.2.2, d1.2.2, e])
  have hs : (unl b).isSome = true := by
    unfold unl
    rw [List.find?_isSome]
    exact ⟨x, List.mem_range.mpr (by omega), by rw [g0, g1]; exact decide_eq_true hne⟩
  obtain ⟨c, hc⟩ := Option.isSome_iff_exists.mp hs
  have hc1 := List.mem_range.mp (List.mem_of_find?_eq_some hc)
  have hc' := hc
  unfold unl at hc'
  have hc3 := List.find?_some hc'
  have hc2 := of_decide_eq_true hc3
  rw [g0, g1] at hc2
  have hO : isO b c = true := by
    cases e : isO b c with
    | true => rfl
    | false =>
      exfalso
      apply hc2
      have u0 := m0.1 (112 + c) (fun z => by obtain ⟨x', k1, k2, k3⟩ := z; rw [show x' = c by omega, e] at k2; cases k2)
      have u1 := m1.1 (112 + c) (fun z => by obtain ⟨x', k1, k2, k3⟩ := z; rw [show x' = c by omega, e] at k2; cases k2)
      unfold dgt
      rw [u0, u1]
  refine ⟨c, hc, hc1, hO, fun e => ?_⟩
  have k := hD c (by omega)
  have k1 := k.1 e
  have k2 := k.2 k1
  have e0 := solE_dgt hW m0 hc1 hO
  have e1 := solE_dgt hW m1 hc1 hO
  apply hc2
  have f0 := e0.2.1
  have f1 := e1.2.1
  rw [k2, Nat.testBit_two_pow] at f0 f1
  rw [← of_decide_eq_true f0, ← of_decide_eq_true f1]
/-- the open cells' places -/
theorem opL_nodup (b : Nat → Nat) : (opL b).Nodup := List.nodup_range.filter _
theorem opA_inj {b : Nat → Nat} {p q : Nat} (hp : p < openN b) (hq : q < openN b) (h : opA b p = opA b q) : p = q := by
  unfold opA at h
  have hp1 : p < (opL b).length := hp
  have hq1 : q < (opL b).length := hq
  rw [getD_el hp1, getD_el hq1] at h
  exact (List.getElem_inj (opL_nodup b)).mp h
theorem opA_ex {b : Nat → Nat} {c : Nat} (hc : c < 36) (h : isO b c = true) : ∃ p, p < openN b ∧ opA b p = c := by
  have hm : c ∈ opL b := List.mem_filter.mpr ⟨List.mem_range.mpr hc, h⟩
  obtain ⟨p, hp, e⟩ := List.mem_iff_getElem.mp hm
  refine ⟨p, hp, ?_⟩
  unfold opA
  rw [getD_el hp]
  exact e
theorem fdG_ok {b : Nat → Nat} (h2 : 0 < b 2) : ∀ (f : Nat) (x : Int32) (dr p : Nat) (co : Bool) (be tr mk g : Nat → Nat), p ≤ openN b → (∀ q, q < p → 1 ≤ mk (opA b q) ∧ mk (opA b q) ≤ b 2) → fdG b f x dr p co be tr mk = some g → ∀ q, q < openN b → 1 ≤ g (opA b q) ∧ g (opA b q) ≤ b 2 := by
  have fin : ∀ (p : Nat) (mk g : Nat → Nat), openN b ≤ p → (∀ q, q < p → 1 ≤ mk (opA b q) ∧ mk (opA b q) ≤ b 2) → some mk = some g → ∀ q, q < openN b → 1 ≤ g (opA b q) ∧ g (opA b q) ≤ b 2 := fun p mk g hp hm e q hq => by
    cases e
    exact hm q (by omega)
  intro f
  induction f with
  | zero =>
    intro x dr p co be tr mk g hp hm e
    by_cases hpe : openN b ≤ p
    · exact fin p mk g hpe hm ((if_pos hpe).symm.trans e)
    · cases (if_neg hpe).symm.trans e
  | succ f ih =>
    have hH : ∀ (x : Int32) (dr p : Nat) (be tr mk g : Nat → Nat), p < openN b → (∀ q, q < p → 1 ≤ mk (opA b q) ∧ mk (opA b q) ≤ b 2) → fdH b (fdG b f) x dr p be tr mk = some g → ∀ q, q < openN b → 1 ≤ g (opA b q) ∧ g (opA b q) ≤ b 2 := by
      intro x dr p be tr mk g hp hm e
      unfold fdH at e
      have hup : ∀ q v w, q < openN b → q ≠ p → upN (upN mk (opA b p) v) (opA b p) w (opA b q) = mk (opA b q) := fun q v w hq hne => by
        have : opA b q ≠ opA b p := fun z => hne (opA_inj hq hp z)
        rw [upN_ne this, upN_ne this]
      cases hn : nxt b (upN mk (opA b p) 0) (opA b p) (be p) (tr p) with
      | some t =>
        rw [hn] at e
        have hmod : (be p + t) % b 2 < b 2 := Nat.mod_lt _ h2
        refine ih _ _ _ _ _ _ _ _ (by omega) (fun q hq => ?_) e
        by_cases eq : q = p
        · rw [eq, upN_at]; omega
        · rw [hup q _ _ (by omega) eq]; exact hm q (by omega)
      | none =>
        rw [hn] at e
        by_cases h0 : p = 0
        · cases (if_pos h0).symm.trans e
        · have e' := (if_neg h0).symm.trans e
          refine ih _ _ _ _ _ _ _ _ (by omega) (fun q hq => ?_) e'
          have : opA b q ≠ opA b p := fun z => by have := opA_inj (show q < openN b by omega) hp z; omega
          rw [upN_ne this]
          exact hm q (by omega)
    intro x dr p co be tr mk g hp hm e
    by_cases hpe : openN b ≤ p
    · exact fin p mk g hpe hm ((if_pos hpe).symm.trans e)
    · have e1 := (if_neg hpe).symm.trans e
      by_cases hco : co = false
      · exact hH _ _ _ _ _ _ _ (by omega) hm ((if_pos hco).symm.trans e1)
      · have e2 := (if_neg hco).symm.trans e1
        by_cases hd : dr = 2000
        · cases (if_pos hd).symm.trans e2
        · exact hH _ _ _ _ _ _ _ (by omega) hm ((if_neg hd).symm.trans e2)
theorem fdD_ok {b g : Nat → Nat} {x : Int32} (h2 : 0 < b 2) (h : fdD b x = some g) {c : Nat} (hc : c < 36) (hO : isO b c = true) : 1 ≤ g c ∧ g c ≤ b 2 := by
  obtain ⟨p, hp, rfl⟩ := opA_ex hc hO
  exact fdG_ok h2 18000 x 0 0 true _ _ _ g (Nat.zero_le _) (fun q hq => absurd hq (Nat.not_lt_zero q)) h p hp
