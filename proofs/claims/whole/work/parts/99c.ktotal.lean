/-! THE CLASS, 53: totals told by the digits, all cleared -/
theorem BRep.tot {b : Nat → Nat} {q : Nat} {M : ZM} (h : BRep b q M) (h12 : b 3 ≤ 12) (hN : b 0 * b 1 ≤ 36) (hc6 : ∀ k, k < b 3 → cgN b k ≤ 6) {k : Nat} (hk : k < b 3) (n : Nat) : BRep (totR b k n) q (zpi M (q + 3) k (nI n)) := by
  have e : ∀ i, i ≠ 149 + 10 * k → totR b k n i = b i := fun i hi => if_neg hi
  have e1 : totR b k n (149 + 10 * k) = n := if_pos rfl
  have eO : isO (totR b k n) = isO b := funext fun x => by
    unfold isO
    rw [e 0 (by omega), e 1 (by omega)]
    by_cases h2 : x < b 0 * b 1
    · rw [e (4 + x) (by omega)]
    · rw [decide_eq_false h2, Bool.false_and, Bool.false_and]
  have eG : gM (totR b k n) = gM b := by unfold gM; exact msk_congr fun x hx => by rw [e (76 + x) (by omega)]
  have eP : pM (totR b k n) = pM b := by unfold pM; exact msk_congr fun x hx => by rw [e (76 + x) (by omega), e (40 + x) (by omega)]
  have eA : aM (totR b k n) = aM b := by
    unfold aM
    rw [e 3 (by omega)]
    exact msk_congr fun k' hk' => by unfold cgU; rw [e (150 + 10 * k') (by omega)]
  have eOM : oM (totR b k n) = oM b := by unfold oM; rw [eO]
  have eN : ∀ k', cgN (totR b k n) k' = cgN b k' := fun k' => e _ (by omega)
  have eC : ∀ k' i, k' < b 3 → i < cgN b k' → cgC (totR b k n) k' i = cgC b k' i := fun k' i hk' hi => by have := hc6 k' hk'; exact e _ (by omega)
  have eI : ∀ k', k' < b 3 → iM (totR b k n) k' = iM b k' := fun k' hk' => by
    unfold iM
    refine msk_congr fun x hx => ?_
    rw [Bool.eq_iff_iff, inC_iff2, inC_iff2, eN k']
    exact ⟨fun ⟨i, h1, h2⟩ => ⟨i, h1, by rw [← eC k' i hk' h1]; exact h2⟩, fun ⟨i, h1, h2⟩ => ⟨i, h1, by rw [eC k' i hk' h1]; exact h2⟩⟩
  have g : ∀ a x, ¬ (a = q + 3 ∧ x = k) → (zpi M (q + 3) k (nI n)).1 a x = M.1 a x := fun a x hx => by rw [m_pi, if_neg hx]
  unfold BRep
  rw [e 0 (by omega), e 1 (by omega), e 2 (by omega), e 3 (by omega), eOM, eG, eP, eA, g q 0 (by omega), g q 1 (by omega), g q 2 (by omega), g q 3 (by omega), g q 7 (by omega)]
  refine ⟨h.1, h.2.1, fun c hc => by rw [e (112 + c) (by omega), g (q + 1) c (by omega)]; exact h.2.2.1 c hc, fun k' hk' => ?_⟩
  rw [e (148 + 10 * k') (by omega), eN k', eI k' hk', g (q + 2) k' (by omega), g (q + 4) k' (by omega)]
  have h' := h.2.2.2 k' hk'
  refine ⟨⟨⟨h'.1.1.1, ?_⟩, h'.1.2⟩, fun i hi => by rw [eC k' i hk' hi, g (q + 7 + k') i (by omega)]; exact h'.2 i hi⟩
  by_cases ek : k' = k
  · rw [ek, e1, m_pi, if_pos ⟨rfl, rfl⟩]
  · rw [e (149 + 10 * k') (by omega), g (q + 3) k' (by omega)]
    exact h'.1.1.2
theorem rstN_O {b : Nat → Nat} (hN : b 0 * b 1 ≤ 36) {c : Nat} (hc : c ≤ 36) : isO (rstN b c) = isO b := funext fun y => by
  unfold isO
  rw [rstN_ne hc (by omega), rstN_ne hc (by omega)]
  by_cases h : y < b 0 * b 1
  · rw [rstN_ne hc (by omega)]
  · rw [decide_eq_false h, Bool.false_and, Bool.false_and]
theorem rstN_at {b : Nat → Nat} (hN : b 0 * b 1 ≤ 36) : ∀ c, c ≤ 36 → ∀ x, x < 36 → rstN b c (40 + x) = (if x < c then 0 else b (40 + x)) ∧ rstN b c (76 + x) = (if x < c then 0 else b (76 + x)) ∧ rstN b c (112 + x) = (if x < c then (if isO b x = true then allM b else 0) else b (112 + x))
  | 0, _, x, _ => ⟨rfl, rfl, rfl⟩
  | c + 1, hc, x, hx => by
    obtain ⟨i1, i2, i3⟩ := rstN_at hN c (by omega) x hx
    have eA : allM (rstN b c) = allM b := by unfold allM; rw [rstN_ne (by omega) (by omega)]
    have s1 : rstN b (c + 1) = rst1 (rstN b c) c := rfl
    rw [s1]
    by_cases e : x = c
    · subst e
      rw [if_pos (by omega), if_pos (by omega), if_pos (by omega)]
      refine ⟨?_, ?_, ?_⟩
      · unfold rst1
        rw [setK_ne (by omega)]
        exact if_pos rfl
      · unfold rst1
        rw [setK_ne (by omega)]
        show (if 76 + x = 40 + x then 0 else if 76 + x = 76 + x then 0 else _) = 0
        rw [if_neg (by omega), if_pos rfl]
      · unfold rst1
        rw [setK_at, rstN_O hN (by omega), eA]
    · rw [rst1_ne (by omega) (by omega) (by omega), rst1_ne (by omega) (by omega) (by omega), rst1_ne (by omega) (by omega) (by omega), i1, i2, i3]
      by_cases e2 : x < c
      · rw [if_pos e2, if_pos e2, if_pos e2, if_pos (show x < c + 1 by omega), if_pos (show x < c + 1 by omega), if_pos (show x < c + 1 by omega)]
        exact ⟨rfl, rfl, rfl⟩
      · rw [if_neg e2, if_neg e2, if_neg e2, if_neg (show ¬ x < c + 1 by omega), if_neg (show ¬ x < c + 1 by omega), if_neg (show ¬ x < c + 1 by omega)]
        exact ⟨rfl, rfl, rfl⟩
/-- the row with nothing done -/
theorem rstN_all {b : Nat → Nat} (hW : Wf b) {x : Nat} (hx : x < 36) : rstN b (b 0 * b 1) (40 + x) = 0 ∧ rstN b (b 0 * b 1) (76 + x) = 0 ∧ rstN b (b 0 * b 1) (112 + x) = if isO b x = true then allM b else 0 := by
  obtain ⟨i1, i2, i3⟩ := rstN_at hW.n36 (b 0 * b 1) hW.n36 x hx
  rw [i1, i2, i3]
  by_cases h : x < b 0 * b 1
  · rw [if_pos h, if_pos h, if_pos h]
    exact ⟨rfl, rfl, rfl⟩
  · have hO : isO b x = false := by unfold isO; rw [decide_eq_false h, Bool.false_and]
    obtain ⟨z1, z2, z3⟩ := (hW.2.2.2.1 x hx).2.2 hO
    rw [if_neg h, if_neg h, if_neg h, if_neg (by rw [hO]; decide)]
    exact ⟨z2, z3, z1⟩
theorem totM_tot {b mk : Nat → Nat} (hc6 : ∀ k, cgN b k ≤ 6 ∨ b 3 ≤ k) : ∀ j, j ≤ b 3 → ∀ k, k < j → totM b mk j (149 + 10 * k) = totV b mk k
  | 0, _, k, hk => absurd hk (Nat.not_lt_zero k)
  | j + 1, hj, k, hk => by
    show totR (totM b mk j) j (totV (totM b mk j) mk j) (149 + 10 * k) = _
    by_cases e : k = j
    · subst e
      have e1 : totR (totM b mk k) k (totV (totM b mk k) mk k) (149 + 10 * k) = totV (totM b mk k) mk k := if_pos rfl
      rw [e1]
      unfold totV
      rw [totM_ne (fun k' _ => by omega), totM_cgN]
      congr 1
      refine List.map_congr_left fun i hi => ?_
      have := List.mem_range.mp hi
      have h6 := hc6 k
      have : cgC (totM b mk k) k i = cgC b k i := totM_ne fun k' _ => by omega
      rw [this]
    · have e1 : totR (totM b mk j) j (totV (totM b mk j) mk j) (149 + 10 * k) = totM b mk j (149 + 10 * k) := if_neg (by omega)
      rw [e1]
      exact totM_tot hc6 j (by omega) k (by omega)
theorem set_or {w : List Nat} {x : Nat} (hd : ∀ y ∈ w, 1 ≤ y ∧ y ≤ 7) (h1 : 1 ≤ x) (h7 : x ≤ 7) : 2 * kSet 0 w ||| 2 ^ x = 2 * kSet 0 (w ++ [x]) := by
  have hd2 : ∀ y ∈ w ++ [x], 1 ≤ y ∧ y ≤ 7 := fun y hy => by
    rcases List.mem_append.mp hy with h | h
    · exact hd y h
    · rw [List.mem_singleton.mp h]; exact ⟨h1, h7⟩
  apply Nat.eq_of_testBit_eq
  intro z
  rw [Nat.testBit_or, Nat.testBit_two_pow]
  by_cases hz : z < 8
  · rw [kset_has hd hz, kset_has hd2 hz, Bool.eq_iff_iff, Bool.or_eq_true, decide_eq_true_iff, List.contains_iff_mem, List.contains_iff_mem, List.mem_append, List.mem_singleton]
    exact ⟨fun h => h.elim Or.inl fun e => Or.inr e.symm, fun h => h.elim Or.inl fun e => Or.inr e.symm⟩
  · have l1 := kset_lt w 0 hd (by omega)
    have l2 := kset_lt (w ++ [x]) 0 hd2 (by omega)
    rw [tb_out (by omega) (by omega), tb_out (by omega) (by omega), decide_eq_false (by omega)]
    rfl
section QK5
variable {d : Nat} {b : Nat → Nat} {q : Nat}
theorem q_tell_40 (hq : zkd q = (10, 0)) (hq2 : q + 18 < 126) (hW : Wf b) {mk : Nat → Nat} {k : Nat} (hk : k < b 3) {M : ZM} (hB : BRep b q M) (h7 : ∀ r, r < openN b → M.1 637 r = nI (mk (opA b r)) ∧ 1 ≤ mk (opA b r) ∧ mk (opA b r) ≤ 7) : ∀ n i, i + n = cgN b k → ∀ rr, h_K_tellTotals_21 (d + 3) q (nI (k + 1)) (zpi M (q + 3) k (nI (totV b mk k))) = some rr → h_K_tellTotals_40 (d + 3) q (nI k) (nI (tSum ((List.range i).map fun j => mk (cgC b k j)))) (nI (tPrd ((List.range i).map fun j => mk (cgC b k j)))) (nI (2 * kSet 0 ((List.range i).map fun j => mk (cgC b k j)))) (nI i) M = some rr := by
  have hk12 := cg_12 hW hk
  have h6 := cgN_le hW hk
  have hg := hW.2.2.2.2.2 k hk
  have h3 := hg.1.1
  have h16 := hW.2.2.2.2.1
  have hB' := hB.2.2.2 k hk
  have hv : ∀ j, j < cgN b k → 1 ≤ mk (cgC b k j) ∧ mk (cgC b k j) ≤ 7 := fun j hj => by
    obtain ⟨r, hr, e⟩ := opA_ex (cgC_lt hW hk hj) (hg.2.2.1 j hj)
    rw [← e]
    exact (h7 r hr).2
  intro n
  induction n with
  | zero =>
    intro i h rr hrr
    have hi : i = cgN b k := by omega
    have hd := map_dig (b := b) (k := k) (v := fun j => mk (cgC b k j)) hv
    refine e_K_tellTotals_40 hq ?_
    rw [if_pos ((n_zin (by omega)).mpr hk12), n_clamp (by omega), hB'.1.2.1, if_neg (by rw [n_lt (by omega) (by omega)]; omega), hB'.1.1.1, hi, n_add1]
    by_cases hs0 : b (148 + 10 * k) = 0
    · have e : totV b mk k = tSum ((List.range (cgN b k)).map fun j => mk (cgC b k j)) := by unfold totV; rw [hs0]; rfl
      rw [e] at hrr
      rw [hs0, if_pos rfl]
      exact hrr
    · rw [if_neg (by rw [n_eq (by omega) (by omega)]; exact hs0)]
      by_cases hs1 : b (148 + 10 * k) = 1
      · have e : totV b mk k = tPrd ((List.range (cgN b k)).map fun j => mk (cgC b k j)) := by unfold totV; rw [hs1]; rfl
        rw [e] at hrr
        rw [hs1, if_pos rfl]
        exact hrr
      · rw [if_neg (by rw [n_eq (by omega) (by omega)]; exact hs1)]
        have l1 := kset_lt ((List.range (cgN b k)).map fun j => mk (cgC b k j)) 0 hd (by omega)
        have l2 := kset_pos (w := (List.range (cgN b k)).map fun j => mk (cgC b k j)) (σ := 0) hd (by omega) (fun e => by
          have hl := congrArg List.length e
          rw [List.length_map, List.length_range] at hl
          have hl : cgN b k = 0 := hl
          have := hg.2.1.1
          omega)
        have e : totV b mk k = kTot (b (148 + 10 * k)) (kSet 0 ((List.range (cgN b k)).map fun j => mk (cgC b k j))) := (kset_tot (al := true) hd (fun _ => by omega) (fun z => by cases z)).symm
        rw [e] at hrr
        rw [q_totalOfSet h3 l2 l1, zC1_some]
        exact hrr
  | succ n ih =>
    intro i h rr hrr
    have hi : i < cgN b k := by omega
    obtain ⟨r, hr, e⟩ := opA_ex (cgC_lt hW hk hi) (hg.2.2.1 i hi)
    have hvi := hv i hi
    have h7r := (h7 r hr).1
    rw [e] at h7r
    have hdi : ∀ x ∈ (List.range i).map (fun j => mk (cgC b k j)), 1 ≤ x ∧ x ≤ 7 := fun x hx => by
      obtain ⟨j, hj, rfl⟩ := List.mem_map.mp hx
      have := List.mem_range.mp hj
      exact hv j (by omega)
    have hda : zEv (d + 3) zmK_digitAt [.ref 632, .int (nI r)] M = some (some (.int (nI (mk (cgC b k i)))), M) := by
      refine e_K_digitAt ?_
      rw [if_neg (by rw [n_lt (by omega) (by omega)]; omega), if_pos ((n_lt (by omega) (by omega)).mpr (by omega)), if_pos ((n_zin (by omega)).mpr (by omega)), n_clamp (by omega), h7r]
    have ih1 := ih (i + 1) (by omega) rr hrr
    rw [List.range_succ, List.map_append, List.map_singleton, ← set_or hdi hvi.1 hvi.2] at ih1
    refine e_K_tellTotals_40 hq ?_
    rw [if_pos ((n_zin (by omega)).mpr hk12), n_clamp (by omega), hB'.1.2.1, if_pos ((n_lt (by omega) (by omega)).mpr hi), if_pos ((n_zin (by omega)).mpr (by omega)), n_clamp (by omega), hB'.2 i hi, ← e, q_placeOf hq hB hW hr, zC1_some, hda, zC1_some, n_one (by omega), n_add, n_mul, n_or, n_add1]
    have es : tSum ((List.range i).map (fun j => mk (cgC b k j)) ++ [mk (cgC b k i)]) = tSum ((List.range i).map fun j => mk (cgC b k j)) + mk (cgC b k i) := by
      unfold tSum
      rw [List.foldl_append]
      rfl
    have ep : tPrd ((List.range i).map (fun j => mk (cgC b k j)) ++ [mk (cgC b k i)]) = tPrd ((List.range i).map fun j => mk (cgC b k j)) * mk (cgC b k i) := by
      unfold tPrd
      rw [List.foldl_append]
      rfl
    rw [es, ep] at ih1
    exact ih1
theorem rt_hi {b mk : Nat → Nat} {j i N : Nat} (hN : N ≤ 36) (h : 148 ≤ i) : rstN (totM b mk j) N i = totM b mk j i := rstN_ne hN (Or.inr h)
theorem totM_O {b mk : Nat → Nat} (hN : b 0 * b 1 ≤ 36) {j : Nat} : isO (totM b mk j) = isO b := funext fun y => by
  unfold isO
  rw [totM_low (by omega), totM_low (by omega)]
  by_cases h : y < b 0 * b 1
  · rw [totM_low (by omega)]
  · rw [decide_eq_false h, Bool.false_and, Bool.false_and]
theorem rt_lo {b mk : Nat → Nat} (hW : Wf b) (hD : WfD b) (hm : ∀ c, mk c < 8) {j i : Nat} (hj : j ≤ b 3) (h : i < 148) : rstN (totM b mk j) (b 0 * b 1) i = rstN b (b 0 * b 1) i := by
  have h36 := hW.n36
  by_cases h40 : i < 40
  · rw [rstN_ne h36 (Or.inl h40), rstN_ne h36 (Or.inl h40), totM_low (by omega)]
  · have w := (totM_w hW hD hm hj).1
    have eN : totM b mk j 0 * totM b mk j 1 = b 0 * b 1 := by rw [totM_low (by omega), totM_low (by omega)]
    have eA : allM (totM b mk j) = allM b := by unfold allM; rw [totM_low (by omega)]
    by_cases h76 : i < 76
    · obtain ⟨x, rfl⟩ : ∃ x, i = 40 + x := ⟨i - 40, by omega⟩
      have a := (rstN_all w (x := x) (by omega)).1
      rw [eN] at a
      rw [a, (rstN_all hW (x := x) (by omega)).1]
    · by_cases h112 : i < 112
      · obtain ⟨x, rfl⟩ : ∃ x, i = 76 + x := ⟨i - 76, by omega⟩
        have a := (rstN_all w (x := x) (by omega)).2.1
        rw [eN] at a
        rw [a, (rstN_all hW (x := x) (by omega)).2.1]
      · obtain ⟨x, rfl⟩ : ∃ x, i = 112 + x := ⟨i - 112, by omega⟩
        have a := (rstN_all w (x := x) (by omega)).2.2
        rw [eN, totM_O h36, eA] at a
        rw [a, (rstN_all hW (x := x) (by omega)).2.2]
theorem opA_of {b b' : Nat → Nat} (h : isO b' = isO b) : opA b' = opA b := by unfold opA opL; rw [h]
theorem openN_of {b b' : Nat → Nat} (h : isO b' = isO b) : openN b' = openN b := by unfold openN; rw [h]
theorem q_tell_21 (hq : zkd q = (10, 0)) (hq2 : q + 18 < 126) (hW : Wf b) (hD : WfD b) {mk : Nat → Nat} (hm : ∀ c, mk c < 8) : ∀ n k (M : ZM), k + n = b 3 → BRep (rstN (totM b mk k) (b 0 * b 1)) q M → (∀ r, r < openN b → M.1 637 r = nI (mk (opA b r)) ∧ 1 ≤ mk (opA b r) ∧ mk (opA b r) ≤ 7) → ∃ M', h_K_tellTotals_21 (d + 3) q (nI k) M = some (none, M') ∧ BRep (rstN (totM b mk (b 3)) (b 0 * b 1)) q M' ∧ frI (fun a _ => a = q + 3) M M' := by
  have h12 := hW.1.2.2.2
  have h36 := hW.n36
  intro n
  induction n with
  | zero =>
    intro k M h hB h7
    obtain rfl : k = b 3 := by omega
    refine ⟨M, e_K_tellTotals_21 hq ?_, hB, fr.refl⟩
    have e3 : rstN (totM b mk (b 3)) (b 0 * b 1) 3 = b 3 := by rw [rstN_ne h36 (by omega), totM_low (by omega)]
    rw [hB.1.2.2, e3, if_neg (by rw [n_lt (by omega) (by omega)]; omega)]
  | succ n ih =>
    intro k M h hB h7
    have hk : k < b 3 := by omega
    obtain ⟨w1, w2⟩ := totM_w hW hD hm (j := k) (by omega)
    have eN : totM b mk k 0 * totM b mk k 1 = b 0 * b 1 := by rw [totM_low (by omega), totM_low (by omega)]
    obtain ⟨v1, v2⟩ := rstN_w w1 w2 (c := b 0 * b 1) h36
    have e3 : rstN (totM b mk k) (b 0 * b 1) 3 = b 3 := by rw [rstN_ne h36 (by omega), totM_low (by omega)]
    have eO : isO (rstN (totM b mk k) (b 0 * b 1)) = isO b := by rw [rstN_O (by rw [eN]; exact h36) h36, totM_O h36]
    have hk' : k < rstN (totM b mk k) (b 0 * b 1) 3 := by rw [e3]; exact hk
    have f1 : frI (fun a _ => a = q + 3) M (zpi M (q + 3) k (nI (totV (rstN (totM b mk k) (b 0 * b 1)) mk k))) := fr.refl.pi rfl
    have hB1 : BRep (rstN (totM b mk (k + 1)) (b 0 * b 1)) q (zpi M (q + 3) k (nI (totV (rstN (totM b mk k) (b 0 * b 1)) mk k))) := by
      have ht := hB.tot (by rw [e3]; exact h12) v1.n36 (fun k' hk'' => cgN_le v1 hk'') hk' (totV (rstN (totM b mk k) (b 0 * b 1)) mk k)
      have eR : ∀ i, i ≠ 149 + 10 * k → totR (rstN (totM b mk k) (b 0 * b 1)) k (totV (rstN (totM b mk k) (b 0 * b 1)) mk k) i = rstN (totM b mk k) (b 0 * b 1) i := fun i hi => if_neg hi
      refine ht.ext ?_ ?_ (fun k' hk'' => ?_) fun i hi => ?_
      · rw [eR 3 (by omega), e3]; exact h12
      · rw [eR 0 (by omega), eR 1 (by omega)]; exact v1.n36
      · rw [eR 3 (by omega)] at hk''
        have : cgN (totR (rstN (totM b mk k) (b 0 * b 1)) k (totV (rstN (totM b mk k) (b 0 * b 1)) mk k)) k' = cgN (rstN (totM b mk k) (b 0 * b 1)) k' := eR _ (by omega)
        rw [this]
        exact cgN_le v1 hk''
      · by_cases e1 : i = 149 + 10 * k
        · rw [e1, rt_hi h36 (by omega)]
          have : totR (rstN (totM b mk k) (b 0 * b 1)) k (totV (rstN (totM b mk k) (b 0 * b 1)) mk k) (149 + 10 * k) = totV (rstN (totM b mk k) (b 0 * b 1)) mk k := if_pos rfl
          rw [this]
          show totR (totM b mk k) k (totV (totM b mk k) mk k) (149 + 10 * k) = _
          have : totR (totM b mk k) k (totV (totM b mk k) mk k) (149 + 10 * k) = totV (totM b mk k) mk k := if_pos rfl
          rw [this]
          unfold totV
          have ec : cgN (rstN (totM b mk k) (b 0 * b 1)) k = cgN (totM b mk k) k := rstN_ne h36 (by omega)
          rw [rstN_ne h36 (Or.inr (by omega)), ec]
          congr 1
          refine List.map_congr_left fun j _ => ?_
          have : cgC (rstN (totM b mk k) (b 0 * b 1)) k j = cgC (totM b mk k) k j := rstN_ne h36 (by omega)
          rw [this]
        · rw [eR i e1]
          by_cases h148 : i < 148
          · rw [rt_lo hW hD hm (by omega) h148, rt_lo hW hD hm (by omega) h148]
          · rw [rt_hi h36 (by omega), rt_hi h36 (by omega)]
            exact if_neg e1
    obtain ⟨M', a1, a2, a3⟩ := ih (k + 1) _ (by omega) hB1 (fun r hr => by rw [f1.1 637 r (by omega)]; exact h7 r hr)
    refine ⟨M', e_K_tellTotals_21 hq ?_, a2, f1.trans a3⟩
    rw [hB.1.2.2, e3, if_pos ((n_lt (by omega) (by omega)).mpr hk)]
    exact q_tell_40 hq hq2 v1 hk' hB (fun r hr => by rw [openN_of eO] at hr; rw [opA_of eO]; exact h7 r hr) (cgN (rstN (totM b mk k) (b 0 * b 1)) k) 0 (Nat.zero_add _) _ a1
theorem q_tellTotals {M : ZM} (hq : zkd q = (10, 0)) (hq2 : q + 18 < 126) (hW : Wf b) (hD : WfD b) {mk : Nat → Nat} (hm : ∀ c, mk c < 8) (hB : BRep b q M) (h7 : ∀ r, r < openN b → M.1 637 r = nI (mk (opA b r)) ∧ 1 ≤ mk (opA b r) ∧ mk (opA b r) ≤ 7) : ∃ M', zEv (d + 4) zmK_tellTotals [.ref 632, .ref q] M = some (none, M') ∧ BRep (rstN (totM b mk (b 3)) (b 0 * b 1)) q M' ∧ fr (pBd q) (pBd q) M M' := by
  have h12 := hW.1.2.2.2
  have h36 := hW.n36
  have h27 := hW.1.2.2.1
  obtain ⟨v1, v2⟩ := rstN_w hW hD (c := b 0 * b 1) h36
  have eO : isO (rstN b (b 0 * b 1)) = isO b := rstN_O h36 h36
  have eL : ∀ k, k < 40 ∨ 148 ≤ k → rstN b (b 0 * b 1) k = b k := fun k hk => rstN_ne h36 hk
  have eG : gM (rstN b (b 0 * b 1)) = 0 := by
    have : gM (rstN b (b 0 * b 1)) = msk 36 fun _ => false := by
      unfold gM
      exact msk_congr fun x hx => by rw [(rstN_all hW hx).2.1]; rfl
    rw [this]
    decide +kernel
  have eP : pM (rstN b (b 0 * b 1)) = 0 := by
    have : pM (rstN b (b 0 * b 1)) = msk 36 fun _ => false := by
      unfold pM
      exact msk_congr fun x hx => by rw [(rstN_all hW hx).1]; rfl
    rw [this]
    decide +kernel
  have eOM : oM (rstN b (b 0 * b 1)) = oM b := by unfold oM; rw [eO]
  have eAM : aM (rstN b (b 0 * b 1)) = aM b := by
    unfold aM
    rw [eL 3 (by omega)]
    exact msk_congr fun k hk => by unfold cgU; rw [eL (150 + 10 * k) (by omega)]
  have f0 : fr (fun _ _ => False) (fun a k => a = q ∧ (k = 5 ∨ k = 6)) M (zpl (zpl M q 5 (nJ 0)) q 6 (nJ 0)) := (fr.refl.pl ⟨rfl, Or.inl rfl⟩).pl ⟨rfl, Or.inr rfl⟩
  have hS : BSc (rstN b (b 0 * b 1)) q (zpl (zpl M q 5 (nJ 0)) q 6 (nJ 0)) := by
    unfold BSc
    rw [eL 0 (by omega), eL 1 (by omega), eL 2 (by omega), eL 3 (by omega), eOM, eG, eP, eAM]
    refine ⟨hB.1, ⟨⟨?_, ?_⟩, ?_, hB.2.1.2.2⟩, trivial⟩
    · rw [f0.2 q 4 (by omega)]; exact hB.2.1.1.1
    · rw [m_pl, if_neg (by omega), m_pl, if_pos ⟨rfl, rfl⟩]
    · rw [m_pl, if_pos ⟨rfl, rfl⟩]
  obtain ⟨M2, a1, a2, a3⟩ := q_marksBy (d := d) hq (zf_0_8 hq) (by omega) v1.wk hS (-1) (fun c hc _ h1 => by rw [(rstN_all hW hc).2.1] at h1; cases h1)
  have hB2 : BRep (rstN b (b 0 * b 1)) q M2 := by
    refine ⟨?_, ?_, fun c hc => ?_, fun k hk => ?_⟩
    · rw [a2.1 q 0 (by omega), a2.1 q 1 (by omega), a2.1 q 2 (by omega), a2.1 q 3 (by omega)]; exact hS.1
    · rw [a2.2 q 4 (fun z => z), a2.2 q 5 (fun z => z), a2.2 q 6 (fun z => z), a2.1 q 7 (by omega)]; exact hS.2.1
    · rw [a3 c hc, (rstN_all hW hc).2.2]
      unfold mbg
      rw [eO, (rstN_all hW hc).2.1, if_neg (show ¬ (0 = 1 ∧ nI c ≠ -1) by omega)]
      have : allM (rstN b (b 0 * b 1)) = allM b := by unfold allM; rw [eL 2 (by omega)]
      rw [this]
    · rw [eL 3 (by omega)] at hk
      have h' := hB.2.2.2 k hk
      have ec : cgN (rstN b (b 0 * b 1)) k = cgN b k := eL _ (by omega)
      have eC : ∀ i, cgC (rstN b (b 0 * b 1)) k i = cgC b k i := fun i => eL _ (by omega)
      have eI : iM (rstN b (b 0 * b 1)) k = iM b k := by
        unfold iM
        refine msk_congr fun x hx => ?_
        rw [Bool.eq_iff_iff, inC_iff2, inC_iff2, ec]
        exact ⟨fun ⟨i, h1, h2⟩ => ⟨i, h1, by rw [← eC i]; exact h2⟩, fun ⟨i, h1, h2⟩ => ⟨i, h1, by rw [eC i]; exact h2⟩⟩
      rw [eL (148 + 10 * k) (by omega), eL (149 + 10 * k) (by omega), ec, eI, a2.1 (q + 2) k (by omega), a2.1 (q + 3) k (by omega), a2.1 (q + 4) k (by omega), a2.2 (q + 5) k (fun z => z)]
      refine ⟨⟨h'.1.1, h'.1.2.1, ?_⟩, fun i hi => by rw [eC i, a2.1 (q + 7 + k) i (by omega)]; exact h'.2 i hi⟩
      rw [f0.2 (q + 5) k (by omega)]
      exact h'.1.2.2
  obtain ⟨M', b1, b2, b3⟩ := q_tell_21 (d := d) hq hq2 hW hD hm (b 3) 0 M2 (by omega) hB2 (fun r hr => by rw [a2.1 637 r (by omega)]; exact h7 r hr)
  refine ⟨M', e_K_tellTotals hq ?_, b2, ((f0.mono (fun _ _ z => z.elim) fun a k z => by unfold pBd; omega).trans (a2.mono (fun a k z => by unfold pBd; omega) fun _ _ z => z.elim)).trans (b3.mono (fun a k z => by unfold pBd; omega) fun _ _ z => z.elim)⟩
  rw [a1, zC0_some]
  exact b1
end QK5
