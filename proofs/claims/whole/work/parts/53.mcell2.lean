/-! THE MODEL, 42: cells read -/
def inK (r : Nat → Nat) (c : Nat) : Bool := (List.range (r 3)).any fun k => (List.range (r (151 + 10 * k))).any fun i => decide (r (152 + 10 * k + i) = c)
/-- the cell told there -/
def celN (tp : List Nat) (s : Nat) (r : Nat → Nat) (v : Nat) : Nat := r 0 * (v - 1) + (tq tp (skp tp s) - 97)
def rdC (tp : List Nat) (s : Nat) (r : Nat → Nat) (blk : Bool) : Except Nat (Nat × Nat × Nat) :=
  if inB tp (skp tp s) 97 (96 + r 0) = true then
    if inB tp (skp tp s + 1) 48 57 = true then
      match rdD tp (skp tp s + 1) 1 (r 1) with
      | .error e => .error e
      | .ok q => if r (4 + celN tp s r q.1) = 1 ∨ (blk = true ∧ (r (76 + celN tp s r q.1) ≠ 0 ∨ inK r (celN tp s r q.1) = true)) then .error (8 * (skp tp s + 1) + 2) else .ok (celN tp s r q.1, skp tp s + 1, q.2)
    else .error (8 * (skp tp s + 1) + 1)
  else .error (8 * skp tp s + 1)
/-- small numbers -/
def PB (r : Nat → Nat) : Prop := (∀ k, r k < 10000000) ∧ (r 0 ≤ 6 ∧ r 1 ≤ 6 ∧ r 2 ≤ 7 ∧ r 3 ≤ 12) ∧ ∀ k, k < 12 → r (151 + 10 * k) ≤ 6
theorem celN_lt {tp : List Nat} {s : Nat} {r : Nat → Nat} {v : Nat} (hB : PB r) (h1 : inB tp (skp tp s) 97 (96 + r 0) = true) (hv : 1 ≤ v ∧ v ≤ r 1) : celN tp s r v < r 0 * r 1 ∧ r 0 * r 1 ≤ 36 := by
  have h2 := inB_lt h1
  refine ⟨?_, Nat.mul_le_mul hB.2.1.1 hB.2.1.2.1⟩
  have e : r 0 * r 1 = r 0 * (r 1 - 1) + r 0 := by
    rw [← Nat.mul_succ]
    congr 1
    omega
  have h3 : r 0 * (v - 1) ≤ r 0 * (r 1 - 1) := Nat.mul_le_mul_left _ (by omega)
  unfold celN
  omega
theorem rdC_ok {tp : List Nat} {s : Nat} {r : Nat → Nat} {blk : Bool} (hB : PB r) (hs : s ≤ tp.length) {q : Nat × Nat × Nat} (h : rdC tp s r blk = .ok q) : (q.1 < r 0 * r 1 ∧ q.1 < 36) ∧ r (4 + q.1) ≠ 1 ∧ (s < q.2.2 ∧ q.2.2 ≤ tp.length) ∧ (blk = true → r (76 + q.1) = 0 ∧ inK r q.1 = false) := by
  have hle := skp_le hs
  unfold rdC at h
  by_cases h1 : inB tp (skp tp s) 97 (96 + r 0) = true
  · rw [if_pos h1] at h
    by_cases h2 : inB tp (skp tp s + 1) 48 57 = true
    · rw [if_pos h2] at h
      have hb := inB_lt h2
      cases hE : rdD tp (skp tp s + 1) 1 (r 1) with
      | error e => rw [hE] at h; cases h
      | ok p =>
        rw [hE] at h
        dsimp only at h
        obtain ⟨g1, g2, g3⟩ := rdD_ok (by omega) hE
        have hc := celN_lt (s := s) hB h1 g1
        by_cases hx : r (4 + celN tp s r p.1) = 1 ∨ (blk = true ∧ (r (76 + celN tp s r p.1) ≠ 0 ∨ inK r (celN tp s r p.1) = true))
        · rw [if_pos hx] at h; cases h
        · rw [if_neg hx] at h
          cases h
          refine ⟨⟨hc.1, by show celN tp s r p.1 < 36; omega⟩, fun z => hx (Or.inl z), ⟨by show s < p.2; omega, g3⟩, fun z => ⟨?_, ?_⟩⟩
          · rcases Nat.eq_zero_or_pos (r (76 + celN tp s r p.1)) with g | g
            · exact g
            · exact absurd (Or.inr ⟨z, Or.inl (by omega)⟩) hx
          · cases hk : inK r (celN tp s r p.1) with
            | false => rfl
            | true => exact absurd (Or.inr ⟨z, Or.inr hk⟩) hx
    · rw [if_neg h2] at h; cases h
  · rw [if_neg h1] at h; cases h
section MP
variable {d : Nat} {M : ZM} {tp : List Nat} {s : Nat} {r : Nat → Nat}
theorem s_isInCage_i (hR : ∀ k, k < 268 → M.1 883 k = nI (r k)) (hB : PB r) {k c : Nat} (hk : k < r 3) (hc : c < 2147483648) (h41 : M.1 866 41 = nI c) {R : ZR} : ∀ j i, i + j = r (151 + 10 * k) →
    ((List.range' i j).any (fun i => decide (r (152 + 10 * k + i) = c)) = true → R = (some (.int (nI 1)), M)) →
    ((List.range' i j).any (fun i => decide (r (152 + 10 * k + i) = c)) = false → h_M_isInCage_2 d (nI (k + 1)) M = some R) →
    h_M_isInCage_14 d (nI k) (nI i) M = some R := by
  have h12 := hB.2.1.2.2.2
  have h6 := hB.2.2 k (by omega)
  intro j
  induction j with
  | zero =>
    intro i h h1 h2
    refine e_M_isInCage_14 ?_
    rw [n_mul, n_add, n_add, show 148 + 10 * k + 3 = 151 + 10 * k by omega, if_pos ((n_zin (by omega)).mpr (by omega)), n_clamp (by omega), hR _ (by omega), if_neg (by rw [n_lt (by omega) (by omega)]; omega), n_add1]
    exact h2 rfl
  | succ j ih =>
    intro i h h1 h2
    have hr := hB.1 (152 + 10 * k + i)
    rw [List.range'_succ, List.any_cons] at h1 h2
    refine e_M_isInCage_14 ?_
    rw [n_mul, n_add, n_add, show 148 + 10 * k + 3 = 151 + 10 * k by omega, if_pos ((n_zin (by omega)).mpr (by omega)), n_clamp (by omega), hR _ (by omega), if_pos ((n_lt (by omega) (by omega)).mpr (by omega)), n_add, n_add, show 148 + 10 * k + 4 + i = 152 + 10 * k + i by omega, if_pos ((n_zin (by omega)).mpr (by omega)), n_clamp (by omega), hR _ (by omega), h41]
    by_cases e : r (152 + 10 * k + i) = c
    · rw [if_pos (by rw [e])]
      rw [decide_eq_true e, Bool.true_or] at h1
      rw [h1 rfl]
    · rw [if_neg (by rw [n_eq (by omega) (by omega)]; exact e), n_add1]
      rw [decide_eq_false e, Bool.false_or] at h1 h2
      exact ih (i + 1) (by omega) h1 h2
theorem s_isInCage_k (hR : ∀ k, k < 268 → M.1 883 k = nI (r k)) (hB : PB r) {c : Nat} (hc : c < 2147483648) (h41 : M.1 866 41 = nI c) : ∀ j k, k + j = r 3 → h_M_isInCage_2 d (nI k) M = some (some (.int (nB ((List.range' k j).any fun k => (List.range (r (151 + 10 * k))).any fun i => decide (r (152 + 10 * k + i) = c)))), M) := by
  have h12 := hB.2.1.2.2.2
  intro j
  induction j with
  | zero =>
    intro k h
    refine e_M_isInCage_2 ?_
    rw [hR 3 (by omega), if_neg (by rw [n_lt (by omega) (by omega)]; omega)]
    rfl
  | succ j ih =>
    intro k h
    have ih' := ih (k + 1) (by omega)
    refine e_M_isInCage_2 ?_
    rw [hR 3 (by omega), if_pos ((n_lt (by omega) (by omega)).mpr (by omega)), List.range'_succ, List.any_cons, List.range_eq_range']
    refine s_isInCage_i hR hB (show k < r 3 by omega) hc h41 (r (151 + 10 * k)) 0 (by omega) (fun z => ?_) (fun z => ?_)
    · rw [z, Bool.true_or]; rfl
    · rw [z, Bool.false_or]; exact ih'
theorem s_isInCage (hR : ∀ k, k < 268 → M.1 883 k = nI (r k)) (hB : PB r) {c : Nat} (hc : c < 2147483648) (h41 : M.1 866 41 = nI c) : zEv (d + 1) zmM_isInCage [.ref 866] M = some (some (.int (nB (inK r c))), M) := by
  refine e_M_isInCage ?_
  unfold inK
  rw [s_isInCage_k hR hB hc h41 (r 3) 0 (by omega), List.range_eq_range']
theorem s_readsCell (hP : Ps tp s r M) (hB : PB r) (blk : Bool) : ∃ M', zEv (d + 3) zmM_readsCell [.ref 866, .int (nB blk)] M = some (some (.int (nB (isK (rdC tp s r blk)))), M') ∧ frI pQ M M' ∧ PE (fun q => Ps tp q.2.2 r M' ∧ M'.1 866 41 = nI q.1 ∧ M'.1 866 39 = nI q.2.1) M' (rdC tp s r blk) := by
  have h06 := hB.2.1.1
  have h16 := hB.2.1.2.1
  obtain ⟨M1, a1, a2, a3⟩ := s_nextByte (d := d) hP
  have hle := skp_le hP.1.2.1
  have hl := hP.1.1.1.2
  have h0 := a2.2 0 (by omega)
  have eL : Int32.toInt64 (nI 97 + nI (r 0) - nI 1) = nJ (96 + r 0) := by
    rw [n_add, n_sub (by omega), show 97 + r 0 - 1 = 96 + r 0 by omega, toI64_n (by omega)]
  have err : ∀ {e : Nat} {M2 : ZM}, PE (fun q : Nat × Nat × Nat => Ps tp q.2.2 r (zpi M2 866 37 (nI e)) ∧ (zpi M2 866 37 (nI e)).1 866 41 = nI q.1 ∧ (zpi M2 866 37 (nI e)).1 866 39 = nI q.2.1) (zpi M2 866 37 (nI e)) (.error e) := fun {e M2} => by
    show _ = _
    rw [m_pi, if_pos ⟨rfl, rfl⟩]
  unfold rdC
  cases h1 : inB tp (skp tp s) 97 (96 + r 0) with
  | false =>
    rw [if_neg (by simp)]
    refine ⟨zpi M1 866 37 (nI (8 * skp tp s + 1)), e_M_readsCell ?_, a3.pi ⟨rfl, by omega, by omega⟩, err⟩
    rw [a1, zC1_some, h0, eL, s_inB (d := d + 1) a2.1.1 (by omega) (by omega), zC1_some, h1, if_pos (show nB false = nI 0 from rfl), a2.1.2.2, s_fails (d := d + 1), zC1_some, if_pos (Or.inl rfl)]
    rfl
  | true =>
    have b1 := inB_lt h1
    have e3 : bI tp (skp tp s) = nI (tq tp (skp tp s)) := if_pos b1.1
    rw [if_pos rfl]
    obtain ⟨m1, m2⟩ := a2.mv (s' := skp tp s + 1) (by omega)
    have e36 : (zpi M1 866 36 (nI (skp tp s + 1))).1 866 36 = nI (skp tp s + 1) := m1.1.2.2
    cases h2 : inB tp (skp tp s + 1) 48 57 with
    | false =>
      rw [if_neg (by simp)]
      refine ⟨zpi (zpi M1 866 36 (nI (skp tp s + 1))) 866 37 (nI (8 * (skp tp s + 1) + 1)), e_M_readsCell ?_, (a3.trans m2).pi ⟨rfl, by omega, by omega⟩, err⟩
      rw [a1, zC1_some, h0, eL, s_inB (d := d + 1) a2.1.1 (by omega) (by omega), zC1_some, h1, if_neg (by decide), a2.1.2.2, n_add1, e36, s_byteAt (d := d + 1) m1.1.1 (by omega), zC1_some, s_inB (d := d + 1) m1.1.1 (by omega) (by omega), zC1_some, h2, if_pos (show nB false = nI 0 from rfl), e36, s_fails (d := d + 1), zC1_some, if_pos (Or.inl rfl)]
      rfl
    | true =>
      rw [if_pos rfl]
      obtain ⟨M2, c1, c2, c3⟩ := s_readsDigits (d := d) m1 (lo := 1) (hi := r 1) (by omega) (by omega)
      cases hE : rdD tp (skp tp s + 1) 1 (r 1) with
      | error e =>
        rw [hE] at c1 c3
        refine ⟨M2, e_M_readsCell ?_, (a3.trans m2).trans c2, c3⟩
        rw [a1, zC1_some, h0, eL, s_inB (d := d + 1) a2.1.1 (by omega) (by omega), zC1_some, h1, if_neg (by decide), a2.1.2.2, n_add1, e36, s_byteAt (d := d + 1) m1.1.1 (by omega), zC1_some, s_inB (d := d + 1) m1.1.1 (by omega) (by omega), zC1_some, h2, if_neg (by decide), m1.2 1 (by omega), c1, zC1_some, if_pos (by rfl)]
        rfl
      | ok q =>
        rw [hE] at c1 c3
        rw [isK_ok] at c1
        have c3' : Ps tp q.2 r M2 ∧ M2.1 866 38 = nI q.1 ∧ M2.1 866 39 = nI (skp tp s + 1) := c3
        obtain ⟨g1, g2, g3⟩ := rdD_ok (by omega) hE
        have hc := celN_lt (s := s) hB h1 g1
        have hr4 := hB.1 (4 + celN tp s r q.1)
        have hr76 := hB.1 (76 + celN tp s r q.1)
        have eC : nI (r 0) * (nI q.1 - nI 1) + bI tp (skp tp s) - nI 97 = nI (celN tp s r q.1) := by
          rw [n_sub g1.1, n_mul, e3, n_add, n_sub (by omega)]
          unfold celN
          rw [show r 0 * (q.1 - 1) + tq tp (skp tp s) - 97 = r 0 * (q.1 - 1) + (tq tp (skp tp s) - 97) by omega]
        have P2 : Ps tp q.2 r (zpi M2 866 41 (nI (celN tp s r q.1))) := c3'.1.fr3 (p := fun a k => a = 866 ∧ k = 41) (fr.refl.pi ⟨rfl, rfl⟩) (fun a k z => by omega)
        have e41 : (zpi M2 866 41 (nI (celN tp s r q.1))).1 866 41 = nI (celN tp s r q.1) := by rw [m_pi, if_pos ⟨rfl, rfl⟩]
        have e39 : (zpi M2 866 41 (nI (celN tp s r q.1))).1 866 39 = nI (skp tp s + 1) := by rw [m_pi, if_neg (by omega)]; exact c3'.2.2
        have f2 : frI pQ M (zpi M2 866 41 (nI (celN tp s r q.1))) := ((a3.trans m2).trans c2).pi ⟨rfl, by omega, by omega⟩
        dsimp only
        by_cases x4 : r (4 + celN tp s r q.1) = 1
        · rw [if_pos (Or.inl x4)]
          refine ⟨zpi (zpi M2 866 41 (nI (celN tp s r q.1))) 866 37 (nI (8 * (skp tp s + 1) + 2)), e_M_readsCell ?_, f2.pi ⟨rfl, by omega, by omega⟩, err⟩
          rw [a1, zC1_some, h0, eL, s_inB (d := d + 1) a2.1.1 (by omega) (by omega), zC1_some, h1, if_neg (by decide), a2.1.2.2, n_add1, e36, s_byteAt (d := d + 1) m1.1.1 (by omega), zC1_some, s_inB (d := d + 1) m1.1.1 (by omega) (by omega), zC1_some, h2, if_neg (by decide), m1.2 1 (by omega), c1, zC1_some, if_neg (show ¬ nB true = nI 0 by decide), c3'.1.2 0 (by omega), c3'.2.1, eC, e41, n_add, if_pos ((n_zin (by omega)).mpr (by omega)), n_clamp (by omega), P2.2 _ (by omega), if_pos (by rw [x4]), e39, s_fails (d := d + 1), zC1_some, if_pos (Or.inl rfl)]
          rfl
        · cases blk with
          | false =>
            rw [if_neg (fun z => by rcases z with z | z; exact x4 z; cases z.1)]
            refine ⟨zpi M2 866 41 (nI (celN tp s r q.1)), e_M_readsCell ?_, f2, P2, e41, e39⟩
            rw [a1, zC1_some, h0, eL, s_inB (d := d + 1) a2.1.1 (by omega) (by omega), zC1_some, h1, if_neg (by decide), a2.1.2.2, n_add1, e36, s_byteAt (d := d + 1) m1.1.1 (by omega), zC1_some, s_inB (d := d + 1) m1.1.1 (by omega) (by omega), zC1_some, h2, if_neg (by decide), m1.2 1 (by omega), c1, zC1_some, if_neg (show ¬ nB true = nI 0 by decide), c3'.1.2 0 (by omega), c3'.2.1, eC, e41, n_add, if_pos ((n_zin (by omega)).mpr (by omega)), n_clamp (by omega), P2.2 _ (by omega), if_neg (by rw [n_eq (by omega) (by omega)]; exact x4), if_pos (show nB false = nI 0 from rfl), isK_ok]
            rfl
          | true =>
            by_cases x76 : r (76 + celN tp s r q.1) = 0
            · cases xk : inK r (celN tp s r q.1) with
              | true =>
                rw [if_pos (Or.inr ⟨rfl, Or.inr rfl⟩)]
                refine ⟨zpi (zpi M2 866 41 (nI (celN tp s r q.1))) 866 37 (nI (8 * (skp tp s + 1) + 2)), e_M_readsCell ?_, f2.pi ⟨rfl, by omega, by omega⟩, err⟩
                rw [a1, zC1_some, h0, eL, s_inB (d := d + 1) a2.1.1 (by omega) (by omega), zC1_some, h1, if_neg (by decide), a2.1.2.2, n_add1, e36, s_byteAt (d := d + 1) m1.1.1 (by omega), zC1_some, s_inB (d := d + 1) m1.1.1 (by omega) (by omega), zC1_some, h2, if_neg (by decide), m1.2 1 (by omega), c1, zC1_some, if_neg (show ¬ nB true = nI 0 by decide), c3'.1.2 0 (by omega), c3'.2.1, eC, e41, n_add, if_pos ((n_zin (by omega)).mpr (by omega)), n_clamp (by omega), P2.2 _ (by omega), if_neg (by rw [n_eq (by omega) (by omega)]; exact x4), if_neg (by decide), n_add, if_pos ((n_zin (by omega)).mpr (by omega)), n_clamp (by omega), P2.2 _ (by omega), if_pos (by rw [x76]), s_isInCage (d := d + 1) P2.2 hB (by omega) e41, zC1_some, xk, if_neg (by decide), e39, s_fails (d := d + 1), zC1_some, if_pos rfl]
                rfl
              | false =>
                rw [if_neg (fun z => by
                  rcases z with z | z
                  · exact x4 z
                  · rcases z.2 with z | z
                    · exact z x76
                    · cases z)]
                refine ⟨zpi M2 866 41 (nI (celN tp s r q.1)), e_M_readsCell ?_, f2, P2, e41, e39⟩
                rw [a1, zC1_some, h0, eL, s_inB (d := d + 1) a2.1.1 (by omega) (by omega), zC1_some, h1, if_neg (by decide), a2.1.2.2, n_add1, e36, s_byteAt (d := d + 1) m1.1.1 (by omega), zC1_some, s_inB (d := d + 1) m1.1.1 (by omega) (by omega), zC1_some, h2, if_neg (by decide), m1.2 1 (by omega), c1, zC1_some, if_neg (show ¬ nB true = nI 0 by decide), c3'.1.2 0 (by omega), c3'.2.1, eC, e41, n_add, if_pos ((n_zin (by omega)).mpr (by omega)), n_clamp (by omega), P2.2 _ (by omega), if_neg (by rw [n_eq (by omega) (by omega)]; exact x4), if_neg (by decide), n_add, if_pos ((n_zin (by omega)).mpr (by omega)), n_clamp (by omega), P2.2 _ (by omega), if_pos (by rw [x76]), s_isInCage (d := d + 1) P2.2 hB (by omega) e41, zC1_some, xk, if_pos (show nB false = nI 0 from rfl), isK_ok]
                rfl
            · rw [if_pos (Or.inr ⟨rfl, Or.inl x76⟩)]
              refine ⟨zpi (zpi M2 866 41 (nI (celN tp s r q.1))) 866 37 (nI (8 * (skp tp s + 1) + 2)), e_M_readsCell ?_, f2.pi ⟨rfl, by omega, by omega⟩, err⟩
              rw [a1, zC1_some, h0, eL, s_inB (d := d + 1) a2.1.1 (by omega) (by omega), zC1_some, h1, if_neg (by decide), a2.1.2.2, n_add1, e36, s_byteAt (d := d + 1) m1.1.1 (by omega), zC1_some, s_inB (d := d + 1) m1.1.1 (by omega) (by omega), zC1_some, h2, if_neg (by decide), m1.2 1 (by omega), c1, zC1_some, if_neg (show ¬ nB true = nI 0 by decide), c3'.1.2 0 (by omega), c3'.2.1, eC, e41, n_add, if_pos ((n_zin (by omega)).mpr (by omega)), n_clamp (by omega), P2.2 _ (by omega), if_neg (by rw [n_eq (by omega) (by omega)]; exact x4), if_neg (by decide), n_add, if_pos ((n_zin (by omega)).mpr (by omega)), n_clamp (by omega), P2.2 _ (by omega), if_neg (by rw [n_eq (by omega) (by omega)]; exact x76), e39, s_fails (d := d + 1), zC1_some, if_pos rfl]
              rfl
theorem s_isLetterNext (hP : Ps tp s r M) : ∃ M', zEv (d + 3) zmM_isLetterNext [.ref 866] M = some (some (.int (nB (inB tp (skp tp s) 97 122))), M') ∧ Ps tp (skp tp s) r M' ∧ frI pQ M M' := by
  obtain ⟨M1, a1, a2, a3⟩ := s_nextByte (d := d) hP
  refine ⟨M1, e_M_isLetterNext ?_, a2, a3⟩
  rw [a1, zC1_some, s_inB (d := d + 1) a2.1.1 (by omega) (by omega), zC1_some, if_pos ((nB01 _).mpr trivial)]
end MP
