/-! THE MODEL, 46: a cage read -/
def rdMem (tp : List Nat) (r : Nat → Nat) : Nat → Nat → (Nat → Bool) → Except Nat (Nat × (Nat → Bool))
  | 0, _, _ => .error 0
  | f + 1, s, S => if inB tp (skp tp s) 97 (96 + r 0) = true ∧ (cOf S).length = 6 then .error (8 * skp tp s + 3) else
    match rdC tp s r false with
    | .error e => .error e
    | .ok q => if S q.1 = true then .error (8 * q.2.1 + 2) else if inB tp (skp tp q.2.2) 97 122 = true then rdMem tp r f (skp tp q.2.2) (upB S q.1) else .ok (skp tp q.2.2, upB S q.1)
def cagR (r : Nat → Nat) (w t n u : Nat) : Nat → Nat := upN (upN (upN (begI r w 10) w t) (w + 1) n) (w + 2) u
def finR (r : Nat → Nat) (w : Nat) (S : Nat → Bool) : Nat → Nat := upN (memR r w (cOf S)) 3 (r 3 + 1)
theorem cOf_up {S : Nat → Bool} {c : Nat} (hc : c < 36) (hS : S c = false) : (cOf (upB S c)).length = (cOf S).length + 1 := by
  obtain ⟨X, Y, eX, eY, -, -⟩ := cOf_split hc hS
  rw [eX, eY, List.length_append, List.length_append]
  rfl
theorem memR_low {r : Nat → Nat} {w : Nat} {L : List Nat} {k : Nat} (h : k < w + 3 ∨ w + 10 ≤ k) (h6 : L.length ≤ 6) : memR r w L k = r k := by
  unfold memR
  rw [if_neg (by omega), if_neg (by omega)]
theorem PB.mem {r : Nat → Nat} (h : PB r) {k0 : Nat} {S : Nat → Bool} (h6 : (cOf S).length ≤ 6) : PB (memR r (148 + 10 * k0) (cOf S)) := by
  refine ⟨fun k => ?_, ?_, fun k hk => ?_⟩
  · unfold memR
    by_cases e : k = 148 + 10 * k0 + 3
    · rw [if_pos e]; omega
    · rw [if_neg e]
      by_cases e2 : 148 + 10 * k0 + 4 ≤ k ∧ k < 148 + 10 * k0 + 4 + (cOf S).length
      · rw [if_pos e2]
        have := (cOf_mem.mp (getD_mem (show k - (148 + 10 * k0 + 4) < (cOf S).length by omega))).1
        omega
      · rw [if_neg e2]
        exact h.1 k
  · rw [memR_low (by omega) h6, memR_low (by omega) h6, memR_low (by omega) h6, memR_low (by omega) h6]
    exact h.2.1
  · unfold memR
    by_cases e : k = k0
    · rw [if_pos (by omega)]; exact h6
    · rw [if_neg (by omega), if_neg (by omega)]
      exact h.2.2 k hk
theorem rdC_congr {tp : List Nat} {s : Nat} {r r' : Nat → Nat} (hB : PB r) (h : ∀ k, k < 148 → r' k = r k) : rdC tp s r' false = rdC tp s r false := by
  unfold rdC
  rw [h 0 (by omega), h 1 (by omega)]
  by_cases h1 : inB tp (skp tp s) 97 (96 + r 0) = true
  · rw [if_pos h1, if_pos h1]
    by_cases h2 : inB tp (skp tp s + 1) 48 57 = true
    · rw [if_pos h2, if_pos h2]
      have hb := inB_lt h2
      cases hE : rdD tp (skp tp s + 1) 1 (r 1) with
      | error e => rfl
      | ok q =>
        have g := rdD_ok (by omega) hE
        have hc := celN_lt (s := s) hB h1 g.1
        have ec : celN tp s r' q.1 = celN tp s r q.1 := by unfold celN; rw [h 0 (by omega)]
        dsimp only
        rw [ec, h (4 + celN tp s r q.1) (by omega)]
        by_cases x : r (4 + celN tp s r q.1) = 1
        · rw [if_pos (Or.inl x), if_pos (Or.inl x)]
        · rw [if_neg (fun z => by rcases z with z | z; exact x z; cases z.1), if_neg (fun z => by rcases z with z | z; exact x z; cases z.1)]
    · rw [if_neg h2, if_neg h2]
  · rw [if_neg h1, if_neg h1]
theorem rdC_col {tp : List Nat} {s : Nat} {r : Nat → Nat} {blk : Bool} {q : Nat × Nat × Nat} (h : rdC tp s r blk = .ok q) : inB tp (skp tp s) 97 (96 + r 0) = true := by
  unfold rdC at h
  by_cases h1 : inB tp (skp tp s) 97 (96 + r 0) = true
  · exact h1
  · rw [if_neg h1] at h; cases h
section MT
variable {d : Nat} {M : ZM} {tp : List Nat} {s : Nat} {r : Nat → Nat}
theorem s_readsCage_41 {k0 : Nat} (hk : k0 < 12) (hB : PB r) (h3 : r 3 = k0) : ∀ f s S (M : ZM), tp.length < s + f → Ps tp s (memR r (148 + 10 * k0) (cOf S)) M → (cOf S).length ≤ 6 → ∃ M', h_M_readsCage_41 (d + 3) (nI (148 + 10 * k0)) M = some (some (.int (nB (isK (rdMem tp r f s S)))), M') ∧ frI pRd M M' ∧ PE (fun q => Ps tp q.1 (finR r (148 + 10 * k0) q.2) M' ∧ (cOf q.2).length ≤ 6) M' (rdMem tp r f s S) := by
  intro f
  induction f with
  | zero => intro s S M h hP; have := hP.1.2.1; omega
  | succ f ih =>
    intro s S M h hP h6
    have hs := hP.1.2.1
    have hl := hP.1.1.1.2
    have h06 := hB.2.1.1
    have hle := skp_le hs
    obtain ⟨M1, a1, a2, a3⟩ := s_nextByte (d := d + 1) hP
    have e0 : memR r (148 + 10 * k0) (cOf S) 0 = r 0 := memR_low (by omega) h6
    have h0 := a2.2 0 (by omega)
    rw [e0] at h0
    have eL : Int32.toInt64 (nI 97 + nI (r 0) - nI 1) = nJ (96 + r 0) := by
      rw [n_add, n_sub (by omega), show 97 + r 0 - 1 = 96 + r 0 by omega, toI64_n (by omega)]
    have hB2 : PB (memR r (148 + 10 * k0) (cOf S)) := hB.mem h6
    have eC := rdC_congr (tp := tp) (s := s) (r' := memR r (148 + 10 * k0) (cOf S)) hB (fun k hk => memR_low (by omega) h6)
    have eC2 : rdC tp (skp tp s) (memR r (148 + 10 * k0) (cOf S)) false = rdC tp s r false := by
      rw [← eC]
      unfold rdC celN
      rw [skp_skp hs]
    have e41 : rdMem tp r (f + 1) s S = if inB tp (skp tp s) 97 (96 + r 0) = true ∧ (cOf S).length = 6 then Except.error (8 * skp tp s + 3) else
        match rdC tp s r false with
        | Except.error e => Except.error e
        | Except.ok q => if S q.1 = true then Except.error (8 * q.2.1 + 2) else if inB tp (skp tp q.2.2) 97 122 = true then rdMem tp r f (skp tp q.2.2) (upB S q.1) else Except.ok (skp tp q.2.2, upB S q.1) := rfl
    rw [e41]
    have hsz : memR r (148 + 10 * k0) (cOf S) (148 + 10 * k0 + 3) = (cOf S).length := if_pos rfl
    have h3s := a2.2 (148 + 10 * k0 + 3) (by omega)
    rw [hsz] at h3s
    by_cases hx : inB tp (skp tp s) 97 (96 + r 0) = true ∧ (cOf S).length = 6
    · rw [if_pos hx]
      refine ⟨zpi M1 866 37 (nI (8 * skp tp s + 3)), e_M_readsCage_41 ?_, (frQ_Rd a3).pi (Or.inl ⟨rfl, by omega, by omega⟩), by show _ = _; rw [m_pi, if_pos ⟨rfl, rfl⟩]⟩
      rw [a1, zC1_some, h0, eL, s_inB (d := d + 2) a2.1.1 (by omega) (by omega), zC1_some, hx.1, if_neg (by decide), n_add, if_pos ((n_zin (by omega)).mpr (by omega)), n_clamp (by omega), h3s, if_pos (by rw [hx.2]), a2.1.2.2, s_fails (d := d + 2), zC1_some, if_pos (Or.inl rfl)]
      rfl
    · rw [if_neg hx]
      have go : ∀ {R : ZR}, h_M_readsCage_92 (d + 3) (nI (148 + 10 * k0)) M1 = some R → h_M_readsCage_41 (d + 3) (nI (148 + 10 * k0)) M = some R := by
        intro R hR
        refine e_M_readsCage_41 ?_
        rw [a1, zC1_some, h0, eL, s_inB (d := d + 2) a2.1.1 (by omega) (by omega), zC1_some]
        cases hi : inB tp (skp tp s) 97 (96 + r 0) with
        | false => rw [if_pos (show nB false = nI 0 from rfl)]; exact hR
        | true =>
          rw [if_neg (by decide), n_add, if_pos ((n_zin (by omega)).mpr (by omega)), n_clamp (by omega), h3s, if_neg (by rw [n_eq (by omega) (by omega)]; exact fun z => hx ⟨hi, z⟩)]
          exact hR
      obtain ⟨M2, b1, b2, b3⟩ := s_readsCell (d := d) a2 hB2 false
      rw [eC2] at b1 b3
      cases hE : rdC tp s r false with
      | error e =>
        rw [hE] at b1 b3
        refine ⟨M2, go (e_M_readsCage_92 ?_), (frQ_Rd a3).trans (frQ_Rd b2), b3⟩
        rw [show nI 0 = nB false from rfl, b1, zC1_some, if_pos (by rfl)]
        rfl
      | ok q =>
        rw [hE] at b1 b3
        rw [isK_ok] at b1
        dsimp only
        have b3' : Ps tp q.2.2 (memR r (148 + 10 * k0) (cOf S)) M2 ∧ M2.1 866 41 = nI q.1 ∧ M2.1 866 39 = nI q.2.1 := b3
        obtain ⟨g1, g2, g3, -⟩ := rdC_ok hB hs hE
        have hcol := rdC_col hE
        have h66 : (cOf S).length < 6 := by
          rcases Nat.lt_or_ge (cOf S).length 6 with g | g
          · exact g
          · exact absurd ⟨hcol, by omega⟩ hx
        have hRow := s_isInRow (d := d + 2) (show 148 + 10 * k0 + 10 ≤ 268 by omega) h6 g1.2 b3'.1 b3'.2.1
        cases hS : S q.1 with
        | true =>
          rw [hS] at hRow
          rw [if_pos rfl]
          refine ⟨zpi M2 866 37 (nI (8 * q.2.1 + 2)), go (e_M_readsCage_92 ?_), ((frQ_Rd a3).trans (frQ_Rd b2)).pi (Or.inl ⟨rfl, by omega, by omega⟩), by show _ = _; rw [m_pi, if_pos ⟨rfl, rfl⟩]⟩
          rw [show nI 0 = nB false from rfl, b1, zC1_some, if_neg (by decide), hRow, zC1_some, if_neg (by decide), b3'.2.2, s_fails (d := d + 2), zC1_some, if_pos (show nI 0 = nB false ∨ nI 0 = nI 1 from Or.inl rfl)]
          rfl
        | false =>
          rw [hS] at hRow
          rw [if_neg (by simp)]
          obtain ⟨M3, c1, c2, c3⟩ := s_comesInto (d := d + 2) (show 148 + 10 * k0 + 10 ≤ 268 by omega) g1.2 hS h66 b3'.1
          obtain ⟨M4, p1, p2, p3⟩ := s_isLetterNext (d := d) c3
          have h7 := cOf_up g1.2 hS
          have hle2 := skp_le g3.2
          have f4 : frI pRd M M4 := (((frQ_Rd a3).trans (frQ_Rd b2)).trans c2).trans (frQ_Rd p3)
          cases hL : inB tp (skp tp q.2.2) 97 122 with
          | true =>
            rw [hL] at p1
            rw [if_pos rfl]
            obtain ⟨M', k1, k2, k3⟩ := ih (skp tp q.2.2) (upB S q.1) M4 (by omega) p2 (by omega)
            refine ⟨M', go (e_M_readsCage_92 ?_), f4.trans k2, k3⟩
            rw [show nI 0 = nB false from rfl, b1, zC1_some, if_neg (by decide), hRow, zC1_some, if_pos rfl, b3'.2.1, c1, zC0_some, p1, zC1_some, if_neg (by decide)]
            exact k1
          | false =>
            rw [hL] at p1
            rw [if_neg (by simp)]
            have e3 : memR r (148 + 10 * k0) (cOf (upB S q.1)) 3 = r 3 := memR_low (by omega) (by omega)
            refine ⟨zpi M4 883 3 (nI (r 3 + 1)), go (e_M_readsCage_92 ?_), f4.trans fr_wr, p2.wr 3 (r 3 + 1), by show (cOf (upB S q.1)).length ≤ 6; omega⟩
            rw [show nI 0 = nB false from rfl, b1, zC1_some, if_neg (by decide), hRow, zC1_some, if_pos rfl, b3'.2.1, c1, zC0_some, p1, zC1_some, if_pos rfl, p2.2 3 (by omega), e3, n_add1]
            rfl
end MT
