/-! THE MODEL, 44: a cage's total, its cells -/
theorem rdT_ok {tp : List Nat} {s : Nat} (hs : s ≤ tp.length) {q : Nat × Nat × Nat} (h : rdT tp s = .ok q) : (q.1 ≤ 3 ∧ q.2.1 ≤ mostT q.1 ∧ (q.1 = 3 → q.2.1 = 0)) ∧ s ≤ q.2.2 ∧ q.2.2 ≤ tp.length := by
  have hle := skp_le hs
  have h0 : ∀ {j}, j < 17 → 0 < (wd j).length := fun hj => by rw [wd_len]; exact ztx_0 _ hj
  have h1 : ∀ t s', t < 3 → s ≤ s' → s' ≤ tp.length → rdT1 tp t s' = .ok q → (q.1 ≤ 3 ∧ q.2.1 ≤ mostT q.1 ∧ (q.1 = 3 → q.2.1 = 0)) ∧ s ≤ q.2.2 ∧ q.2.2 ≤ tp.length := by
    intro t s' ht g1 g2 hq
    unfold rdT1 at hq
    cases hE : rdN tp s' 0 (mostT t) with
    | error e => rw [hE] at hq; cases hq
    | ok p =>
      rw [hE] at hq
      cases hq
      obtain ⟨k1, k2⟩ := rdN_ok g2 hE
      exact ⟨⟨by show t ≤ 3; omega, k1.2, fun z => by have : t = 3 := z; omega⟩, by show s ≤ p.2; omega, k2.2⟩
  unfold rdT at h
  by_cases e7 : isW tp s (wd 7) = true
  · rw [if_pos e7] at h
    cases h
    have := isW_le hs (h0 (by omega)) e7
    exact ⟨⟨Nat.le_refl 3, Nat.zero_le _, fun _ => rfl⟩, by show s ≤ skp tp s + _; omega, this⟩
  · rw [if_neg e7] at h
    by_cases e15 : isW tp s (wd 15) = true
    · rw [if_pos e15] at h
      exact h1 0 _ (by omega) (by omega) (isW_le hs (h0 (by omega)) e15) h
    · rw [if_neg e15] at h
      by_cases e13 : isW tp s (wd 13) = true
      · rw [if_pos e13] at h
        exact h1 1 _ (by omega) (by omega) (isW_le hs (h0 (by omega)) e13) h
      · rw [if_neg e13] at h
        by_cases e14 : isW tp s (wd 14) = true
        · rw [if_pos e14] at h
          exact h1 2 _ (by omega) (by omega) (isW_le hs (h0 (by omega)) e14) h
        · rw [if_neg e14] at h
          cases h
section MR2
variable {d : Nat} {M : ZM} {tp : List Nat} {s : Nat} {r : Nat → Nat}
theorem tkW_t {w : List Nat} (h : isW tp s w = true) : tkW tp s w = skp tp s + w.length := if_pos h
theorem tkW_f {w : List Nat} (h : isW tp s w = false) : tkW tp s w = skp tp s := if_neg (by rw [h]; simp)
theorem s_rdT1 {M : ZM} (hP : Ps tp s r M) {w t : Nat} (hw : w + 10 ≤ 268) (ht : t < 3) : ∃ M', zEv (d + 6) zmM_readsTo [.ref 866, .int (nI (w + 1)), .int (nI 0), .int (nI (mostT t))] (zpi M 883 w (nI t)) = some (some (.int (nB (isK (rdT1 tp t s)))), M') ∧ frI pRd M M' ∧ PE (fun q => Ps tp q.2.2 (upN (upN r w q.1) (w + 1) q.2.1) M') M' (rdT1 tp t s) := by
  obtain ⟨M', a1, a2, a3⟩ := s_readsTo (d := d + 2) (hP.wr w t) (i := w + 1) (lo := 0) (hi := mostT t) (by omega) (by omega) (mostT_lt t)
  refine ⟨M', ?_, fr_wr.trans a2, ?_⟩
  · rw [a1]
    unfold rdT1
    cases hE : rdN tp s 0 (mostT t) <;> rfl
  · unfold rdT1
    cases hE : rdN tp s 0 (mostT t) with
    | error e => rw [hE] at a3; exact a3
    | ok q => rw [hE] at a3; exact a3
theorem s_readsTotal (hP : Ps tp s r M) {w : Nat} (hw : w + 10 ≤ 268) (hz : r (w + 1) = 0) : ∃ M', zEv (d + 7) zmM_readsTotal [.ref 866, .int (nI w)] M = some (some (.int (nB (isK (rdT tp s)))), M') ∧ frI pRd M M' ∧ PE (fun q => Ps tp q.2.2 (upN (upN r w q.1) (w + 1) q.2.1) M') M' (rdT tp s) := by
  have hs := hP.1.2.1
  have hle := skp_le hs
  have zi : zin (nI w + nI 0) 268 = true := by rw [n_add]; exact (n_zin (by omega)).mpr (by omega)
  have zc : Int32.toNatClampNeg (nI w + nI 0) = w := by rw [n_add, n_clamp (by omega)]; rfl
  unfold rdT
  obtain ⟨M1, a1, a2, a3⟩ := s_takesWord (d := d) hP (j := 7) (by omega)
  cases e7 : isW tp s (wd 7) with
  | true =>
    rw [e7] at a1
    rw [tkW_t e7] at a2
    rw [if_pos rfl]
    refine ⟨zpi M1 883 w (nI 3), e_M_readsTotal ?_, (frQ_Rd a3).trans fr_wr, ?_⟩
    · rw [a1, zC1_some, if_neg (by decide), if_pos zi, zc]
      rfl
    · have e : upN (upN r w 3) (w + 1) 0 = upN r w 3 := funext fun k => by
        by_cases e : k = w + 1
        · rw [e, upN_at, upN_ne (by omega), hz]
        · rw [upN_ne e]
      show Ps _ _ (upN (upN r w 3) (w + 1) 0) _
      rw [e]
      exact a2.wr w 3
  | false =>
    rw [e7] at a1
    rw [tkW_f e7] at a2
    rw [if_neg (by simp)]
    obtain ⟨M2, b1, b2, b3⟩ := s_takesWord (d := d) a2 (j := 15) (by omega)
    rw [isW_skp hs] at b1
    cases e15 : isW tp s (wd 15) with
    | true =>
      rw [e15] at b1
      rw [tkW_t (by rw [isW_skp hs]; exact e15), skp_skp hs] at b2
      rw [if_pos rfl]
      obtain ⟨M3, c1, c2, c3⟩ := s_rdT1 (d := d) b2 (t := 0) hw (by omega)
      refine ⟨M3, e_M_readsTotal ?_, ((frQ_Rd a3).trans (frQ_Rd b3)).trans c2, c3⟩
      rw [a1, zC1_some, if_pos (show nB false = nI 0 from rfl)]
      refine e_M_readsTotal_23 ?_
      rw [if_pos (by decide), if_pos rfl, b1, zC1_some, if_neg (by decide), if_pos zi, zc, s_mostOf (d := d + 5) (by omega), zC1_some, n_add, c1, zC1_some, if_pos ((nB01 _).mpr trivial)]
    | false =>
      rw [e15] at b1
      rw [tkW_f (by rw [isW_skp hs]; exact e15), skp_skp hs] at b2
      rw [if_neg (by simp)]
      obtain ⟨M3, c1, c2, c3⟩ := s_takesWord (d := d) b2 (j := 13) (by omega)
      rw [isW_skp hs] at c1
      cases e13 : isW tp s (wd 13) with
      | true =>
        rw [e13] at c1
        rw [tkW_t (by rw [isW_skp hs]; exact e13), skp_skp hs] at c2
        rw [if_pos rfl]
        obtain ⟨M4, p1, p2, p3⟩ := s_rdT1 (d := d) c2 (t := 1) hw (by omega)
        refine ⟨M4, e_M_readsTotal ?_, (((frQ_Rd a3).trans (frQ_Rd b3)).trans (frQ_Rd c3)).trans p2, p3⟩
        rw [a1, zC1_some, if_pos (show nB false = nI 0 from rfl)]
        refine e_M_readsTotal_23 ?_
        rw [if_pos (by decide), if_pos rfl, b1, zC1_some, if_pos (show nB false = nI 0 from rfl), n_add1]
        refine e_M_readsTotal_23 ?_
        rw [if_pos (by decide), if_neg (by decide), if_pos rfl, c1, zC1_some, if_neg (by decide), if_pos zi, zc, show nI (0 + 1) = nI 1 from rfl, s_mostOf (d := d + 5) (by omega), zC1_some, n_add, p1, zC1_some, if_pos ((nB01 _).mpr trivial)]
      | false =>
        rw [e13] at c1
        rw [tkW_f (by rw [isW_skp hs]; exact e13), skp_skp hs] at c2
        rw [if_neg (by simp)]
        obtain ⟨M4, p1, p2, p3⟩ := s_takesWord (d := d) c2 (j := 14) (by omega)
        rw [isW_skp hs] at p1
        cases e14 : isW tp s (wd 14) with
        | true =>
          rw [e14] at p1
          rw [tkW_t (by rw [isW_skp hs]; exact e14), skp_skp hs] at p2
          rw [if_pos rfl]
          obtain ⟨M5, q1, q2, q3⟩ := s_rdT1 (d := d) p2 (t := 2) hw (by omega)
          refine ⟨M5, e_M_readsTotal ?_, ((((frQ_Rd a3).trans (frQ_Rd b3)).trans (frQ_Rd c3)).trans (frQ_Rd p3)).trans q2, q3⟩
          rw [a1, zC1_some, if_pos (show nB false = nI 0 from rfl)]
          refine e_M_readsTotal_23 ?_
          rw [if_pos (by decide), if_pos rfl, b1, zC1_some, if_pos (show nB false = nI 0 from rfl), n_add1]
          refine e_M_readsTotal_23 ?_
          rw [if_pos (by decide), if_neg (by decide), if_pos rfl, c1, zC1_some, if_pos (show nB false = nI 0 from rfl), n_add1]
          refine e_M_readsTotal_23 ?_
          rw [if_pos (by decide), if_neg (by decide), if_neg (by decide), p1, zC1_some, if_neg (by decide), if_pos zi, zc, show nI (0 + 1 + 1) = nI 2 from rfl, s_mostOf (d := d + 5) (by omega), zC1_some, n_add, q1, zC1_some, if_pos ((nB01 _).mpr trivial)]
        | false =>
          rw [e14] at p1
          rw [tkW_f (by rw [isW_skp hs]; exact e14), skp_skp hs] at p2
          rw [if_neg (by simp)]
          refine ⟨zpi M4 866 37 (nI (8 * skp tp s + 1)), e_M_readsTotal ?_, (((frQ_Rd a3).trans (frQ_Rd b3)).trans (frQ_Rd c3)).trans ((frQ_Rd p3).pi (Or.inl ⟨rfl, by omega, by omega⟩)), by show _ = _; rw [m_pi, if_pos ⟨rfl, rfl⟩]⟩
          rw [a1, zC1_some, if_pos (show nB false = nI 0 from rfl)]
          refine e_M_readsTotal_23 ?_
          rw [if_pos (by decide), if_pos rfl, b1, zC1_some, if_pos (show nB false = nI 0 from rfl), n_add1]
          refine e_M_readsTotal_23 ?_
          rw [if_pos (by decide), if_neg (by decide), if_pos rfl, c1, zC1_some, if_pos (show nB false = nI 0 from rfl), n_add1]
          refine e_M_readsTotal_23 ?_
          rw [if_pos (by decide), if_neg (by decide), if_neg (by decide), p1, zC1_some, if_pos (show nB false = nI 0 from rfl), n_add1]
          refine e_M_readsTotal_23 ?_
          rw [if_neg (by decide), p2.1.2.2, s_fails (d := d + 5), zC1_some, if_pos (Or.inl rfl)]
          rfl
def alk (tp : List Nat) (s : Nat) : Nat := if isW tp s (wd 6) = true then 0 else 1
theorem s_readsAlike (hP : Ps tp s r M) {w : Nat} (hw : w + 10 ≤ 268) : ∃ M', zEv (d + 7) zmM_readsAlike [.ref 866, .int (nI w)] M = some (none, M') ∧ frI pRd M M' ∧ Ps tp (tkW tp s (wd 6)) (upN r (w + 2) (alk tp s)) M' := by
  obtain ⟨M1, a1, a2, a3⟩ := s_takesWord (d := d) hP (j := 6) (by omega)
  unfold alk
  cases e : isW tp s (wd 6) with
  | true =>
    rw [e] at a1
    rw [if_pos rfl]
    refine ⟨zpi M1 883 (w + 2) (nI 0), e_M_readsAlike ?_, (frQ_Rd a3).trans fr_wr, a2.wr _ _⟩
    rw [a1, zC1_some, if_neg (by decide), n_add, if_pos ((n_zin (by omega)).mpr (by omega)), n_clamp (by omega)]
  | false =>
    rw [e] at a1
    rw [if_neg (by simp)]
    refine ⟨zpi M1 883 (w + 2) (nI 1), e_M_readsAlike ?_, (frQ_Rd a3).trans fr_wr, a2.wr _ _⟩
    rw [a1, zC1_some, if_pos (show nB false = nI 0 from rfl), n_add, if_pos ((n_zin (by omega)).mpr (by omega)), n_clamp (by omega)]
end MR2
