/-! THE MODEL, 50: any part read -/
section MW
variable {d : Nat} {M : ZM} {tp : List Nat} {s : Nat} {r : Nat → Nat}
theorem s_readsPart (hP : Ps tp s r M) (hB : PB r) (h0 : 0 < s) : ∃ M', zEv (d + 9) zmM_readsPart [.ref 866] M = some (some (.int (nB (isK (rdPt tp s r)))), M') ∧ frI pRd M M' ∧ PE (fun q => Ps tp q.1 q.2 M' ∧ PB q.2) M' (rdPt tp s r) := by
  have hs := hP.1.2.1
  have hle := skp_le hs
  have wl := wd_l4
  unfold rdPt
  obtain ⟨M1, a1, a2, a3⟩ := s_takesWord (d := d + 2) hP (j := 8) (by omega)
  cases e8 : isW tp s (wd 8) with
  | true =>
    rw [e8] at a1
    rw [tkW_t e8, wl.2.1] at a2
    rw [if_pos rfl]
    obtain ⟨M', b1, b2, b3⟩ := s_readsBlock (d := d + 4) a2 hB (by omega)
    refine ⟨M', e_M_readsPart ?_, (frQ_Rd a3).trans b2, b3⟩
    rw [a1, zC1_some, if_neg (by decide), b1, zC1_some, if_pos ((nB01 _).mpr trivial)]
  | false =>
    rw [e8] at a1
    rw [tkW_f e8] at a2
    rw [if_neg (by simp)]
    obtain ⟨M2, b1, b2, b3⟩ := s_isWord (d := d + 3) a2 (j := 10) (by omega)
    rw [isW_skp hs] at b1
    rw [skp_skp hs] at b2
    have f2 := (frQ_Rd a3).trans (frQ_Rd b3)
    cases e10 : isW tp s (wd 10) with
    | true =>
      rw [e10] at b1
      rw [if_pos rfl]
      have hw := isW_le hs (by rw [wl.1]; omega) e10
      rw [wl.1] at hw
      obtain ⟨M', c1, c2, c3⟩ := s_readsCage (d := d) b2 hB (by omega) hw
      refine ⟨M', e_M_readsPart ?_, f2.trans c2, c3⟩
      rw [a1, zC1_some, if_pos (show nB false = nI 0 from rfl), b1, zC1_some, if_neg (by decide), c1, zC1_some, if_pos ((nB01 _).mpr trivial)]
    | false =>
      rw [e10] at b1
      rw [if_neg (by simp)]
      obtain ⟨M3, c1, c2, c3⟩ := s_isWord (d := d + 3) b2 (j := 5) (by omega)
      rw [isW_skp hs] at c1
      rw [skp_skp hs] at c2
      have f3 := f2.trans (frQ_Rd c3)
      cases e5 : isW tp s (wd 5) with
      | true =>
        rw [e5] at c1
        rw [if_pos rfl]
        have hw := isW_le hs (by rw [wl.2.2.1]; omega) e5
        obtain ⟨M', p1, p2, p3⟩ := s_readsLine (d := d) c2 hB (by omega) (j := 5) (by omega) false hw
        rw [wl.2.2.1] at p1 p3
        refine ⟨M', e_M_readsPart ?_, f3.trans p2, p3⟩
        rw [a1, zC1_some, if_pos (show nB false = nI 0 from rfl), b1, zC1_some, if_pos (show nB false = nI 0 from rfl), c1, zC1_some, if_neg (by decide), show nI 0 = nB false from rfl, p1, zC1_some, if_pos (show nB (isK (rdLn tp (skp tp s) r false 6)) = nB false ∨ nB (isK (rdLn tp (skp tp s) r false 6)) = nI 1 from (nB01 _).mpr trivial)]
      | false =>
        rw [e5] at c1
        rw [if_neg (by simp)]
        obtain ⟨M4, p1, p2, p3⟩ := s_isWord (d := d + 3) c2 (j := 11) (by omega)
        rw [isW_skp hs] at p1
        rw [skp_skp hs] at p2
        have f4 := f3.trans (frQ_Rd p3)
        cases e11 : isW tp s (wd 11) with
        | true =>
          rw [e11] at p1
          rw [if_pos rfl]
          have hw := isW_le hs (by rw [wl.2.2.2.1]; omega) e11
          obtain ⟨M', q1, q2, q3⟩ := s_readsLine (d := d) p2 hB (by omega) (j := 11) (by omega) true hw
          rw [wl.2.2.2.1] at q1 q3
          refine ⟨M', e_M_readsPart ?_, f4.trans q2, q3⟩
          rw [a1, zC1_some, if_pos (show nB false = nI 0 from rfl), b1, zC1_some, if_pos (show nB false = nI 0 from rfl), c1, zC1_some, if_pos (show nB false = nI 0 from rfl), p1, zC1_some, if_neg (by decide), show nI 1 = nB true from rfl, q1, zC1_some, if_pos (show nB (isK (rdLn tp (skp tp s) r true 4)) = nI 0 ∨ nB (isK (rdLn tp (skp tp s) r true 4)) = nB true from (nB01 _).mpr trivial)]
        | false =>
          rw [e11] at p1
          rw [if_neg (by simp)]
          obtain ⟨M5, q1, q2, q3⟩ := s_isWord (d := d + 3) p2 (j := 12) (by omega)
          rw [isW_skp hs] at q1
          rw [skp_skp hs] at q2
          have f5 := f4.trans (frQ_Rd q3)
          cases e12 : isW tp s (wd 12) with
          | true =>
            rw [e12] at q1
            rw [if_pos rfl]
            have hw := isW_le hs (by rw [wl.2.2.2.2]; omega) e12
            rw [wl.2.2.2.2] at hw
            obtain ⟨M', k1, k2, k3⟩ := s_readsGiven (d := d + 3) q2 hB hw
            refine ⟨M', e_M_readsPart ?_, f5.trans k2, k3⟩
            rw [a1, zC1_some, if_pos (show nB false = nI 0 from rfl), b1, zC1_some, if_pos (show nB false = nI 0 from rfl), c1, zC1_some, if_pos (show nB false = nI 0 from rfl), p1, zC1_some, if_pos (show nB false = nI 0 from rfl), q1, zC1_some, if_neg (by decide), k1, zC1_some, if_pos ((nB01 _).mpr trivial)]
          | false =>
            rw [e12] at q1
            rw [if_neg (by simp)]
            refine ⟨zpi M5 866 37 (nI (8 * skp tp s + 1)), e_M_readsPart ?_, f5.pi (Or.inl ⟨rfl, by omega, by omega⟩), by show _ = _; rw [m_pi, if_pos ⟨rfl, rfl⟩]⟩
            rw [a1, zC1_some, if_pos (show nB false = nI 0 from rfl), b1, zC1_some, if_pos (show nB false = nI 0 from rfl), c1, zC1_some, if_pos (show nB false = nI 0 from rfl), p1, zC1_some, if_pos (show nB false = nI 0 from rfl), q1, zC1_some, if_pos (show nB false = nI 0 from rfl), q2.1.2.2, s_fails (d := d + 7), zC1_some, if_pos (Or.inl rfl)]
            rfl
end MW
