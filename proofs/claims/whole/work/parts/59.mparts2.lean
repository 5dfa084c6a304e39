/-! THE MODEL, 48: lines, digits given, any part -/
theorem cell_split {r : Nat → Nat} {c : Nat} (hB : PB r) (hc : c < r 0 * r 1) : (0 < r 0 ∧ r 0 ≤ 6) ∧ c % r 0 < r 0 ∧ c - c % r 0 + r 0 ≤ r 0 * r 1 ∧ c < c - c % r 0 + r 0 ∧ r 0 * r 1 ≤ 36 ∧ r 0 * r 1 ≤ c + 6 * r 0 := by
  have h06 := hB.2.1.1
  have h16 := hB.2.1.2.1
  have h0 : 0 < r 0 := by
    rcases Nat.eq_zero_or_pos (r 0) with g | g
    · rw [g, Nat.zero_mul] at hc; omega
    · exact g
  have hm := Nat.mod_lt c h0
  have hd := Nat.div_add_mod c (r 0)
  have hq : c / r 0 < r 1 := Nat.div_lt_of_lt_mul hc
  have h1 : r 0 * (c / r 0) + r 0 ≤ r 0 * r 1 := by
    have : r 0 * (c / r 0 + 1) ≤ r 0 * r 1 := Nat.mul_le_mul_left _ hq
    rwa [Nat.mul_succ] at this
  have h2 : r 0 * r 1 ≤ r 0 * 6 := Nat.mul_le_mul_left _ h16
  have h3 : r 0 * r 1 ≤ 36 := Nat.mul_le_mul h06 h16
  refine ⟨⟨h0, h06⟩, hm, by omega, by omega, h3, by omega⟩
theorem lnS_congr {r r' : Nat → Nat} {st en : Nat} (h : ∀ k, k < en → r' (4 + k) = r (4 + k)) : ∀ f k S, lnS r' st en f k S = lnS r st en f k S
  | 0, _, _ => rfl
  | f + 1, k, S => by
    show (if k < en ∧ r' (4 + k) = 0 then lnS r' st en f (k + st) (upB S k) else S) = (if k < en ∧ r (4 + k) = 0 then lnS r st en f (k + st) (upB S k) else S)
    by_cases hk : k < en
    · rw [h k hk, lnS_congr h f]
    · rw [if_neg (fun z => hk z.1), if_neg (fun z => hk z.1)]
section MV
variable {d : Nat} {M : ZM} {tp : List Nat} {s : Nat} {r : Nat → Nat}
theorem s_readsLine (hP : Ps tp s r M) (hB : PB r) (h0 : 0 < s) {j : Nat} (hj : j < 17) (down : Bool) (hs : s + (wd j).length ≤ tp.length) : ∃ M', zEv (d + 8) zmM_readsLine [.ref 866, .ref (j + 1), .int (nB down)] M = some (some (.int (nB (isK (rdLn tp s r down (wd j).length)))), M') ∧ frI pRd M M' ∧ PE (fun q => Ps tp q.1 q.2 M' ∧ PB q.2) M' (rdLn tp s r down (wd j).length) := by
  have hl := hP.1.1.1.2
  have h12 := hB.2.1.2.2.2
  obtain ⟨M1, a1, a2, a3⟩ := s_begins (d := d + 4) hP hB hj hs
  unfold rdLn
  by_cases e12 : r 3 = 12
  · rw [if_pos e12] at a3 ⊢
    rw [decide_eq_true e12] at a1
    refine ⟨M1, e_M_readsLine (zkS j hj).1 ?_, a2, a3⟩
    rw [a1, zC1_some, if_pos (by rfl)]
    rfl
  · rw [if_neg e12] at a3 ⊢
    rw [decide_eq_false e12] at a1
    have a3' : Ps tp (s + (wd j).length) (begI r (148 + 10 * r 3) 10) M1 := a3
    have e3 : begI r (148 + 10 * r 3) 10 3 = r 3 := begI_ne (by omega)
    obtain ⟨M2, b1, b2, b3⟩ := s_readsCell (d := d + 4) a3' (hB.beg (by omega)) false
    have eC := rdC_congr (tp := tp) (s := s + (wd j).length) (r' := begI r (148 + 10 * r 3) 10) hB (fun k hk => begI_ne (by omega))
    rw [eC] at b1 b3
    cases hC : rdC tp (s + (wd j).length) r false with
    | error e =>
      rw [hC] at b1 b3
      refine ⟨M2, e_M_readsLine (zkS j hj).1 ?_, a2.trans (frQ_Rd b2), b3⟩
      rw [a1, zC1_some, if_neg (by decide), show nI 0 = nB false from rfl, b1, zC1_some, if_pos (by rfl)]
      rfl
    | ok c =>
      rw [hC] at b1 b3
      rw [isK_ok] at b1
      dsimp only
      have b3' : Ps tp c.2.2 (begI r (148 + 10 * r 3) 10) M2 ∧ M2.1 866 41 = nI c.1 ∧ M2.1 866 39 = nI c.2.1 := b3
      obtain ⟨g1, g2, g3, -⟩ := rdC_ok hB hs hC
      obtain ⟨M3, c1, c2, c3⟩ := s_readsTotal (d := d) b3'.1 (w := 148 + 10 * r 3) (by omega) (if_pos (by omega))
      cases hT : rdT tp c.2.2 with
      | error e =>
        rw [hT] at c1 c3
        refine ⟨M3, e_M_readsLine (zkS j hj).1 ?_, (a2.trans (frQ_Rd b2)).trans c2, c3⟩
        rw [a1, zC1_some, if_neg (by decide), show nI 0 = nB false from rfl, b1, zC1_some, if_neg (by decide), a3'.2 3 (by omega), e3, n_mul, n_add, c1, zC1_some, if_pos (by rfl)]
        rfl
      | ok q =>
        rw [hT] at c1 c3
        rw [isK_ok] at c1
        dsimp only
        obtain ⟨t1, t2, t3⟩ := rdT_ok g3.2 hT
        have c3' : Ps tp q.2.2 (upN (upN (begI r (148 + 10 * r 3) 10) (148 + 10 * r 3) q.1) (148 + 10 * r 3 + 1) q.2.1) M3 := c3
        obtain ⟨M4, p1, p2, p3⟩ := s_readsAlike (d := d) c3' (w := 148 + 10 * r 3) (by omega)
        have p3' : Ps tp (tkW tp q.2.2 (wd 6)) (cagR r (148 + 10 * r 3) q.1 q.2.1 (alk tp q.2.2)) M4 := p3
        have hm := mostT_lt q.1
        have ha := alk_le tp q.2.2
        have hBc : PB (cagR r (148 + 10 * r 3) q.1 q.2.1 (alk tp q.2.2)) := hB.cag (by omega) (by omega) (by omega)
        have ec3 : cagR r (148 + 10 * r 3) q.1 q.2.1 (alk tp q.2.2) 3 = r 3 := cagR_ne (by omega)
        have ec0 : cagR r (148 + 10 * r 3) q.1 q.2.1 (alk tp q.2.2) 0 = r 0 := cagR_ne (by omega)
        have ec1 : cagR r (148 + 10 * r 3) q.1 q.2.1 (alk tp q.2.2) 1 = r 1 := cagR_ne (by omega)
        have hp0 : memR (cagR r (148 + 10 * r 3) q.1 q.2.1 (alk tp q.2.2)) (148 + 10 * r 3) (cOf fun _ => false) = cagR r (148 + 10 * r 3) q.1 q.2.1 (alk tp q.2.2) := by
          rw [cOf_no]
          exact mem_nil (cagR_z (by omega) (by omega))
        obtain ⟨⟨x1, x2⟩, x3, x4, x5, x6, x7⟩ := cell_split hB g1.1
        have hen : lnEN r down c.1 ≤ 36 := by
          unfold lnEN
          cases down with
          | true => exact x6
          | false => show c.1 - c.1 % r 0 + r 0 ≤ 36; omega
        have hst : 0 < lnST r down := by
          unfold lnST
          cases down with
          | true => exact x1
          | false => show 0 < 1; omega
        have hen2 : lnEN r down c.1 ≤ c.1 + 6 * lnST r down := by
          unfold lnEN lnST
          cases down with
          | true => exact x7
          | false => show c.1 - c.1 % r 0 + r 0 ≤ c.1 + 6 * 1; omega
        have eLn : lnS (cagR r (148 + 10 * r 3) q.1 q.2.1 (alk tp q.2.2)) (lnST r down) (lnEN r down c.1) 6 c.1 (fun _ => false) = lnS r (lnST r down) (lnEN r down c.1) 6 c.1 (fun _ => false) := lnS_congr (fun k hk => cagR_ne (by omega)) 6 c.1 _
        have hst2 : lnST r down = lnST (cagR r (148 + 10 * r 3) q.1 q.2.1 (alk tp q.2.2)) down := by
          unfold lnST
          rw [ec0]
        obtain ⟨M', k1, k2, k3, k4⟩ := s_readsLine_100 (tp := tp) (s := tkW tp q.2.2 (wd 6)) (d := d + 6) (show r 3 < 12 by omega) (st := lnST r down) (en := lnEN r down c.1) (down := down) hBc ec3 hen hst hst2 6 c.1 (fun _ => false) M4 hen2 (by omega) (by rw [cOf_no]; exact Nat.le_refl 6) (fun _ _ => rfl) (by rw [hp0]; exact p3')
        rw [eLn] at k3 k4
        refine ⟨M', e_M_readsLine (zkS j hj).1 ?_, (((a2.trans (frQ_Rd b2)).trans c2).trans p2).trans k2, k3, hBc.fin k4 (by omega)⟩
        rw [a1, zC1_some, if_neg (by decide), show nI 0 = nB false from rfl, b1, zC1_some, if_neg (by decide), a3'.2 3 (by omega), e3, n_mul, n_add, c1, zC1_some, if_neg (by decide), p1, zC0_some, isK_ok]
        cases down with
        | true =>
          rw [if_neg (by decide), p3'.2 0 (by omega), p3'.2 1 (by omega), ec0, ec1, n_mul, b3'.2.1]
          exact k1
        | false =>
          rw [if_pos rfl, p3'.2 0 (by omega), ec0, if_neg (by rw [show nB false = nI 0 from rfl, n_eq (by omega) (by omega)]; omega), b3'.2.1, n_rem (by omega) (by omega), n_sub (Nat.mod_le _ _), n_add, zLr]
          exact k1
theorem s_readsGiven (hP : Ps tp s r M) (hB : PB r) (hs : s + 5 ≤ tp.length) : ∃ M', zEv (d + 5) zmM_readsGiven [.ref 866] M = some (some (.int (nB (isK (rdGv tp s r)))), M') ∧ frI pRd M M' ∧ PE (fun q => Ps tp q.1 q.2 M' ∧ PB q.2) M' (rdGv tp s r) := by
  have hl := hP.1.1.1.2
  have h27 := hB.2.1.2.2.1
  obtain ⟨m1, m2⟩ := hP.mv hs
  obtain ⟨M1, a1, a2, a3⟩ := s_readsCell (d := d + 1) m1 hB false
  unfold rdGv
  cases hC : rdC tp (s + 5) r false with
  | error e =>
    rw [hC] at a1 a3
    refine ⟨M1, e_M_readsGiven ?_, (frQ_Rd m2).trans (frQ_Rd a2), a3⟩
    rw [hP.1.2.2, n_add, show nI 0 = nB false from rfl, a1, zC1_some, if_pos (by rfl)]
    rfl
  | ok c =>
    rw [hC] at a1 a3
    rw [isK_ok] at a1
    dsimp only
    have a3' : Ps tp c.2.2 r M1 ∧ M1.1 866 41 = nI c.1 ∧ M1.1 866 39 = nI c.2.1 := a3
    obtain ⟨g1, g2, g3, -⟩ := rdC_ok hB hs hC
    have hr := hB.1 (76 + c.1)
    by_cases e : r (76 + c.1) = 1
    · rw [if_pos e]
      refine ⟨zpi M1 866 37 (nI (8 * c.2.1 + 2)), e_M_readsGiven ?_, ((frQ_Rd m2).trans (frQ_Rd a2)).pi (Or.inl ⟨rfl, by omega, by omega⟩), by show _ = _; rw [m_pi, if_pos ⟨rfl, rfl⟩]⟩
      rw [hP.1.2.2, n_add, show nI 0 = nB false from rfl, a1, zC1_some, if_neg (by decide), a3'.2.1, n_add, if_pos ((n_zin (by omega)).mpr (by omega)), n_clamp (by omega), a3'.1.2 _ (by omega), if_pos (by rw [e]), a3'.2.2, s_fails (d := d + 3), zC1_some, if_pos (show nI 0 = nB false ∨ nI 0 = nI 1 from Or.inl rfl)]
      rfl
    · rw [if_neg e]
      obtain ⟨M2, b1, b2, b3⟩ := s_readsTo (d := d) a3'.1 (i := 40 + c.1) (lo := 1) (hi := r 2) (by omega) (by omega) (by omega)
      cases hN : rdN tp c.2.2 1 (r 2) with
      | error e2 =>
        rw [hN] at b1 b3
        refine ⟨M2, e_M_readsGiven ?_, ((frQ_Rd m2).trans (frQ_Rd a2)).trans b2, b3⟩
        rw [hP.1.2.2, n_add, show nI 0 = nB false from rfl, a1, zC1_some, if_neg (by decide), a3'.2.1, n_add, if_pos ((n_zin (by omega)).mpr (by omega)), n_clamp (by omega), a3'.1.2 _ (by omega), if_neg (by rw [n_eq (by omega) (by omega)]; exact e), n_add, a3'.1.2 2 (by omega), b1, zC1_some, if_pos (by rfl)]
        rfl
      | ok q =>
        rw [hN] at b1 b3
        rw [isK_ok] at b1
        dsimp only
        obtain ⟨k1, k2⟩ := rdN_ok g3.2 hN
        have b3' : Ps tp q.2 (upN r (40 + c.1) q.1) M2 := b3
        refine ⟨zpi M2 883 (76 + c.1) (nI 1), e_M_readsGiven ?_, (((frQ_Rd m2).trans (frQ_Rd a2)).trans b2).trans fr_wr, b3'.wr _ _, (hB.up (by omega) (by omega) (fun k _ => by omega)).up (by omega) (by omega) (fun k _ => by omega)⟩
        rw [hP.1.2.2, n_add, show nI 0 = nB false from rfl, a1, zC1_some, if_neg (by decide), a3'.2.1, n_add, if_pos ((n_zin (by omega)).mpr (by omega)), n_clamp (by omega), a3'.1.2 _ (by omega), if_neg (by rw [n_eq (by omega) (by omega)]; exact e), n_add, a3'.1.2 2 (by omega), b1, zC1_some, if_neg (by decide)]
        rfl
end MV
