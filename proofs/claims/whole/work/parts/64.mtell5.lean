/-! THE MODEL, 53: tell runs -/
theorem PV_wf {r : Nat → Nat} (hV : PV r) (hO : opnR r ≤ 16) : Wf r := by
  have h36 := hV.n36
  unfold Wf
  refine ⟨⟨hV.1.1.2, hV.1.2.1.2, hV.1.2.2.1.2, hV.1.2.2.2⟩, fun z => by have := hV.1.2.2.1.1; omega, fun _ => ⟨hV.1.1.1, hV.1.2.1.1, hV.1.2.2.1.1⟩, fun c hc => ?_, ?_, fun k hk => hV.2.2 k hk⟩
  · have g := hV.2.1 c hc
    unfold WfC
    rw [g.2.2.2]
    refine ⟨⟨g.1.1, g.1.2.1⟩, ⟨g.1.2.2, Nat.lt_of_lt_of_le Nat.zero_lt_one Nat.one_le_two_pow, Nat.zero_testBit 0⟩, fun z => ?_⟩
    have h76 : r (76 + c) = 0 := by
      rcases Nat.eq_zero_or_pos (r (76 + c)) with h | h
      · exact h
      · have := (g.2.1 (by omega)).1
        rw [z] at this
        cases this
    exact ⟨rfl, g.2.2.1 h76, h76⟩
  · have h1 := (mkR_w hV hO (fun _ _ => trivial)).1.2.2.2.2.1
    unfold openN at h1 ⊢
    have eO : isO (mkR r) = isO r := mkN_isO h36 _
    rw [eO] at h1
    exact h1
theorem mkN_w {r : Nat → Nat} (hV : PV r) (hW : Wf r) : ∀ c, c ≤ 36 → Wf (mkN r c)
  | 0, _ => hW
  | c + 1, hc => by
    have ih := mkN_w hV hW c (by omega)
    have h36 := hV.n36
    show Wf (mkS (mkN r c) c)
    unfold mkS
    rw [mkN_isO h36]
    cases hO : isO r c with
    | false => rw [if_neg (by simp)]; exact ih
    | true =>
      have g := hV.2.1 c (by omega)
      have e2 : mkN r c 2 = r 2 := mkN_ne (by omega)
      rw [if_pos rfl, mkN_ne (show 76 + c < 112 ∨ _ by omega), mkN_ne (show 40 + c < 112 ∨ _ by omega)]
      have eA : allM (mkN r c) = allM r := by unfold allM; rw [e2]
      refine wf_setK ih (by rw [mkN_isO h36]; exact hO) ?_ ?_
      · rw [e2]
        by_cases e : r (76 + c) = 1
        · rw [if_pos e]
          exact (Nat.pow_lt_pow_iff_right (by omega)).mpr (by omega)
        · rw [if_neg e, eA]
          exact allM_lt0 r
      · by_cases e : r (76 + c) = 1
        · rw [if_pos e, Nat.testBit_two_pow]
          have := (g.2.1 e).2
          exact decide_eq_false (by omega)
        · rw [if_neg e, eA]
          exact allM_0 r
def rdRest (tp : List Nat) (f s : Nat) (r : Nat → Nat) : Except Nat (Nat → Nat) := match rdLoop tp f s r with
  | .error e => .error e
  | .ok p => rdEnd tp p.1 p.2
section MX
variable {d : Nat} {M : ZM} {tp : List Nat} {s : Nat} {r : Nat → Nat}
theorem s_openRead_l (hR : ∀ k, k < 268 → M.1 883 k = nI (r k)) (hV : PV r) : ∀ j i, i + j = r 0 * r 1 → h_M_openRead_4 d (nI ((List.range i).filter fun c => decide (r (4 + c) = 0)).length) (nI i) M = some (some (.int (nI (opnR r))), M) := by
  have h36 := hV.n36
  intro j
  induction j with
  | zero =>
    intro i h
    obtain rfl : i = r 0 * r 1 := by omega
    refine e_M_openRead_4 ?_
    rw [hR 0 (by omega), hR 1 (by omega), n_mul, if_neg (by rw [n_lt (by omega) (by omega)]; omega)]
    rfl
  | succ j ih =>
    intro i h
    have g := (hV.2.1 i (by omega)).1.1
    refine e_M_openRead_4 ?_
    rw [hR 0 (by omega), hR 1 (by omega), n_mul, if_pos ((n_lt (by omega) (by omega)).mpr (by omega)), n_add, if_pos ((n_zin (by omega)).mpr (by omega)), n_clamp (by omega), hR _ (by omega), n_sub g, n_add, n_add1, zLr]
    have e : ((List.range i).filter fun c => decide (r (4 + c) = 0)).length + (1 - r (4 + i)) = ((List.range (i + 1)).filter fun c => decide (r (4 + c) = 0)).length := by
      rw [List.range_succ, List.filter_append, List.length_append]
      congr 1
      by_cases e : r (4 + i) = 0
      · have e9 : [i].filter (fun c => decide (r (4 + c) = 0)) = [i] := List.filter_eq_self.mpr fun x hx => by rw [List.mem_singleton.mp hx]; exact decide_eq_true e
        rw [e9, e]; rfl
      · have e9 : [i].filter (fun c => decide (r (4 + c) = 0)) = [] := List.filter_eq_nil_iff.mpr fun x hx => by rw [List.mem_singleton.mp hx, decide_eq_false e]; simp
        rw [e9, show r (4 + i) = 1 by omega]; rfl
    rw [e]
    exact ih (i + 1) (by omega)
theorem s_openRead (hR : ∀ k, k < 268 → M.1 883 k = nI (r k)) (hV : PV r) : zEv (d + 1) zmM_openRead [.ref 866] M = some (some (.int (nI (opnR r))), M) := by
  refine e_M_openRead ?_
  exact s_openRead_l hR hV (r 0 * r 1) 0 (by omega)
theorem opnR_le {r : Nat → Nat} (hV : PV r) : opnR r ≤ 36 := by
  have := List.length_filter_le (fun c => decide (r (4 + c) = 0)) (List.range (r 0 * r 1))
  rw [List.length_range] at this
  have := hV.n36
  unfold opnR
  omega
theorem s_readsAll_82 : ∀ f s r (M : ZM), tp.length < s + f → Ps tp s r M → PB r → PV r → ∃ M', h_M_readsAll_82 (d + 9) M = some (some (.int (nB (isK (rdRest tp f s r)))), M') ∧ frI pRd M M' ∧ PE (fun r' => ∃ s', Ps tp s' r' M') M' (rdRest tp f s r) := by
  intro f
  induction f with
  | zero => intro s r M h hP; have := hP.1.2.1; omega
  | succ f ih =>
    intro s r M h hP hB hV
    have hs := hP.1.2.1
    have hl := hP.1.1.1.2
    have hle := skp_le hs
    obtain ⟨M1, a1, a2, a3⟩ := s_nextByte (d := d + 7) hP
    have e59 := bI_eq a2.1.1 (k := skp tp s) (show 59 < 128 by omega)
    by_cases hx : skp tp s < tp.length ∧ tq tp (skp tp s) = 59
    · obtain ⟨m1, m2⟩ := a2.mv (s' := skp tp s + 1) (by omega)
      obtain ⟨M2, b1, b2, b3⟩ := s_readsPart (d := d) m1 hB (by omega)
      have eL : rdRest tp (f + 1) s r = match rdPt tp (skp tp s + 1) r with
          | Except.error e => Except.error e
          | Except.ok q => rdRest tp f q.1 q.2 := by
        have e1 : rdLoop tp (f + 1) s r = match rdPt tp (skp tp s + 1) r with
          | Except.error e => Except.error e
          | Except.ok q => rdLoop tp f q.1 q.2 := if_pos hx
        unfold rdRest
        rw [e1]
        cases rdPt tp (skp tp s + 1) r <;> rfl
      rw [eL]
      cases hE : rdPt tp (skp tp s + 1) r with
      | error e =>
        rw [hE] at b1 b3
        refine ⟨M2, e_M_readsAll_82 ?_, ((frQ_Rd a3).trans (frQ_Rd m2)).trans b2, b3⟩
        rw [a1, zC1_some, if_pos (e59.mpr hx), a2.1.2.2, n_add1, b1, zC1_some, if_pos (by rfl)]
        rfl
      | ok q =>
        rw [hE] at b1 b3
        rw [isK_ok] at b1
        dsimp only
        have b3' : Ps tp q.1 q.2 M2 ∧ PB q.2 := b3
        obtain ⟨g1, g2, g3⟩ := rdPt_ok hB hV (by omega) hE
        obtain ⟨M', c1, c2, c3⟩ := ih q.1 q.2 M2 (by omega) b3'.1 g3 g2
        refine ⟨M', e_M_readsAll_82 ?_, (((frQ_Rd a3).trans (frQ_Rd m2)).trans b2).trans c2, c3⟩
        rw [a1, zC1_some, if_pos (e59.mpr hx), a2.1.2.2, n_add1, b1, zC1_some, if_neg (by decide)]
        exact c1
    · have e1 : rdLoop tp (f + 1) s r = .ok (skp tp s, r) := if_neg hx
      have eL : rdRest tp (f + 1) s r = rdEnd tp (skp tp s) r := by unfold rdRest; rw [e1]
      rw [eL]
      obtain ⟨M2, b1, b2, b3⟩ := s_nextByte (d := d + 7) a2
      rw [skp_skp hs] at b1 b2
      have f2 := (frQ_Rd a3).trans (frQ_Rd b3)
      unfold rdEnd
      rw [skp_skp hs]
      have n59 : ¬ bI tp (skp tp s) = nI 59 := fun z => hx (e59.mp z)
      by_cases x1 : skp tp s < tp.length
      · rw [if_pos x1]
        refine ⟨zpi M2 866 37 (nI (8 * skp tp s + 1)), e_M_readsAll_82 ?_, f2.pi (Or.inl ⟨rfl, by omega, by omega⟩), by show _ = _; rw [m_pi, if_pos ⟨rfl, rfl⟩]⟩
        rw [a1, zC1_some, if_neg n59, b1, zC1_some, if_neg (fun z => (bI_m1 b2.1.1).mp z x1), b2.1.2.2, s_fails (d := d + 8), zC1_some, if_pos (Or.inl rfl)]
        rfl
      · rw [if_neg x1]
        have hop := opnR_le hV
        by_cases x2 : 16 < opnR r
        · rw [if_pos x2]
          refine ⟨zpi M2 866 37 (nI (8 * tp.length + 4)), e_M_readsAll_82 ?_, f2.pi (Or.inl ⟨rfl, by omega, by omega⟩), by show _ = _; rw [m_pi, if_pos ⟨rfl, rfl⟩]⟩
          rw [a1, zC1_some, if_neg n59, b1, zC1_some, if_pos ((bI_m1 b2.1.1).mpr x1), s_openRead (d := d + 8) b2.2 hV, zC1_some, if_pos ((n_lt (by omega) (by omega)).mpr x2), b2.1.1.1.1, s_fails (d := d + 8), zC1_some, if_pos rfl]
          rfl
        · rw [if_neg x2]
          refine ⟨M2, e_M_readsAll_82 ?_, f2, ⟨skp tp s, b2⟩⟩
          rw [a1, zC1_some, if_neg n59, b1, zC1_some, if_pos ((bI_m1 b2.1.1).mpr x1), s_openRead (d := d + 8) b2.2 hV, zC1_some, if_neg (by rw [n_lt (by omega) (by omega)]; exact x2)]
          rfl
theorem s_readsAll_2 : ∀ j i (M : ZM), i + j = 268 → TpR tp M → (∀ k, k < i → M.1 883 k = nI 0) → ∃ M1, frI pRd M M1 ∧ TpR tp M1 ∧ (∀ k, k < 268 → M1.1 883 k = nI 0) ∧ ∀ R, h_M_readsAll_2 d (nI 268) M1 = some R → h_M_readsAll_2 d (nI i) M = some R := by
  intro j
  induction j with
  | zero =>
    intro i M h hT hk
    obtain rfl : i = 268 := by omega
    exact ⟨M, fr.refl, hT, hk, fun R hR => hR⟩
  | succ j ih =>
    intro i M h hT hk
    obtain ⟨M1, a1, a2, a3, a4⟩ := ih (i + 1) (zpi M 883 i (nI 0)) (by omega) (hT.frRd fr_wr) (fun k hk2 => by
      rw [m_pi]
      by_cases e : k = i
      · rw [if_pos ⟨rfl, e⟩]
      · rw [if_neg (fun z => e z.2)]
        exact hk k (by omega))
    refine ⟨M1, fr_wr.trans a1, a2, a3, fun R hR => e_M_readsAll_2 ?_⟩
    rw [if_pos ((n_lt (by omega) (by omega)).mpr (by omega)), if_pos ((n_zin (by omega)).mpr (by omega)), n_clamp (by omega), n_add1]
    exact a4 R hR
theorem s_readsAll (hT : TpR tp M) : ∃ M', zEv (d + 10) zmM_readsAll [.ref 866] M = some (some (.int (nB (isK (rdAll tp)))), M') ∧ frI pRd M M' ∧ PE (fun r' => ∃ s', Ps tp s' r' M') M' (rdAll tp) := by
  have hl := hT.1.2
  have hle0 := skp_le (Nat.zero_le tp.length)
  have wl := wd_l9
  obtain ⟨M0, z1, z2, z3, z4⟩ := s_readsAll_2 (d := d + 9) (tp := tp) 268 0 M (by omega) hT (fun k hk => absurd hk (Nat.not_lt_zero k))
  have f0 : frI pRd M (zpi M0 866 36 (nI 0)) := z1.pi (Or.inl ⟨rfl, by omega, by omega⟩)
  have P0 : Ps tp 0 zR (zpi M0 866 36 (nI 0)) := ⟨⟨hT.frRd f0, Nat.zero_le _, by rw [m_pi, if_pos ⟨rfl, rfl⟩]⟩, fun k hk => by rw [m_pi, if_neg (by omega)]; exact z3 k hk⟩
  obtain ⟨M1, a1, a2, a3⟩ := s_mustWord (d := d + 2) P0 (j := 9) (by omega)
  rw [wl.1] at a3
  have fin : ∀ {R : ZR}, (zC1 (zEv (d + 9) zmM_mustWord [.ref 866, .ref 10] (zpi M0 866 36 (nI 0))) (fun v5 M4 => (if v5 = (nI 0) then some (some (.int (nI 0)), M4) else zC1 (zEv (d + 9) zmM_readsTo [.ref 866, .int (nI 0), .int (nI 1), .int (nI 6)] M4) (fun v9 M8 => (if v9 = (nI 0) then some (some (.int (nI 0)), M8) else zC1 (zEv (d + 9) zmM_readsTo [.ref 866, .int (nI 1), .int (nI 1), .int (nI 6)] M8) (fun v13 M12 => (if v13 = (nI 0) then some (some (.int (nI 0)), M12) else zC1 (zEv (d + 9) zmM_mustWord [.ref 866, .ref 17] M12) (fun v17 M16 => (if v17 = (nI 0) then some (some (.int (nI 0)), M16) else zC1 (zEv (d + 9) zmM_readsTo [.ref 866, .int (nI 2), .int (nI 2), .int (nI 7)] M16) (fun v21 M20 => (if v21 = (nI 0) then some (some (.int (nI 0)), M20) else h_M_readsAll_82 (d + 9)  M20))))))))))) = some R → zEv (d + 10) zmM_readsAll [.ref 866] M = some R := fun h => e_M_readsAll (z4 _ (e_M_readsAll_2 (by rw [if_neg (by decide)]; exact h)))
  unfold rdAll
  cases e9 : isW tp 0 (wd 9) with
  | false =>
    rw [e9] at a1
    rw [e9, if_neg (by simp)] at a3
    rw [if_neg (by simp)]
    refine ⟨M1, fin ?_, f0.trans (frQ_Rd a2), a3⟩
    rw [a1, zC1_some, if_pos (by rfl)]
    rfl
  | true =>
    rw [e9] at a1
    rw [e9, if_pos rfl] at a3
    rw [if_pos rfl]
    have a3' : Ps tp (skp tp 0 + 5) zR M1 := a3
    obtain ⟨M2, b1, b2, b3⟩ := s_readsTo (d := d + 5) a3' (i := 0) (lo := 1) (hi := 6) (by omega) (by omega) (by omega)
    cases h0 : rdN tp (skp tp 0 + 5) 1 6 with
    | error e =>
      rw [h0] at b1 b3
      refine ⟨M2, fin ?_, (f0.trans (frQ_Rd a2)).trans b2, b3⟩
      rw [a1, zC1_some, if_neg (by decide), b1, zC1_some, if_pos (by rfl)]
      rfl
    | ok q0 =>
      rw [h0] at b1 b3
      rw [isK_ok] at b1
      dsimp only
      have b3' : Ps tp q0.2 (upN zR 0 q0.1) M2 := b3
      obtain ⟨k1, k2⟩ := rdN_ok a3'.1.2.1 h0
      obtain ⟨M3, c1, c2, c3⟩ := s_readsTo (d := d + 5) b3' (i := 1) (lo := 1) (hi := 6) (by omega) (by omega) (by omega)
      cases h1 : rdN tp q0.2 1 6 with
      | error e =>
        rw [h1] at c1 c3
        refine ⟨M3, fin ?_, ((f0.trans (frQ_Rd a2)).trans b2).trans c2, c3⟩
        rw [a1, zC1_some, if_neg (by decide), b1, zC1_some, if_neg (by decide), c1, zC1_some, if_pos (by rfl)]
        rfl
      | ok q1 =>
        rw [h1] at c1 c3
        rw [isK_ok] at c1
        dsimp only
        have c3' : Ps tp q1.2 (upN (upN zR 0 q0.1) 1 q1.1) M3 := c3
        obtain ⟨l1, l2⟩ := rdN_ok k2.2 h1
        obtain ⟨M4, p1, p2, p3⟩ := s_mustWord (d := d + 2) c3' (j := 16) (by omega)
        rw [wl.2] at p3
        cases e16 : isW tp q1.2 (wd 16) with
        | false =>
          rw [e16] at p1
          rw [e16, if_neg (by simp)] at p3
          rw [if_neg (by simp)]
          refine ⟨M4, fin ?_, (((f0.trans (frQ_Rd a2)).trans b2).trans c2).trans (frQ_Rd p2), p3⟩
          rw [a1, zC1_some, if_neg (by decide), b1, zC1_some, if_neg (by decide), c1, zC1_some, if_neg (by decide), p1, zC1_some, if_pos (by rfl)]
          rfl
        | true =>
          rw [e16] at p1
          rw [e16, if_pos rfl] at p3
          rw [if_pos rfl]
          have p3' : Ps tp (skp tp q1.2 + 3) (upN (upN zR 0 q0.1) 1 q1.1) M4 := p3
          obtain ⟨M5, q1', q2', q3'⟩ := s_readsTo (d := d + 5) p3' (i := 2) (lo := 2) (hi := 7) (by omega) (by omega) (by omega)
          cases h2 : rdN tp (skp tp q1.2 + 3) 2 7 with
          | error e =>
            rw [h2] at q1' q3'
            refine ⟨M5, fin ?_, ((((f0.trans (frQ_Rd a2)).trans b2).trans c2).trans (frQ_Rd p2)).trans q2', q3'⟩
            rw [a1, zC1_some, if_neg (by decide), b1, zC1_some, if_neg (by decide), c1, zC1_some, if_neg (by decide), p1, zC1_some, if_neg (by decide), q1', zC1_some, if_pos (by rfl)]
            rfl
          | ok q2 =>
            rw [h2] at q1' q3'
            rw [isK_ok] at q1'
            dsimp only
            obtain ⟨m1, m2⟩ := rdN_ok p3'.1.2.1 h2
            have q3'' : Ps tp q2.2 (sidR q0.1 q1.1 q2.1) M5 := q3'
            obtain ⟨M', g1, g2, g3⟩ := s_readsAll_82 (d := d) (tp := tp) 401 q2.2 (sidR q0.1 q1.1 q2.1) M5 (by omega) q3'' (sidR_b k1.2 l1.2 m1.2) (sidR_v k1 l1 m1)
            refine ⟨M', fin ?_, (((((f0.trans (frQ_Rd a2)).trans b2).trans c2).trans (frQ_Rd p2)).trans q2').trans g2, g3⟩
            rw [a1, zC1_some, if_neg (by decide), b1, zC1_some, if_neg (by decide), c1, zC1_some, if_neg (by decide), p1, zC1_some, if_neg (by decide), q1', zC1_some, if_neg (by decide)]
            exact g1
end MX
