/-! THE CLASS, 16: tell -/
section QQ
variable {d : Nat} {M : ZM} {tp : List Nat} {s e : Nat} {r : Nat → Nat}
theorem q_readPart (hC : CK tp s r M) (hV : PV r) (hB : PB r) (h0 : 0 < s) : ∃ M', zEv (d + 9) zmT_readPart [.ref 65] M = some (none, M') ∧ fr pTB (pBd 67) M M' ∧ CPt tp M' (rdPt tp s r) := by
  have hs := hC.1.2
  have hl := hC.1.1.1.2
  have h36 := hV.n36
  have h12 := hV.1.2.2.2
  have hle := skp_le hs
  have wl := wd_l4
  obtain ⟨M0, z1, z2, z3⟩ := q_skip (d := d + 7) hC.1.1 hs hC.2.1.1
  have k0 : CK tp (skp tp s) r M0 := hC.frT h12 h36 (fr_a3 z3) hle.2 z2 (z3.1 65 4 (by omega))
  have f0 : fr pTB (pBd 67) M M0 := fr5_B (frT_5 (fr_a3 z3))
  unfold rdPt
  obtain ⟨M1, a1, a2, a3⟩ := q_takeWord_k (d := d + 3) k0 h12 h36 (j := 8) (by omega)
  rw [isW_skp hs] at a1
  have f1 : fr pTB (pBd 67) M M1 := f0.trans (fr5_B (frT_5 a2))
  have t8 : ∀ {j}, isW tp s (wd j) = true → tkW tp (skp tp s) (wd j) = skp tp s + (wd j).length := fun h => by rw [tkW_t (by rw [isW_skp hs]; exact h), skp_skp hs]
  have t9 : ∀ {j}, isW tp s (wd j) = false → tkW tp (skp tp s) (wd j) = skp tp s := fun h => by rw [tkW_f (by rw [isW_skp hs]; exact h), skp_skp hs]
  cases e8 : isW tp s (wd 8) with
  | true =>
    rw [e8] at a1
    rw [t8 e8, wl.2.1] at a3
    rw [if_pos rfl]
    obtain ⟨M', b1, b2, b3⟩ := q_readBlocks (d := d + 3) a3 hV hB (by omega)
    refine ⟨M', e_T_readPart ?_, f1.trans b2, b3⟩
    rw [z1, zC0_some, a1, zC1_some, if_neg (by decide), b1, zC0_some]
  | false =>
    rw [e8] at a1
    rw [t9 e8] at a3
    rw [if_neg (by simp)]
    obtain ⟨M2, b1, b2, b3⟩ := q_takeWord_k (d := d + 3) a3 h12 h36 (j := 12) (by omega)
    rw [isW_skp hs] at b1
    have f2 : fr pTB (pBd 67) M M2 := f1.trans (fr5_B (frT_5 b2))
    cases e12 : isW tp s (wd 12) with
    | true =>
      rw [e12] at b1
      rw [t8 e12, wl.2.2.2.2] at b3
      rw [isW_ne (j' := 10) (by omega) (by omega) (by omega) (by omega) (by omega) e12, isW_ne (j' := 5) (by omega) (by omega) (by omega) (by omega) (by omega) e12, isW_ne (j' := 11) (by omega) (by omega) (by omega) (by omega) (by omega) e12, if_neg (by simp), if_neg (by simp), if_neg (by simp), if_pos rfl]
      obtain ⟨M', c1, c2, c3⟩ := q_readGiven (d := d + 3) b3 hV hB
      refine ⟨M', e_T_readPart ?_, f2.trans c2, c3⟩
      rw [z1, zC0_some, a1, zC1_some, if_pos (show nB false = nI 0 from rfl), b1, zC1_some, if_neg (by decide), c1, zC0_some]
    | false =>
      rw [e12] at b1
      rw [t9 e12] at b3
      obtain ⟨M3, c1, c2, c3⟩ := q_takeWord_k (d := d + 3) b3 h12 h36 (j := 10) (by omega)
      rw [isW_skp hs] at c1
      have f3 : fr pTB (pBd 67) M M3 := f2.trans (fr5_B (frT_5 c2))
      cases e10 : isW tp s (wd 10) with
      | true =>
        rw [e10] at c1
        rw [t8 e10, wl.1] at c3
        rw [if_pos rfl]
        obtain ⟨hr1, hr2⟩ := q_hasRoom (d := d + 6) c3 hV (p := skp tp s) (by omega)
        by_cases h3 : r 3 = 12
        · obtain ⟨M', p1, p2, p3⟩ := hr2 h3
          have eP : rdCg tp (skp tp s) r = .error (8 * skp tp s + 3) := if_pos h3
          rw [eP]
          refine ⟨M', e_T_readPart ?_, f3.trans (fr5_B (frT_5 p2)), p3⟩
          rw [z1, zC0_some, a1, zC1_some, if_pos (show nB false = nI 0 from rfl), b1, zC1_some, if_pos (show nB false = nI 0 from rfl), c1, zC1_some, if_neg (by decide), z2, p1, zC1_some, if_pos rfl]
        · obtain ⟨M', p1, p2, p3⟩ := q_readCage (d := d + 1) c3 hV hB (by omega)
          refine ⟨M', e_T_readPart ?_, f3.trans p2, p3⟩
          rw [z1, zC0_some, a1, zC1_some, if_pos (show nB false = nI 0 from rfl), b1, zC1_some, if_pos (show nB false = nI 0 from rfl), c1, zC1_some, if_neg (by decide), z2, hr1 (by omega), zC1_some, if_neg (by decide), p1, zC0_some]
      | false =>
        rw [e10] at c1
        rw [t9 e10] at c3
        rw [if_neg (by simp)]
        obtain ⟨M4, p1, p2, p3⟩ := q_takeWord_k (d := d + 3) c3 h12 h36 (j := 5) (by omega)
        rw [isW_skp hs] at p1
        have f4 : fr pTB (pBd 67) M M4 := f3.trans (fr5_B (frT_5 p2))
        cases e5 : isW tp s (wd 5) with
        | true =>
          rw [e5] at p1
          rw [t8 e5, wl.2.2.1] at p3
          rw [if_pos rfl]
          obtain ⟨hr1, hr2⟩ := q_hasRoom (d := d + 6) p3 hV (p := skp tp s) (by omega)
          by_cases h3 : r 3 = 12
          · obtain ⟨M', q1, q2, q3⟩ := hr2 h3
            have eP : rdLn tp (skp tp s) r false 6 = .error (8 * skp tp s + 3) := if_pos h3
            rw [eP]
            refine ⟨M', e_T_readPart ?_, f4.trans (fr5_B (frT_5 q2)), q3⟩
            rw [z1, zC0_some, a1, zC1_some, if_pos (show nB false = nI 0 from rfl), b1, zC1_some, if_pos (show nB false = nI 0 from rfl), c1, zC1_some, if_pos (show nB false = nI 0 from rfl), p1, zC1_some, if_neg (by decide), z2, q1, zC1_some, if_pos rfl]
          · obtain ⟨M', q1, q2, q3⟩ := q_readLine (d := d + 1) false (s := skp tp s) (len := 6) p3 hV hB (by omega)
            refine ⟨M', e_T_readPart ?_, f4.trans q2, q3⟩
            rw [z1, zC0_some, a1, zC1_some, if_pos (show nB false = nI 0 from rfl), b1, zC1_some, if_pos (show nB false = nI 0 from rfl), c1, zC1_some, if_pos (show nB false = nI 0 from rfl), p1, zC1_some, if_neg (by decide), z2, hr1 (by omega), zC1_some, if_neg (by decide), show nI 0 = nB false from rfl, q1, zC0_some]
        | false =>
          rw [e5] at p1
          rw [t9 e5] at p3
          rw [if_neg (by simp)]
          obtain ⟨M5, q1, q2, q3⟩ := q_takeWord_k (d := d + 3) p3 h12 h36 (j := 11) (by omega)
          rw [isW_skp hs] at q1
          have f5 : fr pTB (pBd 67) M M5 := f4.trans (fr5_B (frT_5 q2))
          cases e11 : isW tp s (wd 11) with
          | true =>
            rw [e11] at q1
            rw [t8 e11, wl.2.2.2.1] at q3
            rw [if_pos rfl]
            obtain ⟨hr1, hr2⟩ := q_hasRoom (d := d + 6) q3 hV (p := skp tp s) (by omega)
            by_cases h3 : r 3 = 12
            · obtain ⟨M', k1, k2, k3⟩ := hr2 h3
              have eP : rdLn tp (skp tp s) r true 4 = .error (8 * skp tp s + 3) := if_pos h3
              rw [eP]
              refine ⟨M', e_T_readPart ?_, f5.trans (fr5_B (frT_5 k2)), k3⟩
              rw [z1, zC0_some, a1, zC1_some, if_pos (show nB false = nI 0 from rfl), b1, zC1_some, if_pos (show nB false = nI 0 from rfl), c1, zC1_some, if_pos (show nB false = nI 0 from rfl), p1, zC1_some, if_pos (show nB false = nI 0 from rfl), q1, zC1_some, if_neg (by decide), z2, k1, zC1_some, if_pos rfl]
            · obtain ⟨M', k1, k2, k3⟩ := q_readLine (d := d + 1) true (s := skp tp s) (len := 4) q3 hV hB (by omega)
              refine ⟨M', e_T_readPart ?_, f5.trans k2, k3⟩
              rw [z1, zC0_some, a1, zC1_some, if_pos (show nB false = nI 0 from rfl), b1, zC1_some, if_pos (show nB false = nI 0 from rfl), c1, zC1_some, if_pos (show nB false = nI 0 from rfl), p1, zC1_some, if_pos (show nB false = nI 0 from rfl), q1, zC1_some, if_neg (by decide), z2, hr1 (by omega), zC1_some, if_neg (by decide), show nI 1 = nB true from rfl, k1, zC0_some]
          | false =>
            rw [e11] at q1
            rw [t9 e11] at q3
            rw [if_neg (by simp), if_neg (by simp)]
            obtain ⟨M', k1, k2, k3⟩ := q_fail_k (d := d + 7) q3 (p := skp tp s) (k := 1) (by omega) (by omega)
            refine ⟨M', e_T_readPart ?_, f5.trans (fr5_B (frT_5 k3)), k2⟩
            rw [z1, zC0_some, a1, zC1_some, if_pos (show nB false = nI 0 from rfl), b1, zC1_some, if_pos (show nB false = nI 0 from rfl), c1, zC1_some, if_pos (show nB false = nI 0 from rfl), p1, zC1_some, if_pos (show nB false = nI 0 from rfl), q1, zC1_some, if_pos (show nB false = nI 0 from rfl), z2, k1, zC0_some]
theorem q_rb_84f (h : CF tp e M) : h_T_readBoard_84 d M = some (some (.int (nI e)), M) := by
  refine e_T_readBoard_84 ?_
  rw [h.2.1, if_neg (n_nem1 (by have := h.2.2; omega))]
theorem opn_eq {r : Nat → Nat} (hV : PV r) : ((List.range 36).filter (isO r)).length = opnR r := by
  have h36 := hV.n36
  unfold opnR
  rw [show (36 : Nat) = r 0 * r 1 + (36 - r 0 * r 1) by omega, List.range_add, List.filter_append, List.length_append]
  have e1 : (List.range (r 0 * r 1)).filter (isO r) = (List.range (r 0 * r 1)).filter fun c => decide (r (4 + c) = 0) := List.filter_congr fun x hx => by
    have := List.mem_range.mp hx
    unfold isO
    rw [decide_eq_true this, Bool.true_and]
  have e2 : ((List.range (36 - r 0 * r 1)).map (r 0 * r 1 + ·)).filter (isO r) = [] := List.filter_eq_nil_iff.mpr fun x hx => by
    obtain ⟨y, _, rfl⟩ := List.mem_map.mp hx
    unfold isO
    rw [decide_eq_false (by omega)]
    simp
  rw [e1, e2]
  rfl
def CEnd (tp : List Nat) (M' : ZM) : Except Nat (Nat → Nat) → Prop
  | .ok r => BRep (mkR r) 67 M' ∧ CTp tp M'
  | .error e => CTp tp M' ∧ e < 1000000
def ansE : Except Nat (Nat → Nat) → Int32
  | .ok _ => -1
  | .error e => nI e
theorem q_rb_84 (hC : CK tp s r M) (hV : PV r) : ∃ M', h_T_readBoard_84 (d + 1) M = some (some (.int (ansE (if 16 < opnR r then .error (8 * tp.length + 4) else .ok r))), M') ∧ fr pTB (pBd 67) M M' ∧ CEnd tp M' (if 16 < opnR r then .error (8 * tp.length + 4) else .ok r) := by
  have hl := hC.1.1.1.2
  have hm := msk36 (isO (mkR r))
  have hop := opnR_le hV
  have e4 : M.2 67 4 = nJ (oM (mkR r)) := hC.2.2.2.1.1.1
  have hbc : zEv (d + 1) zmJL_bitCount [.long (M.2 67 4)] M = some (some (.int (nI (opnR r))), M) := by
    rw [e4, q_bitL (by unfold oM; omega)]
    unfold oM
    rw [cnt_msk, mkR_isO hV, opn_eq hV]
  by_cases hx : 16 < opnR r
  · rw [if_pos hx]
    obtain ⟨M', b1, b2, b3⟩ := q_fail_k (d := d) hC (p := tp.length) (k := 4) (by omega) (by omega)
    refine ⟨M', e_T_readBoard_84 ?_, fr5_B (frT_5 b3), b2.1.1, b2.2.2⟩
    rw [hC.2.1.2, if_pos rfl, hbc, zC1_some, if_pos ((n_lt (by omega) (by omega)).mpr hx), hC.1.1.1.1, b1, zC0_some, b2.2.1]
    rfl
  · rw [if_neg hx]
    refine ⟨M, e_T_readBoard_84 ?_, fr.refl, hC.2.2, hC.1.1⟩
    rw [hC.2.1.2, if_pos rfl, hbc, zC1_some, if_neg (by rw [n_lt (by omega) (by omega)]; exact hx), hC.2.1.2]
    rfl
theorem rest_stop {f : Nat} (hs : s ≤ tp.length) (hf : 0 < f) (h1 : skp tp s < tp.length) (h2 : tq tp (skp tp s) ≠ 59) : rdRest tp f s r = .error (8 * skp tp s + 1) := by
  obtain ⟨f', rfl⟩ : ∃ f', f = f' + 1 := ⟨f - 1, by omega⟩
  have e1 : rdLoop tp (f' + 1) s r = .ok (skp tp s, r) := if_neg (fun z => h2 z.2)
  unfold rdRest
  rw [e1]
  show rdEnd tp (skp tp s) r = _
  unfold rdEnd
  rw [skp_skp hs, if_pos h1]
theorem q_rb_16 : ∀ f i s r (M : ZM), i + f = 401 → tp.length < s + f → CK tp s r M → PV r → PB r → ∃ M', h_T_readBoard_16 (d + 9) (nI i) M = some (some (.int (ansE (rdRest tp f s r))), M') ∧ fr pTB (pBd 67) M M' ∧ CEnd tp M' (rdRest tp f s r) := by
  intro f
  induction f with
  | zero => intro i s r M h hn hC; have := hC.1.2; omega
  | succ f ih =>
    intro i s r M h hn hC hV hB
    have hs := hC.1.2
    have hl := hC.1.1.1.2
    have hle := skp_le hs
    obtain ⟨M1, a1, a2, a3⟩ := q_isEnd (d := d + 7) hC.1.1 hs hC.2.1.1
    have k1 : CK tp (skp tp s) r M1 := hC.frT hV.1.2.2.2 hV.n36 (fr_a3 a3) hle.2 a2 (a3.1 65 4 (by omega))
    have f1 : fr pTB (pBd 67) M M1 := fr5_B (frT_5 (fr_a3 a3))
    by_cases hx1 : skp tp s < tp.length
    · obtain ⟨hby, h256⟩ := k1.1.1.2 _ hx1
      have hi : i < 400 := by omega
      by_cases h59 : tq tp (skp tp s) = 59
      · have f2 : frI pTc M1 (zpi M1 65 3 (nI (skp tp s + 1))) := fr.refl.pi ⟨rfl, by omega⟩
        have k2 : CK tp (skp tp s + 1) r (zpi M1 65 3 (nI (skp tp s + 1))) := k1.frT hV.1.2.2.2 hV.n36 f2 (by omega) (by rw [m_pi, if_pos ⟨rfl, rfl⟩]) (by rw [m_pi, if_neg (by omega)])
        obtain ⟨M3, b1, b2, b3⟩ := q_readPart (d := d) k2 hV hB (by omega)
        have f3 : fr pTB (pBd 67) M M3 := (f1.trans (fr5_B (frT_5 f2))).trans b2
        have go : ∀ {R : ZR}, h_T_readBoard_16 (d + 9) (nI (i + 1)) M3 = some R → h_T_readBoard_16 (d + 9) (nI i) M = some R := fun hR => e_T_readBoard_16 (by
          rw [if_pos ((n_lt (by omega) (by omega)).mpr hi), hC.2.1.2, if_pos rfl, a1, zC1_some, decide_eq_true hx1, if_pos (by rfl), a2, if_pos ((n_zin (by omega)).mpr (by omega)), n_clamp (by omega), hby, h59, if_pos rfl, n_add1, b1, zC0_some, n_add1]
          exact hR)
        have eL : rdRest tp (f + 1) s r = match rdPt tp (skp tp s + 1) r with
            | Except.error e => Except.error e
            | Except.ok q => rdRest tp f q.1 q.2 := by
          have e1 : rdLoop tp (f + 1) s r = match rdPt tp (skp tp s + 1) r with
            | Except.error e => Except.error e
            | Except.ok q => rdLoop tp f q.1 q.2 := if_pos ⟨hx1, h59⟩
          unfold rdRest
          rw [e1]
          cases rdPt tp (skp tp s + 1) r <;> rfl
        have failG : ∀ {e : Nat}, CF tp e M3 → h_T_readBoard_16 (d + 9) (nI (i + 1)) M3 = some (some (.int (nI e)), M3) := fun {e} hF => by
          refine e_T_readBoard_16 ?_
          by_cases hi2 : i + 1 < 400
          · rw [if_pos ((n_lt (by omega) (by omega)).mpr hi2), hF.2.1, if_neg (n_nem1 (by have := hF.2.2; omega))]
            exact q_rb_84f hF
          · rw [if_neg (by rw [n_lt (by omega) (by omega)]; exact hi2)]
            exact q_rb_84f hF
        rw [eL]
        cases hE : rdPt tp (skp tp s + 1) r with
        | error e1 =>
          rw [hE] at b3
          have b3' : CF tp e1 M3 := b3
          exact ⟨M3, go (failG b3'), f3, b3'.1.1, b3'.2.2⟩
        | ok q =>
          rw [hE] at b3
          dsimp only
          obtain ⟨g1, g2, g3⟩ := rdPt_ok hB hV (by omega) hE
          have b3' : CK tp q.1 q.2 M3 ∨ (CF tp (8 * skp tp q.1 + 1) M3 ∧ skp tp q.1 < tp.length ∧ tq tp (skp tp q.1) ≠ 59) := b3
          rcases b3' with b | ⟨b, hb1, hb2⟩
          · obtain ⟨M', c1, c2, c3⟩ := ih (i + 1) q.1 q.2 M3 (by omega) (by omega) b g2 g3
            exact ⟨M', go c1, f3.trans c2, c3⟩
          · have hlq := skp_le g1.2
            rw [rest_stop g1.2 (by omega) hb1 hb2]
            exact ⟨M3, go (failG b), f3, b.1.1, b.2.2⟩
      · rw [rest_stop hs (by omega) hx1 h59]
        obtain ⟨M3, b1, b2, b3⟩ := q_fail_k (d := d + 8) k1 (p := skp tp s) (k := 1) (by omega) (by omega)
        refine ⟨M3, e_T_readBoard_16 ?_, f1.trans (fr5_B (frT_5 b3)), b2.1.1, b2.2.2⟩
        rw [if_pos ((n_lt (by omega) (by omega)).mpr hi), hC.2.1.2, if_pos rfl, a1, zC1_some, decide_eq_true hx1, if_pos (by rfl), a2, if_pos ((n_zin (by omega)).mpr (by omega)), n_clamp (by omega), hby, if_neg (by rw [n_eq (by omega) (by omega)]; exact h59), b1, zC0_some, n_add1]
        refine e_T_readBoard_16 ?_
        by_cases hi2 : i + 1 < 400
        · rw [if_pos ((n_lt (by omega) (by omega)).mpr hi2), b2.2.1, if_neg (n_nem1 (by have := b2.2.2; omega))]
          exact q_rb_84f b2
        · rw [if_neg (by rw [n_lt (by omega) (by omega)]; exact hi2)]
          exact q_rb_84f b2
    · have e1 : rdLoop tp (f + 1) s r = .ok (skp tp s, r) := if_neg (fun z => hx1 z.1)
      have eL : rdRest tp (f + 1) s r = if 16 < opnR r then .error (8 * tp.length + 4) else .ok r := by
        unfold rdRest
        rw [e1]
        show rdEnd tp (skp tp s) r = _
        unfold rdEnd
        rw [skp_skp hs, if_neg hx1]
      rw [eL]
      obtain ⟨M', b1, b2, b3⟩ := q_rb_84 (d := d + 8) k1 hV
      by_cases hi : i < 400
      · refine ⟨M', e_T_readBoard_16 ?_, f1.trans b2, b3⟩
        rw [if_pos ((n_lt (by omega) (by omega)).mpr hi), hC.2.1.2, if_pos rfl, a1, zC1_some, decide_eq_false hx1, if_neg (by decide)]
        exact b1
      · obtain ⟨M'', c1, c2, c3⟩ := q_rb_84 (d := d + 8) hC hV
        refine ⟨M'', e_T_readBoard_16 ?_, c2, c3⟩
        rw [if_neg (by rw [n_lt (by omega) (by omega)]; exact hi)]
        exact c1
end QQ
