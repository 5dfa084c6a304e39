/-! THE CLASS, 13: blocks and digits given are read -/
theorem rdC_blk {tp : List Nat} {s : Nat} {r : Nat → Nat} : rdC tp s r true = match rdC tp s r false with
    | Except.error e => Except.error e
    | Except.ok q => if r (76 + q.1) ≠ 0 ∨ inK r q.1 = true then Except.error (8 * q.2.1 + 2) else Except.ok q := by
  unfold rdC
  by_cases h1 : inB tp (skp tp s) 97 (96 + r 0) = true
  · rw [if_pos h1, if_pos h1]
    by_cases h2 : inB tp (skp tp s + 1) 48 57 = true
    · rw [if_pos h2, if_pos h2]
      cases hE : rdD tp (skp tp s + 1) 1 (r 1) with
      | error e => rfl
      | ok q =>
        dsimp only
        by_cases x4 : r (4 + celN tp s r q.1) = 1
        · rw [if_pos (Or.inl x4), if_pos (Or.inl x4)]
        · rw [if_neg (show ¬ (r (4 + celN tp s r q.1) = 1 ∨ false = true ∧ (r (76 + celN tp s r q.1) ≠ 0 ∨ inK r (celN tp s r q.1) = true)) from fun z => by rcases z with z | z; exact x4 z; cases z.1)]
          dsimp only
          by_cases x7 : r (76 + celN tp s r q.1) ≠ 0 ∨ inK r (celN tp s r q.1) = true
          · rw [if_pos (Or.inr ⟨rfl, x7⟩), if_pos x7]
          · rw [if_neg (fun z => by rcases z with z | z; exact x4 z; exact x7 z.2), if_neg x7]
    · rw [if_neg h2, if_neg h2]
  · rw [if_neg h1, if_neg h1]
section QN
variable {d : Nat} {M : ZM} {tp : List Nat} {s e : Nat} {r : Nat → Nat}
theorem fr5_B {M M' : ZM} (h : frI pT5 M M') : fr pTB (pBd 67) M M' := frD_B (fr5_D h)
theorem CK.bd {r' : Nat → Nat} {M M' : ZM} (h : CK tp s r M) (hf : fr (pBd 67) (pBd 67) M M') (hB : BRep (mkR r') 67 M') : CK tp s r' M' :=
  ⟨⟨h.1.1.fr hf (fun a k z => by unfold pBd at z; omega), h.1.2⟩, ⟨(hf.1 65 3 (fun z => by unfold pBd at z; omega)).trans h.2.1.1, (hf.1 65 4 (fun z => by unfold pBd at z; omega)).trans h.2.1.2⟩, hB⟩
theorem col_let {k w : Nat} (hw : w ≤ 6) (h : inB tp k 97 122 = false) : inB tp k 97 (96 + w) = false := by
  cases hc : inB tp k 97 (96 + w) with
  | false => rfl
  | true =>
    obtain ⟨a, b, c⟩ := inB_lt hc
    unfold inB at h
    rw [decide_eq_true a, decide_eq_true b, decide_eq_true (by omega)] at h
    cases h
theorem q_blocks_f (h : CF tp e M) {x1 v : Int32} : h_T_readBlocks_61 (d + 1) x1 v M = some (none, M) := by
  refine e_T_readBlocks_61 ?_
  rw [h.2.1, if_neg (n_nem1 (by have := h.2.2; omega)), q_isPartEnd_f (d := d) h, zC1_some, if_neg (by decide)]
theorem rdC_false_of {tp : List Nat} {s : Nat} {r : Nat → Nat} (h : inB tp (skp tp s) 97 (96 + r 0) = false) : rdC tp s r false = .error (8 * skp tp s + 1) := by
  unfold rdC
  rw [if_neg (by rw [h]; simp)]
theorem q_readBlocks_2 : ∀ f i s r (M : ZM), i + f = 400 → tp.length < s + f → CK tp s r M → PV r → PB r → ∃ M', h_T_readBlocks_2 (d + 4) (nI i) M = some (none, M') ∧ fr pTB (pBd 67) M M' ∧ CPt tp M' (rdBl tp f s r) := by
  intro f
  induction f with
  | zero => intro i s r M h hn hC; have := hC.1.2; omega
  | succ f ih =>
    intro i s r M h hn hC hV hB
    have hs := hC.1.2
    have hl := hC.1.1.1.2
    have h36 := hV.n36
    have hW := pv_wk hV
    obtain ⟨v, M1, a1, a2, a3, a4⟩ := q_readOpenCell (d := d) hC hV hB
    have eU : rdBl tp (f + 1) s r = match rdC tp s r true with
        | Except.error e => Except.error e
        | Except.ok q => if inB tp (skp tp q.2.2) 97 122 = true then rdBl tp f (skp tp q.2.2) (upN r (4 + q.1) 1) else Except.ok (skp tp q.2.2, upN r (4 + q.1) 1) := rfl
    rw [eU, rdC_blk]
    have pre : ∀ {R : ZR}, (if (M1.1 65 4) = (-1 : Int32) then zC1 (zEv (d + 4) zmB_cagesOf [.ref 67, .int v] M1) (fun v9 M8 => (if v9 = (nI 0) then zC1 (zEv (d + 4) zmB_isGiven [.ref 67, .int v] M8) (fun v13 M12 => (if v13 = (nI 0) then h_T_readBlocks_61 (d + 4) (nI i) v M12 else zC0 (zEv (d + 4) zmT_fail [.ref 65, .int (M12.1 65 5), .int (nI 2)] M12) (fun M16 => h_T_readBlocks_61 (d + 4) (nI i) v M16))) else zC0 (zEv (d + 4) zmT_fail [.ref 65, .int (M8.1 65 5), .int (nI 2)] M8) (fun M18 => h_T_readBlocks_61 (d + 4) (nI i) v M18))) else h_T_readBlocks_61 (d + 4) (nI i) v M1) = some R → h_T_readBlocks_2 (d + 4) (nI i) M = some R := fun hR => e_T_readBlocks_2 (by
      rw [if_pos ((n_lt (by omega) (by omega)).mpr (by omega)), hC.2.1.2, if_pos rfl, a1, zC1_some]
      exact hR)
    cases hE : rdC tp s r false with
    | error e1 =>
      rw [hE] at a3
      have a3' : CF tp e1 M1 := a3
      refine ⟨M1, pre ?_, fr5_B a2, a3⟩
      rw [a3'.2.1, if_neg (n_nem1 (by have := a3'.2.2; omega))]
      exact q_blocks_f (d := d + 3) a3'
    | ok q =>
      rw [hE] at a3
      have a3' : v = nI q.1 ∧ CK tp q.2.2 r M1 ∧ M1.1 65 5 = nI q.2.1 := a3
      obtain ⟨hv, k1, e5⟩ := a3'
      obtain ⟨g1, g2, g3, -⟩ := rdC_ok hB hs hE
      have hq2 : q.2.1 ≤ 1000 := by
        have : q.2.1 = skp tp s + 1 := by
          unfold rdC at hE
          split at hE
          · split at hE
            · split at hE
              · cases hE
              · split at hE
                · cases hE
                · cases hE; rfl
            · cases hE
          · cases hE
        have := skp_le hs
        omega
      have g4 := hV.2.1 q.1 g1.2
      have cN : q.1 < mkR r 0 * mkR r 1 := by rw [mkR_low h36 (by omega), mkR_low h36 (by omega)]; exact g1.1
      have hcg := q_cagesOf (d := d + 2) zk67 k1.2.2 hW cN
      have hgv := q_isGiven (d := d + 2) zk67 k1.2.2.sc hW (nI q.1)
      have eG : gI (mkR r) (nI q.1) = decide (r (76 + q.1) = 1) := by
        unfold gI
        rw [iI_n (by omega), decide_eq_true cN, n_toInt (by omega), Int.toNat_natCast, Bool.true_and, mkR_low h36 (by omega)]
      rw [eG] at hgv
      have hO : isO r q.1 = true := by
        unfold isO
        rw [decide_eq_true g1.1, decide_eq_true (by omega)]
        rfl
      have hcl : cagesM (mkR r) q.1 < 2147483648 := by
        have := msk_lt (mkR r 3) fun k => inC (mkR r) k q.1
        have h2 : 2 ^ mkR r 3 ≤ 2 ^ 12 := Nat.pow_le_pow_right (by omega) hW.1.2.2.2
        unfold cagesM
        omega
      have hik := inK_iff (c := q.1) hV
      dsimp only
      by_cases hbad : r (76 + q.1) ≠ 0 ∨ inK r q.1 = true
      · rw [if_pos hbad]
        obtain ⟨M2, b1, b2, b3⟩ := q_fail_k (d := d + 3) k1 (p := q.2.1) (k := 2) hq2 (by omega)
        refine ⟨M2, pre ?_, (fr5_B a2).trans (fr5_B (frT_5 b3)), b2⟩
        rw [k1.2.1.2, if_pos rfl, hv, hcg, zC1_some]
        by_cases hc0 : cagesM (mkR r) q.1 = 0
        · have h76 : r (76 + q.1) = 1 := by
            rcases hbad with z | z
            · omega
            · exact absurd hc0 (hik.mp z)
          rw [hc0, if_pos rfl, hgv, zC1_some, decide_eq_true h76, if_neg (by decide), e5, b1, zC0_some]
          exact q_blocks_f (d := d + 3) b2
        · rw [if_neg (by rw [n_eq hcl (by omega)]; exact hc0), e5, b1, zC0_some]
          exact q_blocks_f (d := d + 3) b2
      · rw [if_neg hbad]
        dsimp only
        have h76 : r (76 + q.1) = 0 := by
          rcases Nat.eq_zero_or_pos (r (76 + q.1)) with z | z
          · exact z
          · exact absurd (Or.inl (by omega)) hbad
        have hK : inK r q.1 = false := by
          cases hk : inK r q.1 with
          | false => rfl
          | true => exact absurd (Or.inr hk) hbad
        have hc0 : cagesM (mkR r) q.1 = 0 := by
          rcases Nat.eq_zero_or_pos (cagesM (mkR r) q.1) with z | z
          · exact z
          · have := hik.mpr (by omega)
            rw [hK] at this
            cases this
        obtain ⟨M2, b1, b2, b3⟩ := q_block (d := d + 1) zk67 k1.2.2 hV hB hO h76 hK
        have hV2 := hV.blk hB g1.1 h76 hK
        have hB2 : PB (upN r (4 + q.1) 1) := hB.up (by omega) (by omega) (fun k _ => by omega)
        have k2 : CK tp q.2.2 (upN r (4 + q.1) 1) M2 := k1.bd b3 b2
        obtain ⟨M3, c1, c2, c3⟩ := q_isPartEnd (d := d + 1) k2 hV2
        have hle := skp_le g3.2
        have f3 : fr pTB (pBd 67) M M3 := ((fr5_B a2).trans (fr67_B b3)).trans (fr5_B (frT_5 c2))
        have go : ∀ {R : ZR}, (if nB (!decide (skp tp q.2.2 < tp.length) || decide (tq tp (skp tp q.2.2) = 59)) = nI 0 then h_T_readBlocks_2 (d + 4) (nI (i + 1)) M3 else some (none, M3)) = some R → h_T_readBlocks_2 (d + 4) (nI i) M = some R := fun hR => pre (by
          rw [k1.2.1.2, if_pos rfl, hv, hcg, zC1_some, hc0, if_pos rfl, hgv, zC1_some, decide_eq_false (by omega), if_pos (show nB false = nI 0 from rfl)]
          refine e_T_readBlocks_61 ?_
          rw [k1.2.1.2, if_pos rfl, b1, zC0_some, c1, zC1_some, n_add1]
          exact hR)
        cases hL : inB tp (skp tp q.2.2) 97 122 with
        | true =>
          have bl := inB_lt hL
          rw [if_pos rfl]
          obtain ⟨M', p1, p2, p3⟩ := ih (i + 1) (skp tp q.2.2) (upN r (4 + q.1) 1) M3 (by omega) (by omega) c3 hV2 hB2
          refine ⟨M', go ?_, f3.trans p2, p3⟩
          rw [decide_eq_true bl.1, decide_eq_false (by omega), if_pos (by rfl)]
          exact p1
        | false =>
          rw [if_neg (by simp)]
          by_cases hx : skp tp q.2.2 < tp.length ∧ tq tp (skp tp q.2.2) ≠ 59
          · obtain ⟨v2, M4, p1, p2, p3, p4⟩ := q_readOpenCell (d := d) c3 hV2 hB2
            have hcol : inB tp (skp tp (skp tp q.2.2)) 97 (96 + upN r (4 + q.1) 1 0) = false := by
              rw [skp_skp g3.2, upN_ne (by omega)]
              exact col_let hV.1.1.2 hL
            rw [rdC_false_of hcol] at p3
            have p3' : CF tp (8 * skp tp (skp tp q.2.2) + 1) M4 := p3
            refine ⟨M4, go ?_, f3.trans (fr5_B p2), Or.inr ⟨p3', ?_⟩⟩
            · rw [decide_eq_true hx.1, decide_eq_false hx.2, if_pos (by rfl)]
              refine e_T_readBlocks_2 ?_
              rw [if_pos ((n_lt (by omega) (by omega)).mpr (by omega)), c3.2.1.2, if_pos rfl, p1, zC1_some, p3'.2.1, if_neg (n_nem1 (by have := p3'.2.2; omega))]
              exact q_blocks_f (d := d + 3) p3'
            · rw [skp_skp g3.2]; exact hx
          · refine ⟨M3, go ?_, f3, Or.inl c3⟩
            by_cases hx1 : skp tp q.2.2 < tp.length
            · have hx2 : tq tp (skp tp q.2.2) = 59 := by
                rcases Nat.decEq (tq tp (skp tp q.2.2)) 59 with z | z
                · exact absurd ⟨hx1, z⟩ hx
                · exact z
              rw [decide_eq_true hx1, decide_eq_true hx2, if_neg (by decide)]
            · rw [decide_eq_false hx1, if_neg (show ¬ nB (!false || decide (tq tp (skp tp q.2.2) = 59)) = nI 0 from (by decide : ¬ nB true = nI 0))]
theorem q_readBlocks (hC : CK tp s r M) (hV : PV r) (hB : PB r) (hs : 0 < s) : ∃ M', zEv (d + 5) zmT_readBlocks [.ref 65] M = some (none, M') ∧ fr pTB (pBd 67) M M' ∧ CPt tp M' (rdBl tp 400 s r) := by
  have hl := hC.1.1.1.2
  obtain ⟨M', a1, a2⟩ := q_readBlocks_2 (d := d) 400 0 s r M (by omega) (by omega) hC hV hB
  exact ⟨M', e_T_readBlocks a1, a2⟩
theorem rdC_at {blk : Bool} {q : Nat × Nat × Nat} (h : rdC tp s r blk = .ok q) : q.2.1 = skp tp s + 1 := by
  unfold rdC at h
  split at h
  · split at h
    · split at h
      · cases h
      · split at h
        · cases h
        · cases h; rfl
    · cases h
  · cases h
theorem q_given_33f (h : CF tp e M) (v : Int32) : ∃ M', h_T_readGiven_33 (d + 3) v M = some (none, M') ∧ frI pTc M M' ∧ CF tp e M' := by
  obtain ⟨w, M1, a1, a2, a3⟩ := q_readNumber_f (d := d) h (nI 1) (M.1 67 2)
  refine ⟨M1, e_T_readGiven_33 ?_, a2, a3⟩
  rw [a1, zC1_some, a3.2.1, if_neg (n_nem1 (by have := a3.2.2; omega))]
theorem giv_eq {c x : Nat} (hV : PV r) (hV' : PV (upN (upN r (40 + c) x) (76 + c) 1)) (hc : c < 36) (hO : isO r c = true) : ∀ k, k < 268 → givR (mkR r) c x k = mkR (upN (upN r (40 + c) x) (76 + c) 1) k := by
  intro k hk
  have h36 := hV.n36
  have h36' := hV'.n36
  have ne : ∀ k, k ≠ 40 + c → k ≠ 76 + c → upN (upN r (40 + c) x) (76 + c) 1 k = r k := fun k h1 h2 => by rw [upN_ne h2, upN_ne h1]
  have eO : isO (upN (upN r (40 + c) x) (76 + c) 1) = isO r := isO_cg h36 fun k hk => Or.inl (ne k (by omega) (by omega))
  unfold givR putR
  by_cases e76 : k = 76 + c
  · rw [if_pos e76, mkR_low h36' (by omega), e76, upN_at]
  · rw [if_neg e76]
    by_cases e112 : k = 112 + c
    · rw [if_pos e112, e112, mkR_at hV' hc, eO, if_pos hO, upN_at, if_pos rfl, upN_ne (by omega), upN_at]
    · rw [if_neg e112]
      by_cases e40 : k = 40 + c
      · rw [if_pos e40, mkR_low h36' (by omega), e40, upN_ne (by omega), upN_at]
      · rw [if_neg e40]
        by_cases hm : 112 ≤ k ∧ k < 148
        · obtain ⟨y, rfl⟩ : ∃ y, k = 112 + y := ⟨k - 112, by omega⟩
          rw [mkR_at hV' (by omega), mkR_at hV (by omega), eO, ne (76 + y) (by omega) (by omega), ne (40 + y) (by omega) (by omega)]
          unfold allM
          rw [ne 2 (by omega) (by omega)]
        · rw [mkR_low h36' (by omega), mkR_low h36 (by omega), ne k e40 e76]
theorem q_readGiven (hC : CK tp (s + 5) r M) (hV : PV r) (hB : PB r) : ∃ M', zEv (d + 5) zmT_readGiven [.ref 65] M = some (none, M') ∧ fr pTB (pBd 67) M M' ∧ CPt tp M' (rdGv tp s r) := by
  have hs := hC.1.2
  have hl := hC.1.1.1.2
  have h36 := hV.n36
  have hW := pv_wk hV
  have h27 := hV.1.2.2.1
  obtain ⟨v, M1, a1, a2, a3, a4⟩ := q_readOpenCell (d := d) hC hV hB
  have hok : ∀ q', rdGv tp s r = .ok q' → PV q'.2 := fun q' hq => (rdGv_ok hB hV hs hq).2.1
  unfold rdGv at hok ⊢
  cases hE : rdC tp (s + 5) r false with
  | error e1 =>
    rw [hE] at a3
    have a3' : CF tp e1 M1 := a3
    obtain ⟨M2, b1, b2, b3⟩ := q_given_33f (d := d + 1) a3' v
    refine ⟨M2, e_T_readGiven ?_, (fr5_B a2).trans (fr5_B (frT_5 b2)), b3⟩
    rw [a1, zC1_some, a3'.2.1, if_neg (n_nem1 (by have := a3'.2.2; omega))]
    exact b1
  | ok c =>
    rw [hE] at a3 hok
    have a3' : v = nI c.1 ∧ CK tp c.2.2 r M1 ∧ M1.1 65 5 = nI c.2.1 := a3
    obtain ⟨hv, k1, e5⟩ := a3'
    obtain ⟨g1, g2, g3, -⟩ := rdC_ok hB hs hE
    have hq2 := rdC_at hE
    have hsk := skp_le hs
    have g4 := hV.2.1 c.1 g1.2
    have cN : c.1 < mkR r 0 * mkR r 1 := by rw [mkR_low h36 (by omega), mkR_low h36 (by omega)]; exact g1.1
    have hgv := q_isGiven (d := d + 2) zk67 k1.2.2.sc hW (nI c.1)
    have eG : gI (mkR r) (nI c.1) = decide (r (76 + c.1) = 1) := by
      unfold gI
      rw [iI_n (by omega), decide_eq_true cN, n_toInt (by omega), Int.toNat_natCast, Bool.true_and, mkR_low h36 (by omega)]
    rw [eG] at hgv
    have hO : isO r c.1 = true := by
      unfold isO
      rw [decide_eq_true g1.1, decide_eq_true (by omega)]
      rfl
    dsimp only at hok ⊢
    by_cases e1 : r (76 + c.1) = 1
    · rw [if_pos e1]
      obtain ⟨M2, b1, b2, b3⟩ := q_fail_k (d := d + 3) k1 (p := c.2.1) (k := 2) (by omega) (by omega)
      obtain ⟨M3, c1, c2, c3⟩ := q_given_33f (d := d + 1) b2 (nI c.1)
      refine ⟨M3, e_T_readGiven ?_, ((fr5_B a2).trans (fr5_B (frT_5 b3))).trans (fr5_B (frT_5 c2)), c3⟩
      rw [a1, zC1_some, k1.2.1.2, if_pos rfl, hv, hgv, zC1_some, decide_eq_true e1, if_neg (by decide), e5, b1, zC0_some]
      exact c1
    · rw [if_neg e1] at hok ⊢
      have e672 : M1.1 67 2 = nI (r 2) := by rw [k1.2.2.1.2.1, mkR_low h36 (by omega)]
      obtain ⟨w, M2, b1, b2, b3⟩ := q_readNumber_k (d := d + 1) k1 hV.1.2.2.2 h36 (lo := 1) (hi := r 2) (by omega) (by omega)
      have go : ∀ {R : ZR}, (if (M2.1 65 4) = (-1 : Int32) then zC0 (zEv (d + 4) zmB_giveDigit [.ref 67, .int (nI c.1), .int w] M2) (fun M6 => some (none, M6)) else some (none, M2)) = some R → zEv (d + 5) zmT_readGiven [.ref 65] M = some R := fun hR => e_T_readGiven (by
        rw [a1, zC1_some, k1.2.1.2, if_pos rfl, hv, hgv, zC1_some, decide_eq_false e1, if_pos (show nB false = nI 0 from rfl)]
        refine e_T_readGiven_33 ?_
        rw [e672, b1, zC1_some]
        exact hR)
      cases hN : rdN tp c.2.2 1 (r 2) with
      | error e2 =>
        rw [hN] at b3
        have b3' : CF tp e2 M2 := b3
        refine ⟨M2, go ?_, (fr5_B a2).trans (fr5_B (frT_5 b2)), b3⟩
        rw [b3'.2.1, if_neg (n_nem1 (by have := b3'.2.2; omega))]
      | ok p =>
        rw [hN] at b3 hok
        have b3' : w = nI p.1 ∧ CK tp p.2 r M2 := b3
        obtain ⟨l1, l2⟩ := rdN_ok g3.2 hN
        have hV2 : PV (upN (upN r (40 + c.1) p.1) (76 + c.1) 1) := hok (p.2, upN (upN r (40 + c.1) p.1) (76 + c.1) 1) rfl
        have e2 : mkR r 2 = r 2 := mkR_low h36 (by omega)
        obtain ⟨M3, c1, c2, c3⟩ := q_giveDigit (d := d + 1) zk67 b3'.2.2.2 hW (c := c.1) (x := p.1) (by rw [mkR_isO hV]; exact hO) l1.1 (by rw [e2]; exact l1.2)
        have hB3 : BRep (mkR (upN (upN r (40 + c.1) p.1) (76 + c.1) 1)) 67 M3 := by
          have hlo : ∀ k, k ≠ 40 + c.1 → k ≠ 76 + c.1 → k ≠ 112 + c.1 → givR (mkR r) c.1 p.1 k = mkR r k := fun k h1 h2 h3 => by unfold givR; rw [if_neg h2]; exact putR_ne h3 h1
          refine c2.ext (by rw [hlo 3 (by omega) (by omega) (by omega)]; exact hW.1.2.2.2) (by rw [hlo 0 (by omega) (by omega) (by omega), hlo 1 (by omega) (by omega) (by omega)]; exact hW.n36) (fun k hk => ?_) (fun k hk => (giv_eq hV hV2 g1.2 hO k hk).symm)
          rw [hlo 3 (by omega) (by omega) (by omega), mkR_low h36 (by omega)] at hk
          have := (hV.2.2 k hk).2.1.2
          unfold cgN at this ⊢
          rw [hlo _ (by omega) (by omega) (by omega), mkR_low h36 (by omega)]
          exact this
        refine ⟨M3, go ?_, ((fr5_B a2).trans (fr5_B (frT_5 b2))).trans (fr67_B c3), Or.inl (b3'.2.bd c3 hB3)⟩
        rw [b3'.2.2.1.2, if_pos rfl, b3'.1, c1, zC0_some]
end QN
