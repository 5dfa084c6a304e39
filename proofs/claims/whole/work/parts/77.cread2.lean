/-! THE CLASS, 11: cells and totals read -/
def pTd : Nat → Nat → Prop := fun a k => a = 65 ∧ 3 ≤ k
def pT5 : Nat → Nat → Prop := fun a k => a = 65 ∧ 3 ≤ k ∧ k ≤ 5
theorem frT_5 {M M' : ZM} (h : frI pTc M M') : frI pT5 M M' := h.mono (fun a k z => by unfold pTc at z; unfold pT5; omega) (fun _ _ z => z)
theorem fr5_D {M M' : ZM} (h : frI pT5 M M') : frI (fun a k => a = 65 ∧ 3 ≤ k) M M' := h.mono (fun a k z => by unfold pT5 at z; omega) (fun _ _ z => z)
theorem frT_D {M M' : ZM} (h : frI pTc M M') : frI pTd M M' := h.mono (fun a k z => by unfold pTc at z; unfold pTd; omega) (fun _ _ z => z)
section QL
variable {d : Nat} {M : ZM} {tp : List Nat} {s e : Nat} {r : Nat → Nat}
theorem CK.up {k : Nat} {v : Int32} (h : CK tp s r M) (hV : PV r) (hk : 5 ≤ k) : CK tp s r (zpi M 65 k v) := by
  have f1 : frI (fun a j => a = 65 ∧ j = k) M (zpi M 65 k v) := fr.refl.pi ⟨rfl, rfl⟩
  exact ⟨⟨h.1.1.fr f1 (fun a j z => by omega), h.1.2⟩, ⟨(f1.1 65 3 (by omega)).trans h.2.1.1, (f1.1 65 4 (by omega)).trans h.2.1.2⟩, h.2.2.fr f1 (pv_wk hV).1.2.2.2 (fun a j z => by omega) (fun _ _ z => z.elim)⟩
theorem CF.up {k : Nat} {v : Int32} (h : CF tp e M) (hk : 5 ≤ k) : CF tp e (zpi M 65 k v) := by
  have f1 : frI (fun a j => a = 65 ∧ j = k) M (zpi M 65 k v) := fr.refl.pi ⟨rfl, rfl⟩
  obtain ⟨⟨hT, s, hs, ha⟩, h4⟩ := h
  exact ⟨⟨hT.fr f1 (fun a j z => by omega), s, hs, (f1.1 65 3 (by omega)).trans ha⟩, (f1.1 65 4 (by omega)).trans h4.1, h4.2⟩
theorem q_isColumn (h : CK tp s r M) (hV : PV r) : ∃ M', zEv (d + 2) zmT_isColumn [.ref 65] M = some (some (.int (nB (inB tp (skp tp s) 97 (96 + r 0)))), M') ∧ frI pTc M M' ∧ CK tp (skp tp s) r M' := by
  have hs := h.1.2
  have hl := h.1.1.1.2
  have hle := skp_le hs
  have h06 := hV.1.1.2
  obtain ⟨M1, a1, a2, a3⟩ := q_skip (d := d) h.1.1 hs h.2.1.1
  have k1 : CK tp (skp tp s) r M1 := h.frT hV.1.2.2.2 hV.n36 (fr_a3 a3) hle.2 a2 (a3.1 65 4 (by omega))
  have e0 : M1.1 67 0 = nI (r 0) := by rw [k1.2.2.1.1.1, mkR_low hV.n36 (by omega)]
  refine ⟨M1, e_T_isColumn ?_, fr_a3 a3, k1⟩
  unfold inB
  rw [a1, zC0_some, a2, k1.1.1.1.1, e0]
  by_cases hx : skp tp s < tp.length
  · obtain ⟨h2, h256⟩ := k1.1.1.2 _ hx
    rw [if_pos ((n_lt (by omega) (by omega)).mpr hx), if_pos ((n_zin (by omega)).mpr (by omega)), n_clamp (by omega), h2, decide_eq_true hx, Bool.true_and, n_add]
    by_cases h3 : tq tp (skp tp s) < 97
    · rw [if_pos ((n_lt (by omega) (by omega)).mpr h3), decide_eq_false (by omega)]; rfl
    · rw [if_neg (by rw [n_lt (by omega) (by omega)]; exact h3), decide_eq_true (by omega), Bool.true_and]
      by_cases h4 : tq tp (skp tp s) < 97 + r 0
      · rw [if_pos ((n_lt (by omega) (by omega)).mpr h4), decide_eq_true (by omega)]; rfl
      · rw [if_neg (by rw [n_lt (by omega) (by omega)]; exact h4), decide_eq_false (by omega)]; rfl
  · rw [if_neg (by rw [n_lt (by omega) (by omega)]; exact hx), decide_eq_false hx]; rfl
theorem q_isPartEnd (h : CK tp s r M) (hV : PV r) : ∃ M', zEv (d + 3) zmT_isPartEnd [.ref 65] M = some (some (.int (nB (!decide (skp tp s < tp.length) || decide (tq tp (skp tp s) = 59)))), M') ∧ frI pTc M M' ∧ CK tp (skp tp s) r M' := by
  have hs := h.1.2
  have hl := h.1.1.1.2
  have hle := skp_le hs
  obtain ⟨M1, a1, a2, a3⟩ := q_isEnd (d := d) h.1.1 hs h.2.1.1
  have k1 : CK tp (skp tp s) r M1 := h.frT hV.1.2.2.2 hV.n36 (fr_a3 a3) hle.2 a2 (a3.1 65 4 (by omega))
  refine ⟨M1, e_T_isPartEnd ?_, fr_a3 a3, k1⟩
  rw [h.2.1.2, if_pos rfl, a1, zC1_some]
  by_cases hx : skp tp s < tp.length
  · obtain ⟨h2, h256⟩ := k1.1.1.2 _ hx
    rw [decide_eq_true hx, if_pos (by rfl), a2, if_pos ((n_zin (by omega)).mpr (by omega)), n_clamp (by omega), h2]
    by_cases h3 : tq tp (skp tp s) = 59
    · rw [if_pos (by rw [h3]), decide_eq_true h3]; rfl
    · rw [if_neg (by rw [n_eq (by omega) (by omega)]; exact h3), decide_eq_false h3]; rfl
  · rw [decide_eq_false hx, if_neg (by decide)]
    rfl
theorem q_isPartEnd_f (h : CF tp e M) : zEv (d + 1) zmT_isPartEnd [.ref 65] M = some (some (.int (nI 1)), M) := by
  refine e_T_isPartEnd ?_
  rw [h.2.1, if_neg (n_nem1 (by have := h.2.2; omega))]
theorem q_readOpenCell (h : CK tp s r M) (hV : PV r) (hB : PB r) : ∃ v M', zEv (d + 4) zmT_readOpenCell [.ref 65] M = some (some (.int v), M') ∧ frI pT5 M M' ∧ CE tp (fun q => v = nI q.1 ∧ CK tp q.2.2 r M' ∧ M'.1 65 5 = nI q.2.1) M' (rdC tp s r false) ∧ ((rdC tp s r false).isOk = false → v = -1) := by
  have hs := h.1.2
  have hl := h.1.1.1.2
  have hle := skp_le hs
  have h36 := hV.n36
  have hW := pv_wk hV
  have h16 := hV.1.2.1.2
  have h06 := hV.1.1.2
  obtain ⟨M1, a1, a2, a3⟩ := q_isColumn (d := d + 1) h hV
  unfold rdC
  cases h1 : inB tp (skp tp s) 97 (96 + r 0) with
  | false =>
    rw [h1] at a1
    rw [if_neg (by simp)]
    obtain ⟨M2, b1, b2, b3⟩ := q_fail_k (d := d + 2) a3 (p := skp tp s) (k := 1) (by omega) (by omega)
    refine ⟨-1, M2, e_T_readOpenCell ?_, frT_5 (a2.trans b3), b2, fun _ => rfl⟩
    rw [h.2.1.2, if_pos rfl, a1, zC1_some, if_pos (show nB false = nI 0 from rfl), a3.2.1.1, b1, zC0_some]
  | true =>
    have b1 := inB_lt h1
    obtain ⟨hby, h256⟩ := a3.1.1.2 _ b1.1
    rw [h1] at a1
    rw [if_pos rfl]
    have e31 : (zpi M1 65 3 (nI (skp tp s + 1))).1 65 3 = nI (skp tp s + 1) := by rw [m_pi, if_pos ⟨rfl, rfl⟩]
    have f2 : frI pTc M1 (zpi M1 65 3 (nI (skp tp s + 1))) := fr.refl.pi ⟨rfl, by omega⟩
    have k2 : CK tp (skp tp s + 1) r (zpi M1 65 3 (nI (skp tp s + 1))) := a3.frT hV.1.2.2.2 hV.n36 f2 (by omega) e31 (by rw [m_pi, if_neg (by omega)])
    have k3 : CK tp (skp tp s + 1) r (zpi (zpi M1 65 3 (nI (skp tp s + 1))) 65 5 (nI (skp tp s + 1))) := k2.up hV (by omega)
    have f3 : frI pT5 M (zpi (zpi M1 65 3 (nI (skp tp s + 1))) 65 5 (nI (skp tp s + 1))) := (frT_5 (a2.trans f2)).pi ⟨rfl, by omega, by omega⟩
    have e5 : (zpi (zpi M1 65 3 (nI (skp tp s + 1))) 65 5 (nI (skp tp s + 1))).1 65 5 = nI (skp tp s + 1) := by rw [m_pi, if_pos ⟨rfl, rfl⟩]
    generalize hM3 : zpi (zpi M1 65 3 (nI (skp tp s + 1))) 65 5 (nI (skp tp s + 1)) = M3 at *
    have pre : ∀ {R : ZR}, zC1 (zEv (d + 3) zmT_isDigitAt [.ref 65, .int (nI (skp tp s + 1))] M3) (fun v11 M10 => (if v11 = (nI 0) then zC0 (zEv (d + 3) zmT_fail [.ref 65, .int (M10.1 65 3), .int (nI 1)] M10) (fun M14 => some (some (.int (-1 : Int32)), M14)) else zC1 (zEv (d + 3) zmT_readNumber [.ref 65, .int (nI 1), .int (M10.1 67 1)] M10) (fun v17 M16 => zL (((M16.1 67 0) * (v17 - (nI 1))) + (nI (tq tp (skp tp s)) - (nI 97))) (fun y18 => (if (M16.1 65 4) = (-1 : Int32) then zC1 (zEv (d + 3) zmB_isOpen [.ref 67, .int y18] M16) (fun v23 M22 => (if v23 = (nI 0) then zC0 (zEv (d + 3) zmT_fail [.ref 65, .int (M22.1 65 5), .int (nI 2)] M22) (fun M26 => (if (M26.1 65 4) = (-1 : Int32) then some (some (.int y18), M26) else some (some (.int (-1 : Int32)), M26))) else (if (M22.1 65 4) = (-1 : Int32) then some (some (.int y18), M22) else some (some (.int (-1 : Int32)), M22)))) else (if (M16.1 65 4) = (-1 : Int32) then some (some (.int y18), M16) else some (some (.int (-1 : Int32)), M16))))))) = some R → zEv (d + 4) zmT_readOpenCell [.ref 65] M = some R := fun hR => e_T_readOpenCell (by
      rw [h.2.1.2, if_pos rfl, a1, zC1_some, if_neg (by decide), a3.2.1.1, if_pos ((n_zin (by omega)).mpr (by omega)), n_clamp (by omega), hby, n_add1, e31, hM3, k3.2.1.1]
      exact hR)
    cases h2 : inB tp (skp tp s + 1) 48 57 with
    | false =>
      rw [if_neg (by simp)]
      obtain ⟨M4, c1, c2, c3⟩ := q_fail_k (d := d + 2) k3 (p := skp tp s + 1) (k := 1) (by omega) (by omega)
      refine ⟨-1, M4, pre ?_, f3.trans (frT_5 c3), c2, fun _ => rfl⟩
      rw [q_isDigitAt (d := d + 2) k3.1.1 (by omega), zC1_some, h2, if_pos (show nB false = nI 0 from rfl), k3.2.1.1, c1, zC0_some]
    | true =>
      have b2 := inB_lt h2
      have esk : skp tp (skp tp s + 1) = skp tp s + 1 := skp_s b2.1 (by omega)
      have eN : rdN tp (skp tp s + 1) 1 (r 1) = rdD tp (skp tp s + 1) 1 (r 1) := by
        unfold rdN
        rw [esk, h2, if_pos rfl]
      have e671 : M3.1 67 1 = nI (r 1) := by rw [k3.2.2.1.1.2, mkR_low h36 (by omega)]
      rw [if_pos rfl]
      obtain ⟨v, M4, c1, c2, c3⟩ := q_readNumber_k (d := d) k3 hV.1.2.2.2 h36 (lo := 1) (hi := r 1) (by omega) (by omega)
      rw [eN] at c3
      have e54 : M4.1 65 5 = nI (skp tp s + 1) := (c2.1 65 5 (fun z => by unfold pTc at z; omega)).trans e5
      cases hE : rdD tp (skp tp s + 1) 1 (r 1) with
      | error e1 =>
        rw [hE] at c3
        have c3' : CF tp e1 M4 := c3
        refine ⟨-1, M4, pre ?_, f3.trans (frT_5 c2), c3, fun _ => rfl⟩
        rw [q_isDigitAt (d := d + 2) k3.1.1 (by omega), zC1_some, h2, if_neg (by decide), e671, c1, zC1_some, zLr, c3'.2.1, if_neg (n_nem1 (by have := c3'.2.2; omega)), if_neg (n_nem1 (by have := c3'.2.2; omega))]
      | ok q =>
        rw [hE] at c3
        have c3' : v = nI q.1 ∧ CK tp q.2 r M4 := c3
        obtain ⟨g1, g2, g3⟩ := rdD_ok (by omega) hE
        have hc := celN_lt (s := s) hB h1 g1
        have e670 : M4.1 67 0 = nI (r 0) := by rw [c3'.2.2.2.1.1.1, mkR_low h36 (by omega)]
        have eC : nI (r 0) * (nI q.1 - nI 1) + (nI (tq tp (skp tp s)) - nI 97) = nI (celN tp s r q.1) := by
          rw [n_sub g1.1, n_mul, n_sub (by omega), n_add]
          rfl
        have hop := q_isOpen (d := d + 1) zk67 c3'.2.2.2.sc hW (nI (celN tp s r q.1))
        rw [oI_n (by omega), mkR_isO hV] at hop
        have hiff : isO r (celN tp s r q.1) = decide (r (4 + celN tp s r q.1) = 0) := by
          unfold isO
          rw [decide_eq_true hc.1, Bool.true_and]
        have h41 := (hV.2.1 (celN tp s r q.1) (by omega)).1.1
        dsimp only
        by_cases x4 : r (4 + celN tp s r q.1) = 1
        · rw [if_pos (Or.inl x4)]
          obtain ⟨M5, p1, p2, p3⟩ := q_fail_k (d := d + 2) c3'.2 (p := skp tp s + 1) (k := 2) (by omega) (by omega)
          refine ⟨-1, M5, pre ?_, (f3.trans (frT_5 c2)).trans (frT_5 p3), p2, fun _ => rfl⟩
          rw [q_isDigitAt (d := d + 2) k3.1.1 (by omega), zC1_some, h2, if_neg (by decide), e671, c1, zC1_some, zLr, c3'.2.2.1.2, if_pos rfl, e670, c3'.1, eC, hop, zC1_some, hiff, decide_eq_false (by omega), if_pos (show nB false = nI 0 from rfl), e54, p1, zC0_some, p2.2.1, if_neg (n_nem1 (by omega))]
        · rw [if_neg (fun z => by rcases z with z | z; exact x4 z; cases z.1)]
          refine ⟨nI (celN tp s r q.1), M4, pre ?_, f3.trans (frT_5 c2), ⟨rfl, c3'.2, e54⟩, fun z => by cases z⟩
          rw [q_isDigitAt (d := d + 2) k3.1.1 (by omega), zC1_some, h2, if_neg (by decide), e671, c1, zC1_some, zLr, c3'.2.2.1.2, if_pos rfl, e670, c3'.1, eC, hop, zC1_some, hiff, decide_eq_true (by omega), if_neg (by decide), c3'.2.2.1.2, if_pos rfl]
theorem q_readOpenCell_f (h : CF tp e M) : zEv (d + 1) zmT_readOpenCell [.ref 65] M = some (some (.int (-1)), M) := by
  refine e_T_readOpenCell ?_
  rw [h.2.1, if_neg (n_nem1 (by have := h.2.2; omega))]
end QL
