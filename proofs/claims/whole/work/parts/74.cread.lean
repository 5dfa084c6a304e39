/-! THE CLASS, 8: numbers, words, cells read -/
def CK (tp : List Nat) (s : Nat) (r : Nat → Nat) (M : ZM) : Prop := (CTp tp M ∧ s ≤ tp.length) ∧ (M.1 65 3 = nI s ∧ M.1 65 4 = (-1 : Int32)) ∧ BRep (mkR r) 67 M
def CF (tp : List Nat) (e : Nat) (M : ZM) : Prop := (CTp tp M ∧ ∃ s, s ≤ tp.length ∧ M.1 65 3 = nI s) ∧ (M.1 65 4 = nI e ∧ e < 1000000)
def CE {α : Type} (tp : List Nat) (P : α → Prop) (M' : ZM) : Except Nat α → Prop
  | .ok a => P a
  | .error e => CF tp e M'
theorem mkR_low {r : Nat → Nat} {k : Nat} (hN : r 0 * r 1 ≤ 36) (h : k < 112 ∨ 148 ≤ k) : mkR r k = r k := mkN_ne (by omega)
theorem pv_wk {r : Nat → Nat} (hV : PV r) : Wk (mkR r) := by
  have h36 := hV.n36
  refine ⟨?_, fun c hc => ?_⟩
  · rw [mkR_low h36 (by omega), mkR_low h36 (by omega), mkR_low h36 (by omega), mkR_low h36 (by omega)]
    exact ⟨hV.1.1.2, hV.1.2.1.2, hV.1.2.2.1.2, hV.1.2.2.2⟩
  · have h27 := hV.1.2.2.1.2
    have h8 : 2 ^ (r 2 + 1) ≤ 2 ^ 8 := Nat.pow_le_pow_right (by omega) (by omega)
    by_cases h : c < r 0 * r 1
    · unfold mkR
      rw [mkN_at h36 h h36]
      by_cases e : isO r c = true
      · rw [if_pos e]
        by_cases e2 : r (76 + c) = 1
        · rw [if_pos e2]
          have := (hV.2.1 c hc).1.2.2
          have : 2 ^ r (40 + c) ≤ 2 ^ 7 := Nat.pow_le_pow_right (by omega) (by omega)
          omega
        · rw [if_neg e2]
          have := allM_lt0 r
          omega
      · rw [if_neg e, (hV.2.1 c hc).2.2.2]
        omega
    · unfold mkR
      rw [mkN_ne (by omega), (hV.2.1 c hc).2.2.2]
      omega
theorem CK.frT {tp : List Nat} {s s' : Nat} {r : Nat → Nat} {M M' : ZM} (h : CK tp s r M) (h3 : r 3 ≤ 12) (hN : r 0 * r 1 ≤ 36) (hf : frI pTc M M') (hs : s' ≤ tp.length) (ha : M'.1 65 3 = nI s') (h4 : M'.1 65 4 = M.1 65 4) : CK tp s' r M' :=
  ⟨⟨h.1.1.frT hf, hs⟩, ⟨ha, h4.trans h.2.1.2⟩, h.2.2.fr hf (by rw [mkR_low hN (by omega)]; exact h3) (fun a k z => by unfold pTc at z; omega) (fun _ _ z => z.elim)⟩
theorem fr_a3 {M M' : ZM} (h : frI (fun a k => a = 65 ∧ k = 3) M M') : frI pTc M M' := h.mono (fun a k z => by unfold pTc; omega) (fun _ _ z => z)
theorem CF.frT {tp : List Nat} {s' e : Nat} {M M' : ZM} (h : CF tp e M) (hf : frI pTc M M') (hs : s' ≤ tp.length) (ha : M'.1 65 3 = nI s') (h4 : M'.1 65 4 = M.1 65 4) : CF tp e M' :=
  ⟨⟨h.1.1.frT hf, s', hs, ha⟩, h4.trans h.2.1, h.2.2⟩
section QI
variable {d : Nat} {M : ZM} {tp : List Nat} {s e : Nat} {r : Nat → Nat}
theorem q_fail_k (h : CK tp s r M) {p k : Nat} (hp : p ≤ 1000) (hk : k < 8) : ∃ M', zEv (d + 1) zmT_fail [.ref 65, .int (nI p), .int (nI k)] M = some (none, M') ∧ CF tp (8 * p + k) M' ∧ frI pTc M M' := by
  have f1 : frI pTc M (zpi M 65 4 (nI (8 * p + k))) := fr.refl.pi ⟨rfl, by omega⟩
  refine ⟨zpi M 65 4 (nI (8 * p + k)), e_T_fail ?_, ⟨⟨h.1.1.frT f1, s, h.1.2, by rw [m_pi, if_neg (by omega)]; exact h.2.1.1⟩, by rw [m_pi, if_pos ⟨rfl, rfl⟩], by omega⟩, f1⟩
  rw [h.2.1.2, if_pos rfl, n_mul, n_add]
theorem q_fail_f (h : CF tp e M) (p k : Int32) : zEv (d + 1) zmT_fail [.ref 65, .int p, .int k] M = some (none, M) := by
  refine e_T_fail ?_
  rw [h.2.1, if_neg (n_nem1 (by have := h.2.2; omega))]
/-- a number as the class counts it -/
def Cq (v v' : Nat) : Prop := (v < 10000000 ∧ v' = v) ∨ (10000000 ≤ v ∧ v' = 10000000)
theorem q_readNum_l {x1 x2 x3 : Int32} : ∀ f k v v' (M : ZM), k + f = tp.length → CTp tp M → Cq v v' → M.1 65 3 = nI k → ∃ M1 w, Cq (dgl tp f k v).1 w ∧ M1.1 65 3 = nI (dgl tp f k v).2 ∧ frI (fun a k => a = 65 ∧ k = 3) M M1 ∧
    ∀ R, (if nI w < x1 then zC0 (zEv (d + 2) zmT_fail [.ref 65, .int x3, .int (nI 2)] M1) (fun M8 => some (some (.int x1), M8)) else (if x2 < nI w then zC0 (zEv (d + 2) zmT_fail [.ref 65, .int x3, .int (nI 2)] M1) (fun M11 => some (some (.int x1), M11)) else some (some (.int (nI w)), M1))) = some R → h_T_readNumber_34 (d + 2) x1 x2 x3 (nI v') M = some R := by
  intro f
  induction f with
  | zero =>
    intro k v v' M h hT hC h3
    have hl := hT.1.2
    refine ⟨M, v', hC, h3, fr.refl, fun R hR => e_T_readNumber_34 ?_⟩
    rw [h3, hT.1.1, if_neg (by rw [n_lt (by omega) (by omega)]; omega)]
    exact hR
  | succ f ih =>
    intro k v v' M h hT hC h3
    have hl := hT.1.2
    cases hB : inB tp k 48 57 with
    | false =>
      have e2 : dgl tp (f + 1) k v = (v, k) := if_neg (by rw [hB]; simp)
      rw [e2]
      refine ⟨M, v', hC, h3, fr.refl, fun R hR => e_T_readNumber_34 ?_⟩
      rw [h3, hT.1.1, if_pos ((n_lt (by omega) (by omega)).mpr (by omega)), q_isDigitAt (d := d + 1) hT (by omega), zC1_some, hB, if_pos (show nB false = nI 0 from rfl)]
      exact hR
    | true =>
      have hb := inB_lt hB
      have hv' : v' ≤ 10000000 := by unfold Cq at hC; omega
      obtain ⟨h2, h256⟩ := hT.2 k hb.1
      have e2 : dgl tp (f + 1) k v = dgl tp f (k + 1) (10 * v + (tq tp k - 48)) := if_pos hB
      rw [e2]
      have f1 : frI (fun a k => a = 65 ∧ k = 3) M (zpi M 65 3 (nI (k + 1))) := fr.refl.pi ⟨rfl, rfl⟩
      obtain ⟨M1, w, g1, g2, g3, g4⟩ := ih (k + 1) (10 * v + (tq tp k - 48)) (if 10 * v' + (tq tp k - 48) < 10000000 then 10 * v' + (tq tp k - 48) else 10000000) (zpi M 65 3 (nI (k + 1))) (by omega) (hT.fr f1 (fun a k z => by omega)) (by
        unfold Cq at hC ⊢
        by_cases g : 10 * v' + (tq tp k - 48) < 10000000
        · rw [if_pos g]; omega
        · rw [if_neg g]; omega) (by rw [m_pi, if_pos ⟨rfl, rfl⟩])
      refine ⟨M1, w, g1, g2, f1.trans g3, fun R hR => e_T_readNumber_34 ?_⟩
      have em : nI v' * nI 10 + nI (tq tp k) - nI 48 = nI (10 * v' + (tq tp k - 48)) := by
        rw [n_mul, n_add, n_sub (by omega), show v' * 10 + tq tp k - 48 = 10 * v' + (tq tp k - 48) by omega]
      rw [h3, hT.1.1, if_pos ((n_lt (by omega) (by omega)).mpr (by omega)), q_isDigitAt (d := d + 1) hT (by omega), zC1_some, hB, if_neg (by decide), h3, if_pos ((n_zin (by omega)).mpr (by omega)), n_clamp (by omega), h2, em, s_min (d := d + 1) (by omega) (by omega), zC1_some, h3, n_add1]
      exact g4 R hR
theorem q_readNumber_k (h : CK tp s r M) (h3 : r 3 ≤ 12) (hN : r 0 * r 1 ≤ 36) {lo hi : Nat} (hlo : lo < 10000000) (hhi : hi < 10000000) : ∃ v M', zEv (d + 3) zmT_readNumber [.ref 65, .int (nI lo), .int (nI hi)] M = some (some (.int v), M') ∧ frI pTc M M' ∧ CE tp (fun q => v = nI q.1 ∧ CK tp q.2 r M') M' (rdN tp s lo hi) := by
  have hs := h.1.2
  have hl := h.1.1.1.2
  have hle := skp_le hs
  obtain ⟨M1, a1, a2, a3⟩ := q_skip (d := d + 1) h.1.1 hs h.2.1.1
  have k1 : CK tp (skp tp s) r M1 := h.frT h3 hN (fr_a3 a3) hle.2 a2 (a3.1 65 4 (by omega))
  unfold rdN
  cases hB : inB tp (skp tp s) 48 57 with
  | false =>
    rw [if_neg (by simp)]
    obtain ⟨M2, b1, b2, b3⟩ := q_fail_k (d := d + 1) k1 (p := skp tp s) (k := 1) (by omega) (by omega)
    refine ⟨nI lo, M2, e_T_readNumber ?_, (fr_a3 a3).trans b3, b2⟩
    rw [a1, zC0_some, a2, q_isDigitAt (d := d + 1) k1.1.1 (by omega), zC1_some, hB, if_pos (show nB false = nI 0 from rfl), a2, b1, zC0_some]
  | true =>
    rw [if_pos rfl]
    obtain ⟨M2, w, g1, g2, g3, g4⟩ := q_readNum_l (d := d) (x1 := nI lo) (x2 := nI hi) (x3 := nI (skp tp s)) (tp.length - skp tp s) (skp tp s) 0 0 M1 (by omega) k1.1.1 (Or.inl ⟨by omega, rfl⟩) a2
    have hd := dgl_le (tp := tp) (tp.length - skp tp s) (skp tp s) 0 (by omega)
    have hw : w ≤ 10000000 := by unfold Cq at g1; omega
    have k2 : CK tp (dgl tp (tp.length - skp tp s) (skp tp s) 0).2 r M2 := k1.frT h3 hN (fr_a3 g3) hd.2 g2 (g3.1 65 4 (by omega))
    have go : ∀ {R : ZR}, h_T_readNumber_34 (d + 2) (nI lo) (nI hi) (nI (skp tp s)) (nI 0) M1 = some R → zEv (d + 3) zmT_readNumber [.ref 65, .int (nI lo), .int (nI hi)] M = some R := fun hR => e_T_readNumber (by
      rw [a1, zC0_some, a2, q_isDigitAt (d := d + 1) k1.1.1 (by omega), zC1_some, hB, if_neg (by decide)]
      exact hR)
    unfold rdD
    by_cases hin : lo ≤ (dgl tp (tp.length - skp tp s) (skp tp s) 0).1 ∧ (dgl tp (tp.length - skp tp s) (skp tp s) 0).1 ≤ hi
    · rw [if_pos hin]
      have hww : w = (dgl tp (tp.length - skp tp s) (skp tp s) 0).1 := by unfold Cq at g1; omega
      refine ⟨nI w, M2, go (g4 _ ?_), (fr_a3 a3).trans (fr_a3 g3), by rw [hww], k2⟩
      rw [if_neg (by rw [n_lt (by omega) (by omega)]; omega), if_neg (by rw [n_lt (by omega) (by omega)]; omega)]
    · rw [if_neg hin]
      obtain ⟨M3, b1, b2, b3⟩ := q_fail_k (d := d + 1) k2 (p := skp tp s) (k := 2) (by omega) (by omega)
      refine ⟨nI lo, M3, go (g4 _ ?_), ((fr_a3 a3).trans (fr_a3 g3)).trans b3, b2⟩
      by_cases c1 : w < lo
      · rw [if_pos ((n_lt (by omega) (by omega)).mpr c1), b1, zC0_some]
      · have c2 : hi < w := by unfold Cq at g1; omega
        rw [if_neg (by rw [n_lt (by omega) (by omega)]; exact c1), if_pos ((n_lt (by omega) (by omega)).mpr c2), b1, zC0_some]
theorem q_readNumber_f (h : CF tp e M) (x1 x2 : Int32) : ∃ v M', zEv (d + 3) zmT_readNumber [.ref 65, .int x1, .int x2] M = some (some (.int v), M') ∧ frI pTc M M' ∧ CF tp e M' := by
  obtain ⟨⟨hT, s, hs, ha⟩, h4⟩ := h
  have hF : CF tp e M := ⟨⟨hT, s, hs, ha⟩, h4⟩
  have hl := hT.1.2
  have hle := skp_le hs
  obtain ⟨M1, a1, a2, a3⟩ := q_skip (d := d + 1) hT hs ha
  have k1 : CF tp e M1 := hF.frT (fr_a3 a3) hle.2 a2 (a3.1 65 4 (by omega))
  cases hB : inB tp (skp tp s) 48 57 with
  | false =>
    refine ⟨x1, M1, e_T_readNumber ?_, fr_a3 a3, k1⟩
    rw [a1, zC0_some, a2, q_isDigitAt (d := d + 1) k1.1.1 (by omega), zC1_some, hB, if_pos (show nB false = nI 0 from rfl), q_fail_f (d := d + 1) k1, zC0_some]
  | true =>
    obtain ⟨M2, w, g1, g2, g3, g4⟩ := q_readNum_l (d := d) (x1 := x1) (x2 := x2) (x3 := nI (skp tp s)) (tp.length - skp tp s) (skp tp s) 0 0 M1 (by omega) k1.1.1 (Or.inl ⟨by omega, rfl⟩) a2
    have hd := dgl_le (tp := tp) (tp.length - skp tp s) (skp tp s) 0 (by omega)
    have k2 : CF tp e M2 := k1.frT (fr_a3 g3) hd.2 g2 (g3.1 65 4 (by omega))
    have go : ∀ {R : ZR}, h_T_readNumber_34 (d + 2) x1 x2 (nI (skp tp s)) (nI 0) M1 = some R → zEv (d + 3) zmT_readNumber [.ref 65, .int x1, .int x2] M = some R := fun hR => e_T_readNumber (by
      rw [a1, zC0_some, a2, q_isDigitAt (d := d + 1) k1.1.1 (by omega), zC1_some, hB, if_neg (by decide)]
      exact hR)
    by_cases c1 : nI w < x1
    · exact ⟨x1, M2, go (g4 _ (by rw [if_pos c1, q_fail_f (d := d + 1) k2, zC0_some])), (fr_a3 a3).trans (fr_a3 g3), k2⟩
    · by_cases c2 : x2 < nI w
      · exact ⟨x1, M2, go (g4 _ (by rw [if_neg c1, if_pos c2, q_fail_f (d := d + 1) k2, zC0_some])), (fr_a3 a3).trans (fr_a3 g3), k2⟩
      · exact ⟨nI w, M2, go (g4 _ (by rw [if_neg c1, if_neg c2])), (fr_a3 a3).trans (fr_a3 g3), k2⟩
theorem q_takeWord_42 {j : Nat} (hj : j < 17) {f : Nat} (hT : CTp tp M) (h3 : M.1 65 3 = nI f) (hf : f + (wd j).length ≤ tp.length) {x2 : Int32} : ∀ t k, k + t = (wd j).length → (((List.range' k t).all fun i => decide (f + i < tp.length) && decide (tq tp (f + i) = (wd j).getD i 0)) = true → h_T_takeWord_42 (d + 4) (j + 1) x2 (nI k) M = some (some (.int (nI 1)), zpi M 65 3 x2)) ∧ (((List.range' k t).all fun i => decide (f + i < tp.length) && decide (tq tp (f + i) = (wd j).getD i 0)) = false → h_T_takeWord_42 (d + 4) (j + 1) x2 (nI k) M = some (some (.int (nI 0)), M)) := by
  have h7 := ztx_le j hj
  rw [← wd_len] at h7
  have hl := hT.1.2
  intro t
  induction t with
  | zero =>
    intro k hk
    refine ⟨fun _ => e_T_takeWord_42 (zkS j hj).1 ?_, fun z => by cases z⟩
    rw [s_length (d := d + 2) hj, zC1_some, if_neg (by rw [n_lt (by omega) (by omega)]; omega)]
  | succ t ih =>
    intro k hk
    have hc := wd_c hj (show k < (wd j).length by omega)
    obtain ⟨h2, h256⟩ := hT.2 (f + k) (by omega)
    have step : ∀ {R : ZR}, (if nI (tq tp (f + k)) = nI ((wd j).getD k 0) then h_T_takeWord_42 (d + 4) (j + 1) x2 (nI (k + 1)) M else some (some (.int (nI 0)), M)) = some R → h_T_takeWord_42 (d + 4) (j + 1) x2 (nI k) M = some R := fun hR => e_T_takeWord_42 (zkS j hj).1 (by
      rw [s_length (d := d + 2) hj, zC1_some, if_pos ((n_lt (by omega) (by omega)).mpr (by omega)), h3, n_add, if_pos ((n_zin (by omega)).mpr (by omega)), s_charAt (d := d) hj (show k < (wd j).length by omega), zC1_some, n_clamp (by omega), h2, n_add1]
      exact hR)
    rw [List.range'_succ, List.all_cons]
    by_cases e : tq tp (f + k) = (wd j).getD k 0
    · rw [decide_eq_true (show f + k < tp.length by omega), decide_eq_true e, Bool.and_self, Bool.true_and]
      obtain ⟨i1, i2⟩ := ih (k + 1) (by omega)
      exact ⟨fun z => step (by rw [if_pos (by rw [e])]; exact i1 z), fun z => step (by rw [if_pos (by rw [e])]; exact i2 z)⟩
    · rw [decide_eq_false e, Bool.and_false, Bool.false_and]
      exact ⟨(fun z => by cases z), fun _ => step (by rw [if_neg (by rw [n_eq (by omega) (by omega)]; exact e)])⟩
theorem q_takeWord_k (h : CK tp s r M) (h3 : r 3 ≤ 12) (hN : r 0 * r 1 ≤ 36) {j : Nat} (hj : j < 17) : ∃ M', zEv (d + 5) zmT_takeWord [.ref 65, .ref (j + 1)] M = some (some (.int (nB (isW tp s (wd j)))), M') ∧ frI pTc M M' ∧ CK tp (tkW tp s (wd j)) r M' := by
  have hs := h.1.2
  have hl := h.1.1.1.2
  have hle := skp_le hs
  have h7 := ztx_le j hj
  have h0 := ztx_0 j hj
  rw [← wd_len] at h7 h0
  obtain ⟨M1, a1, a2, a3⟩ := q_skip (d := d + 3) h.1.1 hs h.2.1.1
  have k1 : CK tp (skp tp s) r M1 := h.frT h3 hN (fr_a3 a3) hle.2 a2 (a3.1 65 4 (by omega))
  have go : ∀ {R : ZR}, (if nI tp.length < nI (skp tp s + (wd j).length) then some (some (.int (nI 0)), M1) else zC1 (zEv (d + 4) zmT_isLetterAt [.ref 65, .int (nI (skp tp s + (wd j).length))] M1) (fun v10 M9 => (if v10 = (nI 0) then h_T_takeWord_42 (d + 4) (j + 1) (nI (skp tp s + (wd j).length)) (nI 0) M9 else some (some (.int (nI 0)), M9)))) = some R → zEv (d + 5) zmT_takeWord [.ref 65, .ref (j + 1)] M = some R := fun hR => e_T_takeWord (zkS j hj).1 (by
    rw [a1, zC0_some, s_length (d := d + 2) hj, zC1_some, k1.2.1.2, if_pos rfl, k1.1.1.1.1, a2, n_add]
    exact hR)
  cases hW : isW tp s (wd j) with
  | true =>
    have hlen := isW_le hs h0 hW
    have hW2 := hW
    unfold isW at hW2
    rw [Bool.and_eq_true] at hW2
    have hall := hW2.1
    rw [List.range_eq_range'] at hall
    have hlt : inB tp (skp tp s + (wd j).length) 97 122 = false := by
      have := hW2.2
      cases hb : inB tp (skp tp s + (wd j).length) 97 122 with
      | false => rfl
      | true => rw [hb] at this; cases this
    have f2 : frI pTc M1 (zpi M1 65 3 (nI (skp tp s + (wd j).length))) := fr.refl.pi ⟨rfl, by omega⟩
    rw [tkW_t hW]
    refine ⟨zpi M1 65 3 (nI (skp tp s + (wd j).length)), go ?_, (fr_a3 a3).trans f2, k1.frT h3 hN f2 hlen (by rw [m_pi, if_pos ⟨rfl, rfl⟩]) (by rw [m_pi, if_neg (by omega)])⟩
    rw [if_neg (by rw [n_lt (by omega) (by omega)]; omega), q_isLetterAt (d := d + 3) k1.1.1 (by omega), zC1_some, hlt, if_pos (show nB false = nI 0 from rfl)]
    exact (q_takeWord_42 (d := d) hj k1.1.1 a2 hlen (wd j).length 0 (by omega)).1 hall
  | false =>
    rw [tkW_f hW]
    refine ⟨M1, go ?_, fr_a3 a3, k1⟩
    by_cases hlen : skp tp s + (wd j).length ≤ tp.length
    · rw [if_neg (by rw [n_lt (by omega) (by omega)]; omega), q_isLetterAt (d := d + 3) k1.1.1 (by omega), zC1_some]
      cases hb : inB tp (skp tp s + (wd j).length) 97 122 with
      | true => rw [if_neg (by decide)]; rfl
      | false =>
        rw [if_pos (show nB false = nI 0 from rfl)]
        have hall : ((List.range' 0 (wd j).length).all fun i => decide (skp tp s + i < tp.length) && decide (tq tp (skp tp s + i) = (wd j).getD i 0)) = false := by
          unfold isW at hW
          rw [hb, List.range_eq_range'] at hW
          rw [← hW, Bool.not_false, Bool.and_true]
        exact (q_takeWord_42 (d := d) hj k1.1.1 a2 hlen (wd j).length 0 (by omega)).2 hall
    · rw [if_pos ((n_lt (by omega) (by omega)).mpr (by omega))]
      rfl
theorem q_takeWord_f (h : CF tp e M) {j : Nat} (hj : j < 17) : ∃ M', zEv (d + 5) zmT_takeWord [.ref 65, .ref (j + 1)] M = some (some (.int (nI 0)), M') ∧ frI pTc M M' ∧ CF tp e M' := by
  obtain ⟨⟨hT, s, hs, ha⟩, h4⟩ := h
  have hF : CF tp e M := ⟨⟨hT, s, hs, ha⟩, h4⟩
  have hle := skp_le hs
  obtain ⟨M1, a1, a2, a3⟩ := q_skip (d := d + 3) hT hs ha
  have k1 : CF tp e M1 := hF.frT (fr_a3 a3) hle.2 a2 (a3.1 65 4 (by omega))
  refine ⟨M1, e_T_takeWord (zkS j hj).1 ?_, fr_a3 a3, k1⟩
  rw [a1, zC0_some, s_length (d := d + 2) hj, zC1_some, k1.2.1, if_neg (n_nem1 (by have := k1.2.2; omega))]
end QI
