/-! THE CLASS, 58: solutions asked -/
theorem slv_len {b : Nat → Nat} (hW : Wf b) : (slv b).length = (SL b fun c => b (112 + c)).length := by
  rw [slv_SL hW, List.length_map]
/-- solutions by other marks -/
theorem slv_of {b b' : Nat → Nat} (hW' : Wf b') (hN : b 0 * b 1 ≤ 36) (h : ∀ k, k < 40 ∨ 148 ≤ k → b' k = b k) {mk : Nat → Nat} (hm : ∀ c, b' (112 + c) = mk c) : slv b' = (SL b mk).map (rowM b') := by
  rw [slv_SL hW', sl_congr hN h]
  rw [show (fun c => b' (112 + c)) = mk from funext hm]
theorem slv_emp {b b' : Nat → Nat} (hW' : Wf b') (hN : b 0 * b 1 ≤ 36) (h : ∀ k, k < 40 ∨ 148 ≤ k → b' k = b k) {mk : Nat → Nat} (hm : ∀ c, b' (112 + c) = mk c) : (slv b').isEmpty = (SL b mk).isEmpty := by
  rw [slv_of hW' hN h hm]
  cases SL b mk <;> rfl
theorem setK_mk {b : Nat → Nat} {c v : Nat} : ∀ y, setK b c v (112 + y) = um (fun c => b (112 + c)) c v y := fun y => by
  unfold setK um
  by_cases e : y = c
  · rw [if_pos e, if_pos (by omega)]
  · rw [if_neg e, if_neg (by omega)]
theorem setK_hi {b : Nat → Nat} {c v : Nat} (hc : c < 36) : ∀ k, k < 40 ∨ 148 ≤ k → setK b c v k = b k := fun k hk => setK_ne (by omega)
theorem getD_map {α β : Type} {f : α → β} {l : List α} {i : Nat} {z : α} {w : β} (h : i < l.length) : (l.map f).getD i w = f (l.getD i z) := by
  rw [List.getD_eq_getElem?_getD, List.getD_eq_getElem?_getD, List.getElem?_map, List.getElem?_eq_getElem h]
  rfl
theorem getD_memx {α : Type} {l : List α} {i : Nat} {z : α} (h : i < l.length) : l.getD i z ∈ l := by
  rw [getD_el h]
  exact List.getElem_mem h
/-- a solution's digit -/
theorem dgt_g {b b' g mk : Nat → Nat} (hg : g ∈ SL b mk) {c : Nat} (hc : c < 36) (hO : isO b c = true) : dgt (rowM b' g) c = lst (g c) := by
  obtain ⟨x, _, _, x3⟩ := (sl_mem.mp hg).1.2 c hO
  unfold dgt
  rw [rowM_at hc, x3, if_neg (Nat.ne_of_gt (Nat.two_pow_pos x))]
section QX5
variable {d n : Nat} {b : Nat → Nat} {M : ZM}
theorem zk126 : zkd 126 = (1, 36) := by decide +kernel
theorem c_look (hB : BRep b 86 M) (hW : Wf b) (hS : Sv n M) (hn : n + 1 < 1048576) {e : Nat} {mk : Nat → Nat} (he : zkd e = (1, 36)) (he2 : e < 411 ∨ 629 < e) (hM : MV b mk) (hmk : ∀ c, c < 36 → M.1 e c = nI (mk c)) {m : Nat} (h1 : 1 ≤ m) (h50 : m ≤ 50) : ∃ M', zEv (d + 23) zmS_look [.ref 411, .ref 86, .ref e, .int (nI m)] M = some (some (.int (nI (min m (SL b mk).length))), M') ∧ SolT b ((SL b mk).take m) M' ∧ SPl b M' ∧ Sv (n + 1) M' ∧ fr pSe pSe M M' := by
  obtain ⟨L, s1, ⟨s2, s3⟩, s4⟩ := hS
  obtain ⟨rr, a1, M', rfl, a3, a4, a5, a6⟩ := q_look (d := d) zk86 (by omega) he he2 hW hM hB s4 (by omega) hmk h1 h50
  exact ⟨M', a1, a3, a4, ⟨L + 1, by omega, ⟨rsi_out s2 a6 (fun a k z => by unfold pSe at z; omega) fun a k z => by unfold pSe at z; omega, rsi_out s3 a6 (fun a k z => by unfold pSe at z; omega) fun a k z => by unfold pSe at z; omega⟩, a5⟩, a6⟩
theorem c_can (hB : BRep b 86 M) (hW : Wf b) (hS : Sv n M) (hn : n + 1 < 1048576) {mk : Nat → Nat} (hM : MV b mk) (hmk : ∀ c, c < 36 → M.1 126 c = nI (mk c)) : ∃ M', zEv (d + 22) zmS_canSolve [.ref 411, .ref 86, .ref 126] M = some (some (.int (nB (!(SL b mk).isEmpty))), M') ∧ Sv (n + 1) M' ∧ fr pSe pSe M M' := by
  obtain ⟨L, s1, ⟨s2, s3⟩, s4⟩ := hS
  obtain ⟨rr, a1, M', rfl, a5, a6⟩ := q_canSolve (d := d) zk86 (by omega) zk126 (by omega) hW hM hB s4 (by omega) hmk
  exact ⟨M', a1, ⟨L + 1, by omega, ⟨rsi_out s2 a6 (fun a k z => by unfold pSe at z; omega) fun a k z => by unfold pSe at z; omega, rsi_out s3 a6 (fun a k z => by unfold pSe at z; omega) fun a k z => by unfold pSe at z; omega⟩, a5⟩, a6⟩
theorem fr_Se {M M' : ZM} (f : fr pSe pSe M M') : fr pQy pQy M M' := f.mono (fun a k z => by unfold pSe at z; unfold pQy; omega) fun a k z => by unfold pSe at z; unfold pQy; omega
theorem brq {M' : ZM} (h : BRep b 86 M) (hW : Wf b) (f : fr pQy pQy M M') : BRep b 86 M' := h.fr f hW.1.2.2.2 (fun a k z => by unfold pQy at z; omega) fun a k z => by unfold pQy at z; omega
theorem q_SdigitAt {A : List (Nat → Nat)} (hA : SolT b A M) (h16 : openN b ≤ 16) {k p : Nat} (hk : k < A.length) (hp : p < openN b) : zEv (d + 1) zmS_digitAt [.ref 411, .int (nI k), .int (nI p)] M = some (some (.int (nI (lst ((A.getD k fun _ => 0) (opA b p))))), M) := by
  have h50 := hA.1.2
  refine e_S_digitAt ?_
  rw [if_neg (by rw [n_lt (by omega) (by omega)]; omega), hA.1.1, if_pos ((n_lt (by omega) (by omega)).mpr hk), if_pos ((n_lt (by omega) (by omega)).mpr (by omega)), if_neg (by rw [n_lt (by omega) (by omega)]; omega), if_pos ((n_lt (by omega) (by omega)).mpr (by omega)), if_pos ((n_zin (by omega)).mpr (by omega)), if_pos ((n_zin (by omega)).mpr (by omega)), n_clamp (by omega), n_clamp (by omega), hA.2 k hk p hp]
theorem q_ScellAt (hP : SPl b M) (h16 : openN b ≤ 16) {p : Nat} (hp : p < openN b) : zEv (d + 1) zmS_cellAt [.ref 411, .int (nI p)] M = some (some (.int (nI (opA b p))), M) := by
  refine e_S_cellAt ?_
  rw [if_neg (by rw [n_lt (by omega) (by omega)]; omega), hP.1, if_pos ((n_lt (by omega) (by omega)).mpr hp), if_pos ((n_lt (by omega) (by omega)).mpr (by omega)), if_pos ((n_zin (by omega)).mpr (by omega)), n_clamp (by omega), hP.2 p hp]
theorem c_solve (hB : BRep b 86 M) (hW : Wf b) (hS : Sv n M) (hn : n + 1 < 1048576) (x : Int32) : ∃ M', zEv (d + 24) zmC_solve [.ref 64, .int x] M = some (some (.int (spSolve b x)), M') ∧ Sv (n + 1) M' ∧ fr pQy pQy M M' := by
  unfold spSolve
  have ht := q_isTold (d := d + 22) zk86 hB.sc hW.wk
  rw [told_eq hW] at ht
  cases hto : decide (0 < b 2) with
  | false =>
    rw [hto] at ht
    refine ⟨M, e_C_solve ?_, hS.le (by omega), fr.refl⟩
    rw [ht, zC1_some, if_pos (show nB false = nI 0 from rfl)]
    rfl
  | true =>
    rw [hto] at ht
    rw [Bool.true_and]
    cases hx : iD x 50 with
    | false =>
      have hx' : ¬ (1 ≤ x.toInt ∧ x.toInt ≤ 50) := fun w => by
        have : iD x 50 = true := by unfold iD; rw [decide_eq_true w.1, decide_eq_true (show x.toInt ≤ ((50 : Nat) : Int) from w.2)]; rfl
        rw [hx] at this; cases this
      refine ⟨M, e_C_solve ?_, hS.le (by omega), fr.refl⟩
      rw [ht, zC1_some, if_neg (show ¬ nB true = nI 0 by decide), cond_false]
      by_cases h0 : x < nI 1
      · rw [if_pos h0]
      · rw [if_neg h0, if_pos]
        rw [Int32.lt_iff_toInt_lt, n_toInt (by omega)] at h0 ⊢
        omega
    | true =>
      obtain ⟨m, m1, m2, rfl⟩ := iD_ex (by omega) hx
      obtain ⟨M', a1, _, _, a2, a3⟩ := c_look (d := d) hB hW hS hn zk87 (by omega) (mv_self hW) hB.2.2.1 m1 m2
      refine ⟨M', e_C_solve ?_, a2, fr_Se a3⟩
      rw [ht, zC1_some, if_neg (show ¬ nB true = nI 0 by decide), if_neg (by rw [n_lt (by omega) (by omega)]; omega), if_neg (by rw [n_lt (by omega) (by omega)]; omega), a1, zC1_some, cond_true, n_toInt (by omega), Int.toNat_natCast, slv_len hW]
theorem c_solution (hB : BRep b 86 M) (hW : Wf b) (hS : Sv n M) (hn : n + 1 < 1048576) (x y : Int32) : ∃ M', zEv (d + 24) zmC_solution [.ref 64, .int x, .int y] M = some (some (.int (spSolution b x y)), M') ∧ Sv (n + 1) M' ∧ fr pQy pQy M M' := by
  unfold spSolution
  have h16 := hW.2.2.2.2.1
  have ho := q_isOpen (d := d + 21) zk86 hB.sc hW.wk y
  cases hy : oI b y with
  | false =>
    rw [hy] at ho
    refine ⟨M, e_C_solution ?_, hS.le (by omega), fr.refl⟩
    rw [ho, zC1_some, if_pos (show nB false = nI 0 from rfl), Bool.and_false]
    rfl
  | true =>
    rw [hy] at ho
    obtain ⟨c, hc, hO, rfl⟩ := oI_ex hW hy
    rw [Bool.and_true]
    cases hx : iI x 10 with
    | false =>
      have hx' : ¬ iI x 10 = true := by rw [hx]; decide
      rw [iI_if] at hx'
      refine ⟨M, e_C_solution ?_, hS.le (by omega), fr.refl⟩
      rw [ho, zC1_some, if_neg (show ¬ nB true = nI 0 by decide), cond_false]
      by_cases h0 : x < nI 0
      · rw [if_pos h0]
      · rw [if_neg h0, if_neg]
        rw [Int32.lt_iff_toInt_lt, n_toInt (by omega)] at h0 ⊢
        omega
    | true =>
      obtain ⟨k, hk, rfl⟩ := iI_ex (by omega) hx
      obtain ⟨M', a1, a2, a3, a4, a5⟩ := c_look (d := d) hB hW hS hn zk87 (by omega) (mv_self hW) hB.2.2.1 (m := k + 1) (by omega) (by omega)
      obtain ⟨p, hp, ep⟩ := opA_ex hc hO
      have hB1 := brq hB hW (fr_Se a5)
      refine ⟨M', e_C_solution ?_, a4, fr_Se a5⟩
      rw [ho, zC1_some, if_neg (show ¬ nB true = nI 0 by decide), if_neg (by rw [n_lt (by omega) (by omega)]; omega), if_pos ((n_lt (by omega) (by omega)).mpr hk), n_add1, a1, zC1_some, cond_true, n_toInt (by omega), n_toInt (by omega), Int.toNat_natCast, Int.toNat_natCast, slv_len hW]
      by_cases hl : k < (SL b fun c => b (112 + c)).length
      · have hpo := q_placeOf (d := d + 20) zk86 hB1 hW hp
        rw [ep] at hpo
        have htl : ((SL b fun c => b (112 + c)).take (k + 1)).length = k + 1 := by rw [List.length_take]; omega
        have hda := q_SdigitAt (d := d + 22) a2 h16 (k := k) (by omega) hp
        have hgd : ((SL b fun c => b (112 + c)).take (k + 1)).getD k (fun _ => 0) = (SL b fun c => b (112 + c)).getD k fun _ => 0 := by
          rw [List.getD_eq_getElem?_getD, List.getD_eq_getElem?_getD, List.getElem?_take_of_lt (by omega)]
        rw [hgd, ep] at hda
        have hmn : min (k + 1) (SL b fun c => b (112 + c)).length = k + 1 := by omega
        rw [hmn, if_pos ((n_lt (by omega) (by omega)).mpr (by omega)), hpo, zC1_some, hda, zC1_some, if_pos hl, slv_SL hW, getD_map (z := fun _ => 0) hl, dgt_g (getD_memx hl) hc hO]
      · have hmn : min (k + 1) (SL b fun c => b (112 + c)).length = (SL b fun c => b (112 + c)).length := by omega
        rw [hmn, if_neg (by rw [n_lt (by omega) (by omega)]; exact hl), if_neg hl]
def pSw : Nat → Nat → Prop := fun a _ => a = 126 ∨ (411 ≤ a ∧ a ≤ 629)
theorem fr_Sw {M M' : ZM} (f : fr pSw pSw M M') : fr pQy pQy M M' := f.mono (fun a k z => by unfold pSw at z; unfold pQy; omega) fun a k z => by unfold pSw at z; unfold pQy; omega
theorem c_solvW (hB : BRep b 86 M) (hW : Wf b) (hS : Sv n M) (hn : n + 1 < 1048576) {c v : Nat} (hO : isO b c = true) (hv : ∀ x, v.testBit x = true → (b (112 + c)).testBit x = true) : ∃ M', zEv (d + 23) zmC_solvableWith [.ref 64, .int (nI c), .int (nI v)] M = some (some (.int (nB (!(SL b (um (fun c => b (112 + c)) c v)).isEmpty))), M') ∧ Sv (n + 1) M' ∧ fr pSw pSw M M' := by
  have hc := isO_lt hW hO
  have f1 : frI (fun a _ => a = 126) M (zpi (zsi M 126 (va_cpy (M.1 87) (M.1 126) 0 0 36)) 126 c (nI v)) := (fr.refl.si fun k => rfl).pi rfl
  have f1' : fr pQy pQy M (zpi (zsi M 126 (va_cpy (M.1 87) (M.1 126) 0 0 36)) 126 c (nI v)) := f1.mono (fun a k z => by unfold pQy; omega) fun _ _ z => z.elim
  obtain ⟨M', a1, a2, a3⟩ := c_can (d := d) (brq hB hW f1') hW (hS.out f1 (fun a k z => by omega) fun a k z => z.elim) hn (mv_um hW (mv_self hW) hO hv) (fun y hy => by
    rw [m_pi]
    by_cases e : y = c
    · rw [if_pos ⟨rfl, e⟩, e, um_at]
    · rw [if_neg fun z => e z.2, m_six, if_pos rfl, cpy0, if_pos hy, um_ne e]
      exact hB.2.2.1 y hy)
  refine ⟨M', e_C_solvableWith ?_, a2, (f1.mono (fun a k z => Or.inl z) fun _ _ z => z.elim).trans (a3.mono (fun a k z => Or.inr z) fun a k z => Or.inr z)⟩
  rw [if_neg (by rw [n_lt (by omega) (by omega)]; omega), if_pos ((n_lt (by omega) (by omega)).mpr hc), if_pos ((n_zin (by omega)).mpr hc), n_clamp (by omega), a1, zC1_some, if_pos (nB_01 _)]
theorem c_agree_17 (hW : Wf b) {c : Nat} (hO : isO b c = true) : ∀ j x m (M : ZM), x + j = b 2 + 1 → 1 ≤ x → BRep b 86 M → Sv m M → m + j < 1048576 → ∃ M', h_C_agree_17 (d + 23) (nI c) (nI (msk x fun x => (b (112 + c)).testBit x && !(slv (setK b c (2 ^ x))).isEmpty)) (nI x) M = some (some (.int (nI (agrM b c))), M') ∧ Sv (m + j) M' ∧ fr pQy pQy M M' := by
  have hc := isO_lt hW hO
  have h27 := hW.1.2.2.1
  have hcN := isO_cell hO
  intro j
  induction j with
  | zero =>
    intro x m M h h1 hB hS hm
    refine ⟨M, e_C_agree_17 ?_, hS, fr.refl⟩
    rw [hB.1.2.1, if_pos ((n_lt (by omega) (by omega)).mpr (by omega)), show x = b 2 + 1 by omega]
    rfl
  | succ j ih =>
    intro x m M h h1 hB hS hm
    have hhm := q_hasMark (d := d + 21) zk86 hB hW.wk (nI c) (nI x)
    rw [iI_n (by omega), decide_eq_true hcN, iD_c h1 (by omega) (by omega), n_toInt (by omega), n_toInt (by omega), Int.toNat_natCast, Int.toNat_natCast, Bool.true_and, Bool.true_and] at hhm
    cases hb : (b (112 + c)).testBit x with
    | false =>
      rw [hb] at hhm
      obtain ⟨M', a1, a2, a3⟩ := ih (x + 1) m M (by omega) (by omega) hB hS (by omega)
      rw [msk_succ, hb, Bool.false_and, cond_false, Nat.or_zero] at a1
      refine ⟨M', e_C_agree_17 ?_, a2.le (by omega), a3⟩
      rw [hB.1.2.1, if_neg (by rw [n_lt (by omega) (by omega)]; omega), hhm, zC1_some, if_pos (show nB false = nI 0 from rfl), n_add1]
      exact a1
    | true =>
      rw [hb] at hhm
      obtain ⟨M1, b1, b2, b3⟩ := c_solvW (d := d) (v := 2 ^ x) hB hW hS (by omega) hO (pow_bit hb)
      have hW' : Wf (setK b c (2 ^ x)) := wf_setK hW hO (Nat.pow_lt_pow_right (by omega) (by omega)) (by rw [Nat.testBit_two_pow]; exact decide_eq_false (by omega))
      rw [← slv_emp hW' hW.n36 (setK_hi hc) setK_mk] at b1
      obtain ⟨M', a1, a2, a3⟩ := ih (x + 1) (m + 1) M1 (by omega) (by omega) (brq hB hW (fr_Sw b3)) b2 (by omega)
      rw [msk_succ, hb, Bool.true_and] at a1
      refine ⟨M', e_C_agree_17 ?_, a2.le (by omega), (fr_Sw b3).trans a3⟩
      rw [hB.1.2.1, if_neg (by rw [n_lt (by omega) (by omega)]; omega), hhm, zC1_some, if_neg (show ¬ nB true = nI 0 by decide), n_one (by omega), b1, zC1_some, n_add1]
      cases he : (slv (setK b c (2 ^ x))).isEmpty with
      | true =>
        rw [he, Bool.not_true, cond_false, Nat.or_zero] at a1
        rw [if_pos (show nB (!true) = nI 0 by decide)]
        exact a1
      | false =>
        rw [he, Bool.not_false, cond_true] at a1
        rw [if_neg (show ¬ nB (!false) = nI 0 by decide), n_or]
        exact a1
theorem c_agree (hB : BRep b 86 M) (hW : Wf b) (hS : Sv n M) (hn : n + 8 < 1048576) (x : Int32) : ∃ M', zEv (d + 24) zmC_agree [.ref 64, .int x] M = some (some (.int (spAgree b x)), M') ∧ Sv (n + 8) M' ∧ fr pQy pQy M M' := by
  unfold spAgree
  have h27 := hW.1.2.2.1
  have ho := q_isOpen (d := d + 21) zk86 hB.sc hW.wk x
  cases hx : oI b x with
  | false =>
    rw [hx] at ho
    refine ⟨M, e_C_agree ?_, hS.le (by omega), fr.refl⟩
    rw [ho, zC1_some, if_pos (show nB false = nI 0 from rfl)]
    rfl
  | true =>
    rw [hx] at ho
    obtain ⟨c, hc, hO, rfl⟩ := oI_ex hW hx
    obtain ⟨M', a1, a2, a3⟩ := c_agree_17 (d := d) hW hO (b 2) 1 n M (by omega) (Nat.le_refl 1) hB hS (by omega)
    have e0 : msk 1 (fun x => (b (112 + c)).testBit x && !(slv (setK b c (2 ^ x))).isEmpty) = 0 := by
      rw [msk_succ, ((hW.2.2.2.1 c hc).2.1.2.2), Bool.false_and, cond_false, Nat.or_zero]
      rfl
    rw [e0] at a1
    refine ⟨M', e_C_agree ?_, a2.le (by omega), a3⟩
    rw [ho, zC1_some, if_neg (show ¬ nB true = nI 0 by decide), cond_true, n_toInt (by omega), Int.toNat_natCast]
    exact a1
end QX5
