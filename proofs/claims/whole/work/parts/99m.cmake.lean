/-! THE CLASS, 63: make -/
theorem rng_min {p : Nat → Bool} {c : Nat} : ∀ n s, (List.range' s n).find? p = some c → ∀ y, s ≤ y → y < c → p y = false
  | 0, s, h, y, _, _ => by cases h
  | n + 1, s, h, y, h1, h2 => by
    rw [List.range'_succ, List.find?_cons] at h
    cases hp : p s with
    | true =>
      rw [hp] at h
      injection h with h
      omega
    | false =>
      rw [hp] at h
      by_cases e : y = s
      · rw [e]; exact hp
      · exact rng_min n (s + 1) h y (by omega) h2
def gvnN (b : Nat → Nat) : Nat := ((List.range 36).filter fun c => decide (b (76 + c) = 1)).length
theorem gvn_giv {b : Nat → Nat} {c x : Nat} (hc : c < 36) (hG : b (76 + c) ≠ 1) : gvnN (givR b c x) = gvnN b + 1 := by
  unfold gvnN
  have h : ∀ n, n ≤ 36 → ((List.range n).filter fun y => decide (givR b c x (76 + y) = 1)).length = ((List.range n).filter fun y => decide (b (76 + y) = 1)).length + if c < n then 1 else 0 := by
    intro n
    induction n with
    | zero => intro _; rfl
    | succ n ih =>
      intro hn
      have ih1 := ih (by omega)
      rw [List.range_succ, List.filter_append, List.filter_append, List.length_append, List.length_append, ih1]
      have eg : givR b c x (76 + n) = if n = c then 1 else b (76 + n) := by
        unfold givR putR
        by_cases e : n = c
        · rw [if_pos e, if_pos (by omega)]
        · rw [if_neg e, if_neg (by omega), if_neg (by omega), if_neg (by omega)]
      by_cases e : n = c
      · rw [List.filter_cons_of_pos (by rw [eg, if_pos e]; rfl), List.filter_cons_of_neg (by rw [e, decide_eq_false hG]; decide), if_neg (by omega), if_pos (by omega)]
        rfl
      · have e2 : decide (givR b c x (76 + n) = 1) = decide (b (76 + n) = 1) := by rw [eg, if_neg e]
        have e3 : ([n].filter fun y => decide (givR b c x (76 + y) = 1)) = [n].filter fun y => decide (b (76 + y) = 1) := List.filter_congr fun y hy => by rw [List.mem_singleton.mp hy]; exact e2
        rw [e3]
        by_cases e4 : c < n
        · rw [if_pos e4, if_pos (by omega)]; omega
        · rw [if_neg e4, if_neg (by omega)]; omega
  have := h 36 (Nat.le_refl _)
  rw [if_pos hc] at this
  exact this
theorem fdG_lt {b : Nat → Nat} (h2 : 0 < b 2) (h7 : b 2 ≤ 7) : ∀ (f : Nat) (x : Int32) (dr p : Nat) (co : Bool) (be tr mk g : Nat → Nat), (∀ c, mk c < 8) → fdG b f x dr p co be tr mk = some g → ∀ c, g c < 8 := by
  intro f
  induction f with
  | zero =>
    intro x dr p co be tr mk g hm e
    by_cases hpe : openN b ≤ p
    · cases (if_pos hpe).symm.trans e; exact hm
    · cases (if_neg hpe).symm.trans e
  | succ f ih =>
    have up : ∀ (mk : Nat → Nat) (i v : Nat), v < 8 → (∀ c, mk c < 8) → ∀ c, upN mk i v c < 8 := fun mk i v hv hm c => by
      unfold upN
      split
      · exact hv
      · exact hm c
    have hH : ∀ (x : Int32) (dr p : Nat) (be tr mk g : Nat → Nat), (∀ c, mk c < 8) → fdH b (fdG b f) x dr p be tr mk = some g → ∀ c, g c < 8 := by
      intro x dr p be tr mk g hm e
      unfold fdH at e
      cases hn : nxt b (upN mk (opA b p) 0) (opA b p) (be p) (tr p) with
      | some t =>
        rw [hn] at e
        have hmod : (be p + t) % b 2 < b 2 := Nat.mod_lt _ h2
        exact ih _ _ _ _ _ _ _ _ (up _ _ _ (by omega) (up _ _ _ (by omega) hm)) e
      | none =>
        rw [hn] at e
        by_cases h0 : p = 0
        · cases (if_pos h0).symm.trans e
        · exact ih _ _ _ _ _ _ _ _ (up _ _ _ (by omega) hm) ((if_neg h0).symm.trans e)
    intro x dr p co be tr mk g hm e
    by_cases hpe : openN b ≤ p
    · cases (if_pos hpe).symm.trans e; exact hm
    · have e1 := (if_neg hpe).symm.trans e
      by_cases hco : co = false
      · exact hH _ _ _ _ _ _ _ hm ((if_pos hco).symm.trans e1)
      · have e2 := (if_neg hco).symm.trans e1
        by_cases hd : dr = 2000
        · cases (if_pos hd).symm.trans e2
        · exact hH _ _ _ _ _ _ _ hm ((if_neg hd).symm.trans e2)
section QM
variable {d n : Nat} {b : Nat → Nat} {M : ZM} {U : List (Nat → Nat)}
theorem zk106 : zkd 106 = (1, 36) := by decide +kernel
theorem c_lookD (hB : BRep b 105 M) (hW : Wf b) (hS : Sv n M) (hn : n + 1 < 1048576) {m : Nat} (h1 : 1 ≤ m) (h50 : m ≤ 50) : ∃ M', zEv (d + 23) zmS_look [.ref 411, .ref 105, .ref 106, .int (nI m)] M = some (some (.int (nI (min m (SL b fun c => b (112 + c)).length))), M') ∧ SolT b ((SL b fun c => b (112 + c)).take m) M' ∧ SPl b M' ∧ Sv (n + 1) M' ∧ fr pSe pSe M M' := by
  obtain ⟨L, s1, ⟨s2, s3⟩, s4⟩ := hS
  obtain ⟨rr, a1, M', rfl, a3, a4, a5, a6⟩ := q_look (d := d) zk105 (by omega) zk106 (by omega) hW (mv_self hW) hB s4 (by omega) hB.2.2.1 h1 h50
  exact ⟨M', a1, a3, a4, ⟨L + 1, by omega, ⟨rsi_out s2 a6 (fun a k z => by unfold pSe at z; omega) fun a k z => by unfold pSe at z; omega, rsi_out s3 a6 (fun a k z => by unfold pSe at z; omega) fun a k z => by unfold pSe at z; omega⟩, a5⟩, a6⟩
theorem q_firstUnl {A : List (Nat → Nat)} (h16 : openN b ≤ 16) (hA : SolT b A M) (hP : SPl b M) (h2 : 2 ≤ A.length) {p0 : Nat} (hp0 : p0 < openN b) (hne : lst ((A.getD 0 fun _ => 0) (opA b p0)) ≠ lst ((A.getD 1 fun _ => 0) (opA b p0))) (hmin : ∀ p, p < p0 → lst ((A.getD 0 fun _ => 0) (opA b p)) = lst ((A.getD 1 fun _ => 0) (opA b p))) : zEv (d + 2) zmS_firstUnlike [.ref 411] M = some (some (.int (nI p0)), M) := by
  have loop : ∀ j p, p + j = p0 → h_S_firstUnlike_2 (d + 1) (nI p) M = some (some (.int (nI p0)), M) := by
    intro j
    induction j with
    | zero =>
      intro p h
      obtain rfl : p = p0 := by omega
      have l0 := lst_lt ((A.getD 0 fun _ => 0) (opA b p))
      have l1 := lst_lt ((A.getD 1 fun _ => 0) (opA b p))
      refine e_S_firstUnlike_2 ?_
      rw [hP.1, if_pos ((n_lt (by omega) (by omega)).mpr hp0), q_SdigitAt hA h16 (by omega) hp0, zC1_some, q_SdigitAt hA h16 (by omega) hp0, zC1_some, if_neg (by rw [n_eq (by omega) (by omega)]; exact hne)]
    | succ j ih =>
      intro p h
      refine e_S_firstUnlike_2 ?_
      rw [hP.1, if_pos ((n_lt (by omega) (by omega)).mpr (by omega)), q_SdigitAt hA h16 (by omega) (by omega), zC1_some, q_SdigitAt hA h16 (by omega) (by omega), zC1_some, if_pos (by rw [hmin p (by omega)]), n_add1]
      exact ih (p + 1) (by omega)
  exact e_S_firstUnlike (loop p0 0 (by omega))
def pMa : Nat → Nat → Prop := fun a _ => (105 ≤ a ∧ a ≤ 123) ∨ (411 ≤ a ∧ a ≤ 629)
theorem c_giveUntil {mk : Nat → Nat} {N3 : Nat} (f0 : Nat) : ∀ f (b : Nat → Nat) k m (M : ZM), f + k = 16 → Wf b → WfD b → BRep b 105 M → Sv m M → m + f < 1048576 → (∀ r, r < openN b → M.1 637 r = nI (mk (opA b r)) ∧ 1 ≤ mk (opA b r) ∧ mk (opA b r) ≤ b 2) → gvnN b = k → ∃ M', h_C_giveUntilOneIsLeft_2 (d + 23) (nI k) M = some (none, M') ∧ (BRep (mkL mk f b k).1 105 M' ∧ Wf (mkL mk f b k).1 ∧ WfD (mkL mk f b k).1) ∧ gvnN (mkL mk f b k).1 = (mkL mk f b k).2 ∧ Sv (m + f) M' ∧ fr pMa pMa M M' := by
  intro f
  induction f with
  | zero =>
    intro b k m M h hW hD hB hS hm h7 hgn
    refine ⟨M, e_C_giveUntilOneIsLeft_2 ?_, ⟨hB, hW, hD⟩, hgn, hS, fr.refl⟩
    rw [if_neg (by rw [n_lt (by omega) (by omega)]; omega)]
  | succ f ih =>
    intro b k m M h hW hD hB hS hm h7 hgn
    have h16 := hW.2.2.2.2.1
    obtain ⟨M1, a1, a2, a3, a4, a5⟩ := c_lookD (d := d) hB hW hS (by omega) (m := 2) (by omega) (by omega)
    have hB1 : BRep b 105 M1 := hB.fr a5 hW.1.2.2.2 (fun a x z => by unfold pSe at z; omega) fun a x z => by unfold pSe at z; omega
    have f1 : fr pMa pMa M M1 := a5.mono (fun a x z => by unfold pSe at z; unfold pMa; omega) fun a x z => by unfold pSe at z; unfold pMa; omega
    by_cases hl : (slv b).length < 2
    · have e : mkL mk (f + 1) b k = (b, k) := if_pos hl
      rw [e]
      refine ⟨M1, e_C_giveUntilOneIsLeft_2 ?_, ⟨hB1, hW, hD⟩, hgn, a4.le (by omega), f1⟩
      rw [slv_len hW] at hl
      rw [if_pos ((n_lt (by omega) (by omega)).mpr (by omega)), a1, zC1_some, if_pos ((n_lt (by omega) (by omega)).mpr (by omega))]
    · have e : mkL mk (f + 1) b k = mkL mk f (givR b ((unl b).getD 0) (mk ((unl b).getD 0))) (k + 1) := if_neg hl
      obtain ⟨c, u1, u2, u3, u4⟩ := unl_some hW hD (by omega)
      rw [e, u1]
      show ∃ M', _ ∧ (BRep (mkL mk f (givR b c (mk c)) (k + 1)).1 105 M' ∧ _) ∧ _
      have hc := isO_lt hW u3
      obtain ⟨p0, hp0, ep⟩ := opA_ex hc u3
      have hl2 : 2 ≤ (SL b fun c => b (112 + c)).length := by rw [← slv_len hW]; omega
      have g0 : (slv b).getD 0 (fun _ => 0) = rowM b ((SL b fun c => b (112 + c)).getD 0 fun _ => 0) := by rw [slv_SL hW, getD_map (z := fun _ => 0) (by omega)]
      have g1 : (slv b).getD 1 (fun _ => 0) = rowM b ((SL b fun c => b (112 + c)).getD 1 fun _ => 0) := by rw [slv_SL hW, getD_map (z := fun _ => 0) (by omega)]
      have m0 : (SL b fun c => b (112 + c)).getD 0 (fun _ => 0) ∈ SL b fun c => b (112 + c) := getD_memx (by omega)
      have m1 : (SL b fun c => b (112 + c)).getD 1 (fun _ => 0) ∈ SL b fun c => b (112 + c) := getD_memx (by omega)
      have t0 : ((SL b fun c => b (112 + c)).take 2).getD 0 (fun _ => 0) = (SL b fun c => b (112 + c)).getD 0 fun _ => 0 := by rw [List.getD_eq_getElem?_getD, List.getD_eq_getElem?_getD, List.getElem?_take_of_lt (by omega)]
      have t1 : ((SL b fun c => b (112 + c)).take 2).getD 1 (fun _ => 0) = (SL b fun c => b (112 + c)).getD 1 fun _ => 0 := by rw [List.getD_eq_getElem?_getD, List.getD_eq_getElem?_getD, List.getElem?_take_of_lt (by omega)]
      have hu := u1
      unfold unl at hu
      have hus0 := List.find?_some hu
      have hus := of_decide_eq_true hus0
      rw [List.range_eq_range'] at hu
      have hmin := rng_min _ _ hu
      have hfu := q_firstUnl (d := d + 21) h16 a2 a3 (by rw [List.length_take]; omega) hp0 (by
        rw [t0, t1, ep, ← dgt_g (b' := b) m0 hc u3, ← dgt_g (b' := b) m1 hc u3, ← g0, ← g1]
        exact hus) (fun p hp => by
        obtain ⟨o1, o2⟩ := opA_mem (b := b) (p := p) (by omega)
        have := hmin (opA b p) (Nat.zero_le _) (by rw [← ep]; exact opA_lt p p0 hp hp0)
        have := of_decide_eq_false this
        rw [g0, g1, dgt_g m0 o1 o2, dgt_g m1 o1 o2] at this
        rw [t0, t1]
        exact Classical.not_not.mp this)
      have h7p := h7 p0 hp0
      have h7m : M1.1 637 p0 = nI (mk c) := by rw [a5.1 637 p0 (by unfold pSe; omega), h7p.1, ep]
      rw [ep] at h7p
      have hda : zEv (d + 23) zmK_digitAt [.ref 632, .int (nI p0)] M1 = some (some (.int (nI (mk c))), M1) := by
        refine e_K_digitAt ?_
        rw [if_neg (by rw [n_lt (by omega) (by omega)]; omega), if_pos ((n_lt (by omega) (by omega)).mpr (by omega)), if_pos ((n_zin (by omega)).mpr (by omega)), n_clamp (by omega), h7m]
      have hca := q_ScellAt (d := d + 22) a3 h16 hp0
      rw [ep] at hca
      obtain ⟨M2, b1, b2, b3⟩ := q_giveDigit (d := d + 20) zk105 hB1 hW.wk u3 h7p.2.1 h7p.2.2
      obtain ⟨w1, w2⟩ := givR_w hW hD u3 h7p.2.1 h7p.2.2
      have eO : isO (givR b c (mk c)) = isO b := givR_isO hW.n36 hc
      have e2 : givR b c (mk c) 2 = b 2 := by
        unfold givR putR
        rw [if_neg (by omega), if_neg (by omega), if_neg (by omega)]
      obtain ⟨M', c1, c2, c3, c4, c5⟩ := ih (givR b c (mk c)) (k + 1) (m + 1) M2 (by omega) w1 w2 b2 (a4.out b3 (fun a x z => by unfold pBd at z; omega) fun a x z => by unfold pBd at z; omega) (by omega) (fun r hr => by
        rw [openN_of eO] at hr
        rw [opA_of eO, e2, b3.1 637 r (by unfold pBd; omega), a5.1 637 r (by unfold pSe; omega)]
        exact h7 r hr) (by rw [gvn_giv hc u4, hgn])
      refine ⟨M', e_C_giveUntilOneIsLeft_2 ?_, c2, c3, c4.le (by omega), (f1.trans (b3.mono (fun a x z => by unfold pBd at z; unfold pMa; omega) fun a x z => by unfold pBd at z; unfold pMa; omega)).trans c5⟩
      rw [if_pos ((n_lt (by omega) (by omega)).mpr (by omega)), a1, zC1_some, if_neg (by rw [n_lt (by omega) (by omega)]; omega), hfu, zC1_some, if_neg (n_nem1 (by omega)), hca, zC1_some, hda, zC1_some, b1, zC0_some, n_add1]
      exact c1
theorem c_make (hB : BRep b 86 M) (hW : Wf b) (hD : WfD b) (hP : PR U M) (hS : Sv n M) (hn : n + 40 < 1048576) (x : Int32) : ∃ M', zEv (d + 25) zmC_make [.ref 64, .int x] M = some (some (.int (spMake b x).1), M') ∧ CAct b U M' (spMake b x).2 ∧ Sv (n + 40) M' ∧ fr pAc pAc M M' := by
  unfold spMake
  have h12 := hW.1.2.2.2
  have h36 := hW.n36
  have h27 := hW.1.2.2.1
  have ht := q_isTold (d := d + 23) zk86 hB.sc hW.wk
  rw [told_eq hW] at ht
  cases hto : decide (0 < b 2) with
  | false =>
    rw [hto] at ht
    refine ⟨M, e_C_make ?_, ⟨⟨hB, hW, hD⟩, hP⟩, hS.le (by omega), fr.refl⟩
    rw [ht, zC1_some, if_pos (show nB false = nI 0 from rfl)]
    rfl
  | true =>
    rw [hto] at ht
    have h2 : 0 < b 2 := of_decide_eq_true hto
    rw [Bool.not_true, cond_false]
    have o5 : ∀ a k, pBd 105 a k → 105 ≤ a ∧ a ≤ 123 := fun a k z => by unfold pBd at z; omega
    obtain ⟨M1, a1, a2, a3⟩ := q_copyFrom (d := d + 23) zk105 zk86 (by omega) hB hW
    obtain ⟨M2, b1, b2, b3⟩ := q_drawDigits (d := d + 19) zk105 hW h2 (by omega) a2 x
    have f1 : fr (fun a _ => 105 ≤ a ∧ a ≤ 637) (fun a _ => 105 ≤ a ∧ a ≤ 637) M M1 := a3.mono (fun a k z => by have := o5 a k z; omega) fun a k z => by have := o5 a k z; omega
    have f2 : fr (fun a _ => 105 ≤ a ∧ a ≤ 637) (fun a _ => 105 ≤ a ∧ a ≤ 637) M1 M2 := b2.mono (fun a k z => by unfold pKd at z; omega) fun _ _ z => z.elim
    have hS2 : Sv n M2 := (hS.out a3 (fun a k z => by have := o5 a k z; omega) fun a k z => by have := o5 a k z; omega).out b2 (fun a k z => by unfold pKd at z; omega) fun a k z => z.elim
    have hB52 : BRep b 105 M2 := a2.fr b2 h12 (fun a k z => by unfold pKd at z; omega) fun a k z => z.elim
    have toA : ∀ {M M' : ZM}, fr (fun a _ => 105 ≤ a ∧ a ≤ 637) (fun a _ => 105 ≤ a ∧ a ≤ 637) M M' → fr pAc pAc M M' := fun f => f.mono (fun a k z => by unfold pAc; omega) fun a k z => by unfold pAc; omega
    have toB : ∀ {M M' : ZM}, fr (fun a _ => 105 ≤ a ∧ a ≤ 637) (fun a _ => 105 ≤ a ∧ a ≤ 637) M M' → BRep b 86 M → BRep b 86 M' := fun f h => h.fr f h12 (fun a k z => by omega) fun a k z => by omega
    have toP : ∀ {M M' : ZM}, fr (fun a _ => 105 ≤ a ∧ a ≤ 637) (fun a _ => 105 ≤ a ∧ a ≤ 637) M M' → PR U M → PR U M' := fun f h => h.fr f (fun a k z => by omega) fun a k z => by omega
    cases hF : fdD b x with
    | none =>
      rw [hF] at b1
      refine ⟨M2, e_C_make ?_, ⟨⟨toB f2 (toB f1 hB), hW, hD⟩, toP f2 (toP f1 hP)⟩, hS2.le (by omega), toA (f1.trans f2)⟩
      rw [ht, zC1_some, if_neg (show ¬ nB true = nI 0 by decide), a1, zC0_some, b1, zC1_some, if_pos (by rfl)]
    | some g =>
      rw [hF] at b1
      show ∃ M', zEv (d + 25) zmC_make [.ref 64, .int x] M = some (some (.int (nI (mkL g 16 (rstN (totM b g (b 3)) (b 0 * b 1)) 0).2)), M') ∧ CAct b U M' (some (mkL g 16 (rstN (totM b g (b 3)) (b 0 * b 1)) 0).1) ∧ Sv (n + 40) M' ∧ fr pAc pAc M M'
      obtain ⟨b4, b5⟩ := b3 g hF
      have hm8 : ∀ c, c < 36 → isO b c = true → g c ≤ b 2 := fun c hc ho => (fdD_ok h2 hF hc ho).2
      obtain ⟨g', hg'⟩ : ∃ g' : Nat → Nat, g' = g := ⟨g, rfl⟩
      have hm : ∀ c, g c < 8 := fdG_lt h2 h27 _ _ _ _ _ _ _ _ _ (fun _ => by omega) hF
      obtain ⟨M3, c1, c2, c3⟩ := q_tellTotals (d := d + 20) zk105 (by omega) hW hD hm hB52 b4
      obtain ⟨w1, w2⟩ := totM_w hW hD hm (j := b 3) (Nat.le_refl _)
      have eN : totM b g (b 3) 0 * totM b g (b 3) 1 = b 0 * b 1 := by rw [totM_low (by omega), totM_low (by omega)]
      obtain ⟨v1, v2⟩ := rstN_w w1 w2 (c := b 0 * b 1) h36
      have eO : isO (rstN (totM b g (b 3)) (b 0 * b 1)) = isO b := by rw [rstN_O (by rw [eN]; exact h36) h36, totM_O h36]
      have f3 : fr (fun a _ => 105 ≤ a ∧ a ≤ 637) (fun a _ => 105 ≤ a ∧ a ≤ 637) M2 M3 := c3.mono (fun a k z => by have := o5 a k z; omega) fun a k z => by have := o5 a k z; omega
      have hS3 : Sv n M3 := hS2.out c3 (fun a k z => by have := o5 a k z; omega) fun a k z => by have := o5 a k z; omega
      have e2 : rstN (totM b g (b 3)) (b 0 * b 1) 2 = b 2 := by rw [rstN_ne h36 (by omega), totM_low (by omega)]
      have hg0 : gvnN (rstN (totM b g (b 3)) (b 0 * b 1)) = 0 := by
        unfold gvnN
        rw [List.length_eq_zero_iff, List.filter_eq_nil_iff]
        intro y hy
        have hy' := List.mem_range.mp hy
        have := (rstN_all w1 hy').2.1
        rw [eN] at this
        rw [this]
        decide
      obtain ⟨M4, e1, ⟨e3, w3, w4⟩, e5, e6, e7⟩ := c_giveUntil (d := d) (mk := g) (N3 := 0) 0 16 (rstN (totM b g (b 3)) (b 0 * b 1)) 0 n M3 (by omega) v1 v2 c2 hS3 (by omega) (fun r hr => by
        rw [openN_of eO] at hr
        obtain ⟨o1, o2⟩ := opA_mem hr
        rw [opA_of eO, e2, c3.1 637 r (by unfold pBd; omega)]
        exact ⟨(b4 r hr).1, (b4 r hr).2.1, hm8 _ o1 o2⟩) hg0
      have f4 : fr (fun a _ => 105 ≤ a ∧ a ≤ 637) (fun a _ => 105 ≤ a ∧ a ≤ 637) M3 M4 := e7.mono (fun a k z => by unfold pMa at z; omega) fun a k z => by unfold pMa at z; omega
      have hB4 := toB f4 (toB f3 (toB f2 (toB f1 hB)))
      have hP4 := toP f4 (toP f3 (toP f2 (toP f1 hP)))
      obtain ⟨M5, g1, g2, g3⟩ := c_remember (d := d + 22) hB4 hW hD hP4
      generalize hR : (mkL g 16 (rstN (totM b g (b 3)) (b 0 * b 1)) 0) = R at e3 w3 w4 e5 ⊢
      have hB55 : BRep R.1 105 M5 := e3.fr g3 w3.1.2.2.2 (fun a k z => by unfold pRm at z; omega) fun a k z => by unfold pRm at z; omega
      obtain ⟨M6, i1, i2, i3⟩ := q_copyFrom (d := d + 23) zk86 zk105 (by omega) hB55 w3
      refine ⟨M6, e_C_make ?_, ⟨⟨i2, w3, w4⟩, bd_P g2 i3⟩, (bd_S (rm_S e6 g3) i3).le (by omega), (toA (((f1.trans f2).trans f3).trans f4)).trans ((rm_A g3).trans (bd_A i3))⟩
      have hgu : zEv (d + 24) zmC_giveUntilOneIsLeft [.ref 64] M3 = some (none, M4) := e_C_giveUntilOneIsLeft e1
      have ebc : cnt 40 (gM R.1) = R.2 := by
        unfold gM
        rw [cnt_msk, ← e5]
        rfl
      rw [ht, zC1_some, if_neg (show ¬ nB true = nI 0 by decide), a1, zC0_some, b1, zC1_some, if_neg (show ¬ nB (some g).isSome = nI 0 from (by decide : ¬ nB true = nI 0)), c1, zC0_some, hgu, zC0_some, g1, zC0_some, i1, zC0_some, i2.2.1.1.2, q_bitL (x := gM R.1) (Nat.lt_trans (msk36 _) (by omega)), zC1_some, ebc]
end QM
