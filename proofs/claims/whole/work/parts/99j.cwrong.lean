/-! THE CLASS, 60: wrong, idle -/
theorem clrN_at {b : Nat → Nat} (hN : b 0 * b 1 ≤ 36) : ∀ n, n ≤ 36 → ∀ x, x < 36 → (clrN b n (112 + x) = if x < n ∧ isO b x = true then (if b (76 + x) = 0 then allM b else 2 ^ b (40 + x)) else b (112 + x)) ∧ clrN b n (40 + x) = if x < n ∧ isO b x = true ∧ b (76 + x) = 0 then 0 else b (40 + x)
  | 0, _, x, _ => ⟨(if_neg fun z => absurd z.1 (Nat.not_lt_zero x)).symm, (if_neg fun z => absurd z.1 (Nat.not_lt_zero x)).symm⟩
  | n + 1, hn, x, hx => by
    obtain ⟨i1, i2⟩ := clrN_at hN n (by omega) x hx
    have eO : isO (clrN b n) = isO b := by
      funext y
      unfold isO
      rw [clrN_ne (by omega) (by omega), clrN_ne (by omega) (by omega)]
      by_cases h : y < b 0 * b 1
      · rw [clrN_ne (by omega) (by omega)]
      · rw [decide_eq_false h, Bool.false_and, Bool.false_and]
    have eA : allM (clrN b n) = allM b := by unfold allM; rw [clrN_ne (by omega) (by omega)]
    have e76 : clrN b n (76 + n) = b (76 + n) := clrN_ne (by omega) (by omega)
    show clrS (clrN b n) n (112 + x) = _ ∧ clrS (clrN b n) n (40 + x) = _
    unfold clrS
    rw [eO]
    by_cases hO : isO b n = true
    · rw [if_pos hO, if_pos hO, e76, eA]
      by_cases e : x = n
      · subst e
        have i2' : clrN b x (40 + x) = b (40 + x) := by rw [i2, if_neg fun z => by omega]
        rw [if_pos (show 112 + x = 112 + x from rfl), if_neg (show ¬ 40 + x = 112 + x by omega), i2', if_pos (show x < x + 1 ∧ isO b x = true from ⟨by omega, hO⟩)]
        refine ⟨rfl, ?_⟩
        by_cases hg : b (76 + x) = 0
        · rw [if_pos ⟨rfl, hg⟩, if_pos ⟨by omega, hO, hg⟩]
        · rw [if_neg fun z => hg z.2, if_neg fun z => hg z.2.2]
      · rw [if_neg (show ¬ 112 + x = 112 + n by omega), if_neg (show ¬ (112 + x = 40 + n ∧ b (76 + n) = 0) by omega), if_neg (show ¬ 40 + x = 112 + n by omega), if_neg (show ¬ (40 + x = 40 + n ∧ b (76 + n) = 0) by omega), i1, i2]
        constructor
        · by_cases h : x < n ∧ isO b x = true
          · rw [if_pos h, if_pos (show x < n + 1 ∧ isO b x = true from ⟨by omega, h.2⟩)]
          · rw [if_neg h, if_neg fun z => h ⟨by omega, z.2⟩]
        · by_cases h : x < n ∧ isO b x = true ∧ b (76 + x) = 0
          · rw [if_pos h, if_pos ⟨by omega, h.2⟩]
          · rw [if_neg h, if_neg fun z => h ⟨by omega, z.2⟩]
    · rw [if_neg hO, if_neg hO, i1, i2]
      constructor
      · by_cases h : x < n ∧ isO b x = true
        · rw [if_pos h, if_pos (show x < n + 1 ∧ isO b x = true from ⟨by omega, h.2⟩)]
        · rw [if_neg h, if_neg fun z => h ⟨by
            by_cases e : x = n
            · rw [e] at z; exact absurd z.2 hO
            · omega, z.2⟩]
      · by_cases h : x < n ∧ isO b x = true ∧ b (76 + x) = 0
        · rw [if_pos h, if_pos ⟨by omega, h.2⟩]
        · rw [if_neg h, if_neg fun z => h ⟨by
            by_cases e : x = n
            · rw [e] at z; exact absurd z.2.1 hO
            · omega, z.2⟩]
/-- the marks by what is given -/
theorem clr_mbg {b : Nat → Nat} (hW : Wf b) (hD : WfD b) {x : Nat} (hx : x < 36) {y : Int32} (hy : nI x ≠ y) : mbg b y x = clr b (112 + x) := by
  have h36 := hW.n36
  unfold clr
  rw [(clrN_at h36 _ h36 x hx).1]
  unfold mbg
  have hwx := hW.2.2.2.1 x hx
  cases hO : isO b x with
  | false =>
    rw [if_neg (by decide), if_neg (show ¬ (x < b 0 * b 1 ∧ false = true) from fun z => by cases z.2), (hwx.2.2 hO).1]
  | true =>
    rw [if_pos (show true = true from rfl), if_pos (show x < b 0 * b 1 ∧ true = true from ⟨isO_cell hO, rfl⟩)]
    by_cases hg : b (76 + x) = 1
    · rw [if_pos ⟨hg, hy⟩, if_neg (by omega), (hD x hx).2 ((hD x hx).1 hg)]
    · rw [if_neg fun z => hg z.1, if_pos (by have := hwx.1.2; omega)]
theorem clr_mv {b : Nat → Nat} (hW : Wf b) (hD : WfD b) : MV b fun c => clr b (112 + c) := fun c hc => by
  have h := mv_self (clr_w hW (wfV_of hD)).1 c hc
  rw [clr_ne hW (by omega), clr_isO hW] at h
  exact h
theorem clr_hi {b : Nat → Nat} (hW : Wf b) : ∀ k, k < 40 ∨ 148 ≤ k → clr b k = b k := fun k hk => clr_ne hW (by omega)
theorem nI_m1 {x : Nat} (hx : x < 36) : nI x ≠ -1 := n_nem1 (by omega)
section QX7
variable {d n : Nat} {b : Nat → Nat} {M : ZM}
def wq (b g : Nat → Nat) (c : Nat) : Bool := !(b (112 + c)).testBit (lst (g c))
def wL (b g : Nat → Nat) (p : Nat) : List Nat := ((List.range p).filter fun r => wq b g (opA b r)).map (opA b)
theorem wL_succ {b g : Nat → Nat} {p : Nat} : wL b g (p + 1) = wL b g p ++ (if wq b g (opA b p) = true then [opA b p] else []) := by
  unfold wL
  rw [List.range_succ, List.filter_append, List.map_append]
  congr 1
  by_cases h : wq b g (opA b p) = true
  · rw [if_pos h, List.filter_cons_of_pos (p := fun r => wq b g (opA b r)) h]; rfl
  · rw [if_neg h, List.filter_cons_of_neg (p := fun r => wq b g (opA b r)) h]; rfl
theorem wL_all {b g b' mk : Nat → Nat} (hW : Wf b) (hg : g ∈ SL b mk) : (List.range (b 0 * b 1)).filter (wrP b (rowM b' g)) = wL b g (openN b) := by
  have h36 := hW.n36
  have e1 : (List.range (b 0 * b 1)).filter (wrP b (rowM b' g)) = (List.range 36).filter (wrP b (rowM b' g)) := by
    rw [show 36 = b 0 * b 1 + (36 - b 0 * b 1) by omega, List.range_add, List.filter_append]
    have : ((List.range (36 - b 0 * b 1)).map (b 0 * b 1 + ·)).filter (wrP b (rowM b' g)) = [] := by
      rw [List.filter_eq_nil_iff]
      intro y hy
      obtain ⟨z, _, rfl⟩ := List.mem_map.mp hy
      unfold wrP isO
      rw [decide_eq_false (by omega), Bool.false_and, Bool.false_and]
      decide
    rw [this, List.append_nil]
  have e2 : (List.range 36).filter (wrP b (rowM b' g)) = (opL b).filter (wq b g) := by
    unfold opL
    rw [List.filter_filter]
    refine List.filter_congr fun c hc => ?_
    have hc' := List.mem_range.mp hc
    unfold wrP wq
    cases hO : isO b c with
    | false => rw [Bool.false_and, Bool.and_false]
    | true => rw [Bool.true_and, Bool.and_true, dgt_g hg hc' hO]
  rw [e1, e2, opL_map, List.filter_map]
  rfl
theorem wL_len {b g : Nat → Nat} {p : Nat} : (wL b g p).length ≤ p := by
  unfold wL
  rw [List.length_map]
  exact Nat.le_trans (List.length_filter_le _ _) (by rw [List.length_range]; exact Nat.le_refl p)
theorem c_wrong_64 (hB : BRep b 86 M) (hW : Wf b) {g mk : Nat → Nat} {A : List (Nat → Nat)} (hA0 : A.getD 0 (fun _ => 0) = g) (hAl : 0 < A.length) (hA : SolT b A M) (hP : SPl b M) (hM : MV b mk) (hg : g ∈ SL b mk) (x : Int32) : ∀ j p, p + j = openN b → h_C_wrong_64 (d + 2) x (nI (wL b g p).length) (pO (wL b g p).head?) (nI p) M = some (some (.int (if x = nI 0 then nI (wL b g (openN b)).length else pO (wL b g (openN b)).head?)), M) := by
  have h16 := hW.2.2.2.2.1
  intro j
  induction j with
  | zero =>
    intro p h
    obtain rfl : p = openN b := by omega
    have hpl : zEv (d + 2) zmS_places [.ref 411] M = some (some (.int (nI (openN b))), M) := by
      have := e_S_places (d := d + 1) (M := M) rfl
      rw [hP.1] at this
      exact this
    refine e_C_wrong_64 ?_
    rw [hpl, zC1_some, if_neg (by rw [n_lt (by omega) (by omega)]; omega)]
    by_cases hx : x = nI 0
    · rw [if_pos hx, if_pos hx]
    · rw [if_neg hx, if_neg hx]
  | succ j ih =>
    intro p h
    have hp : p < openN b := by omega
    obtain ⟨o1, o2⟩ := opA_mem hp
    have hpl : zEv (d + 2) zmS_places [.ref 411] M = some (some (.int (nI (openN b))), M) := by
      have := e_S_places (d := d + 1) (M := M) rfl
      rw [hP.1] at this
      exact this
    have hda := q_SdigitAt (d := d + 1) hA h16 hAl hp
    rw [hA0] at hda
    obtain ⟨y, y1, y2, y3⟩ := (sl_mem.mp hg).1.2 _ o2
    have hyl : lst (g (opA b p)) = y := by rw [y3, lst_pow y y1.1 y1.2]
    have hyb := mv_bit hM o1 y2
    have h27 := hW.1.2.2.1
    have hhm := q_hasMark (d := d) zk86 hB hW.wk (nI (opA b p)) (nI (lst (g (opA b p))))
    rw [hyl, iI_n (by omega), decide_eq_true (isO_cell o2), iD_c hyb.1 hyb.2 (by omega), n_toInt (by omega), n_toInt (by omega), Int.toNat_natCast, Int.toNat_natCast, Bool.true_and, Bool.true_and] at hhm
    have hwl := wL_len (b := b) (g := g) (p := p)
    have ih1 := ih (p + 1) (by omega)
    rw [wL_succ] at ih1
    have hwq : wq b g (opA b p) = !(b (112 + opA b p)).testBit y := by unfold wq; rw [hyl]
    have hlt : ∀ i, (wL b g p).head? = some i → i < 2147483648 := fun i hi => by
      have hm : i ∈ wL b g p := List.mem_of_mem_head? hi
      unfold wL at hm
      obtain ⟨r, hr, rfl⟩ := List.mem_map.mp hm
      have := List.mem_range.mp (List.mem_filter.mp hr).1
      have := (opA_mem (b := b) (p := r) (by omega)).1
      omega
    refine e_C_wrong_64 ?_
    rw [hpl, zC1_some, if_pos ((n_lt (by omega) (by omega)).mpr hp), q_ScellAt hP h16 hp, zC1_some, hda, zC1_some, hyl, hhm, zC1_some, n_add1, n_add1]
    cases hb : (b (112 + opA b p)).testBit y with
    | true =>
      rw [hb] at hwq
      rw [hwq, if_neg (by decide), List.append_nil] at ih1
      rw [if_neg (show ¬ nB true = nI 0 by decide)]
      exact ih1
    | false =>
      rw [hb] at hwq
      rw [hwq, if_pos (by decide), List.length_append, List.length_singleton] at ih1
      rw [if_pos (show nB false = nI 0 from rfl)]
      cases hh : (wL b g p).head? with
      | none =>
        have he : wL b g p = [] := List.head?_eq_none_iff.mp hh
        rw [if_pos (show pO none = -2 from rfl)]
        rw [he] at ih1 ⊢
        exact ih1
      | some i =>
        rw [if_neg (fun z => by have := (pO_m2 (o := some i) (fun i' hi => hlt i' (by rw [hh]; exact hi))).mp z; cases this)]
        rw [List.head?_append, hh] at ih1
        exact ih1
theorem c_wrong (hB : BRep b 86 M) (hW : Wf b) (hD : WfD b) (hS : Sv n M) (hn : n + 1 < 1048576) (x : Int32) : ∃ M', zEv (d + 24) zmC_wrong [.ref 64, .int x] M = some (some (.int (spWrong b x)), M') ∧ Sv (n + 1) M' ∧ fr pQy pQy M M' := by
  unfold spWrong
  have h16 := hW.2.2.2.2.1
  have ht := q_isTold (d := d + 22) zk86 hB.sc hW.wk
  rw [told_eq hW] at ht
  cases hto : decide (0 < b 2) with
  | false =>
    rw [hto] at ht
    refine ⟨M, e_C_wrong ?_, hS.le (by omega), fr.refl⟩
    rw [ht, zC1_some, if_pos (show nB false = nI 0 from rfl)]
    rfl
  | true =>
    rw [hto] at ht
    rw [Bool.true_and]
    cases hx : iI x 2 with
    | false =>
      have hx' : ¬ iI x 2 = true := by rw [hx]; decide
      rw [iI_if] at hx'
      refine ⟨M, e_C_wrong ?_, hS.le (by omega), fr.refl⟩
      rw [ht, zC1_some, if_neg (show ¬ nB true = nI 0 by decide), cond_false]
      by_cases h0 : x < nI 0
      · rw [if_pos h0]
      · rw [if_neg h0, if_pos]
        rw [Int32.lt_iff_toInt_lt, n_toInt (by omega)] at h0 ⊢
        omega
    | true =>
      obtain ⟨v, hv, rfl⟩ := iI_ex (by omega) hx
      obtain ⟨M0, z1, z2, z3⟩ := q_marksBy (d := d + 20) zk86 zk126 (by omega) hW.wk hB.sc (-1) (fun c hc _ _ => hB.2.2.1 c hc)
      have f0 : fr pQy pQy M M0 := z2.mono (fun a k z => by unfold pQy; omega) fun _ _ z => z.elim
      have hB0 := brq hB hW f0
      obtain ⟨M1, a1, a2, a3, a4, a5⟩ := c_look (d := d) hB0 hW (hS.out z2 (fun a k z => by omega) fun a k z => z.elim) hn zk126 (by omega) (clr_mv hW hD) (fun c hc => by rw [z3 c hc, clr_mbg hW hD hc (nI_m1 hc)]) (m := 2) (by omega) (by omega)
      have hB1 := brq hB0 hW (fr_Se a5)
      have hcw := (clr_w hW (wfV_of hD)).1
      have hsl := slv_of hcw hW.n36 (clr_hi hW) (mk := fun c => clr b (112 + c)) (fun _ => rfl)
      have hll : (slv (clr b)).length = (SL b fun c => clr b (112 + c)).length := by rw [hsl, List.length_map]
      have head : ∀ rr, (if nI (min 2 (SL b fun c => clr b (112 + c)).length) = nI 1 then h_C_wrong_64 (d + 23) (nI v) (nI 0) (-2 : Int32) (nI 0) M1 else some (some (.int (-2 : Int32)), M1)) = some rr → zEv (d + 24) zmC_wrong [.ref 64, .int (nI v)] M = some rr := fun rr hrr => by
        refine e_C_wrong ?_
        rw [ht, zC1_some, if_neg (show ¬ nB true = nI 0 by decide), if_neg (by rw [n_lt (by omega) (by omega)]; omega), if_neg (by rw [n_lt (by omega) (by omega)]; omega), z1, zC0_some, a1, zC1_some]
        exact hrr
      rw [cond_true, hll]
      by_cases h1 : (SL b fun c => clr b (112 + c)).length = 1
      · obtain ⟨g, hgl⟩ := List.length_eq_one_iff.mp h1
        have hg : g ∈ SL b fun c => clr b (112 + c) := by rw [hgl]; exact List.mem_cons_self
        rw [if_pos h1, hsl, hgl]
        rw [hgl] at a2
        have hlp := c_wrong_64 (d := d + 21) hB1 hW (g := g) (A := [g]) rfl (Nat.zero_lt_succ _) a2 a3 (clr_mv hW hD) hg (nI v) (openN b) 0 (by omega)
        refine ⟨M1, head _ ?_, a4, f0.trans (fr_Se a5)⟩
        rw [h1, if_pos (show nI (min 2 1) = nI 1 from rfl)]
        unfold wrR
        rw [show (List.map (rowM (clr b)) [g]).getD 0 (fun _ => 0) = rowM (clr b) g from rfl, wL_all hW hg]
        exact hlp
      · rw [if_neg h1]
        refine ⟨M1, head _ ?_, a4, f0.trans (fr_Se a5)⟩
        rw [if_neg (by rw [n_eq (by omega) (by omega)]; omega)]
theorem c_idle_18 (hW : Wf b) (hD : WfD b) : ∀ j c m (M : ZM), c + j = 36 → BRep b 86 M → Sv m M → m + j < 1048576 → ∃ M', h_C_idle_18 (d + 23) (nJ (msk c (idP b))) (nI c) M = some (some (.long (nJ (msk 36 (idP b)))), M') ∧ Sv (m + j) M' ∧ fr pQy pQy M M' := by
  have h36 := hW.n36
  intro j
  induction j with
  | zero =>
    intro c m M h hB hS hm
    obtain rfl : c = 36 := by omega
    refine ⟨M, e_C_idle_18 ?_, hS, fr.refl⟩
    rw [if_neg (by rw [n_lt (by omega) (by omega)]; omega)]
  | succ j ih =>
    intro c m M h hB hS hm
    have hc : c < 36 := by omega
    have hwc := hW.2.2.2.1 c hc
    have hgv := q_isGiven (d := d + 21) zk86 hB.sc hW.wk (nI c)
    have eg : gI b (nI c) = decide (b (76 + c) = 1) := by
      unfold gI
      rw [iI_n (by omega), n_toInt (by omega), Int.toNat_natCast]
      by_cases hN : c < b 0 * b 1
      · rw [decide_eq_true hN, Bool.true_and]
      · have hO : isO b c = false := by unfold isO; rw [decide_eq_false hN, Bool.false_and]
        rw [(hwc.2.2 hO).2.2, decide_eq_false hN]
        rfl
    rw [eg] at hgv
    by_cases hg : b (76 + c) = 1
    · rw [decide_eq_true hg] at hgv
      have hO : isO b c = true := by
        cases h : isO b c with
        | true => rfl
        | false => have := (hwc.2.2 h).2.2; omega
      obtain ⟨M0, z1, z2, z3⟩ := q_marksBy (d := d + 20) zk86 zk126 (by omega) hW.wk hB.sc (nI c) (fun c hc _ _ => hB.2.2.1 c hc)
      have f0 : fr pQy pQy M M0 := z2.mono (fun a k z => by unfold pQy; omega) fun _ _ z => z.elim
      have hB0 := brq hB hW f0
      have hcw := (clr_w hW (wfV_of hD)).1
      have hmv : MV b (um (fun c => clr b (112 + c)) c (allM b)) := fun y hy => by
        by_cases e : y = c
        · rw [e, um_at]
          exact ⟨⟨allM_lt0 b, allM_0 b⟩, fun z => by rw [hO] at z; cases z⟩
        · rw [um_ne e]
          exact clr_mv hW hD y hy
      obtain ⟨M1, a1, a2, a3, a4, a5⟩ := c_look (d := d) hB0 hW (hS.out z2 (fun a k z => by omega) fun a k z => z.elim) (by omega) zk126 (by omega) hmv (fun y hy => by
        rw [z3 y hy]
        by_cases e : y = c
        · rw [e, um_at]
          unfold mbg
          rw [hO, if_pos rfl, if_neg fun z => z.2 rfl]
        · rw [um_ne e, clr_mbg hW hD hy (by
            intro z
            exact e ((n_eq (by omega) (by omega)).mp z))]) (m := 2) (by omega) (by omega)
      have hB1 := brq hB0 hW (fr_Se a5)
      have hW' : Wf (setK (clr b) c (allM b)) := by
        refine wf_setK hcw (by rw [clr_isO hW]; exact hO) ?_ (allM_0 b)
        rw [clr_ne hW (by omega)]
        exact allM_lt0 b
      have hsl := slv_of hW' hW.n36 (fun k hk => by rw [setK_hi hc k hk]; exact clr_hi hW k hk) (mk := um (fun c => clr b (112 + c)) c (allM b)) (fun y => setK_mk y)
      have hll : (slv (setK (clr b) c (allM b))).length = (SL b (um (fun c => clr b (112 + c)) c (allM b))).length := by rw [hsl, List.length_map]
      have hid : idP b c = decide ((SL b (um (fun c => clr b (112 + c)) c (allM b))).length = 1) := by
        unfold idP
        rw [hll, decide_eq_false (show ¬ b (76 + c) = 0 by omega)]
        rfl
      obtain ⟨M', b1, b2, b3⟩ := ih (c + 1) (m + 1) M1 (by omega) hB1 a4 (by omega)
      rw [msk_succ, hid] at b1
      refine ⟨M', e_C_idle_18 ?_, b2.le (by omega), (f0.trans (fr_Se a5)).trans b3⟩
      rw [if_pos ((n_lt (by omega) (by omega)).mpr hc), hgv, zC1_some, if_neg (show ¬ nB true = nI 0 by decide), z1, zC0_some, a1, zC1_some, n_add1]
      by_cases h1 : (SL b (um (fun c => clr b (112 + c)) c (allM b))).length = 1
      · rw [decide_eq_true h1, cond_true] at b1
        rw [h1, if_pos (show nI (min 2 1) = nI 1 from rfl), l_one hc, l_or]
        exact b1
      · rw [decide_eq_false h1, cond_false, Nat.or_zero] at b1
        rw [if_neg (by rw [n_eq (by omega) (by omega)]; omega)]
        exact b1
    · rw [decide_eq_false hg] at hgv
      obtain ⟨M', b1, b2, b3⟩ := ih (c + 1) m M (by omega) hB hS (by omega)
      have hid : idP b c = false := by
        unfold idP
        rw [decide_eq_true (show b (76 + c) = 0 by have := hwc.1.2; omega)]
        rfl
      rw [msk_succ, hid, cond_false, Nat.or_zero] at b1
      refine ⟨M', e_C_idle_18 ?_, b2.le (by omega), b3⟩
      rw [if_pos ((n_lt (by omega) (by omega)).mpr hc), hgv, zC1_some, if_pos (show nB false = nI 0 from rfl), n_add1]
      exact b1
theorem c_idle (hB : BRep b 86 M) (hW : Wf b) (hD : WfD b) (hS : Sv n M) (hn : n + 40 < 1048576) : ∃ M', zEv (d + 24) zmC_idle [.ref 64] M = some (some (.long (spIdle b)), M') ∧ Sv (n + 40) M' ∧ fr pQy pQy M M' := by
  unfold spIdle
  have ht := q_isTold (d := d + 22) zk86 hB.sc hW.wk
  rw [told_eq hW] at ht
  cases hto : decide (0 < b 2) with
  | false =>
    rw [hto] at ht
    refine ⟨M, e_C_idle ?_, hS.le (by omega), fr.refl⟩
    rw [ht, zC1_some, if_pos (show nB false = nI 0 from rfl)]
    rfl
  | true =>
    rw [hto] at ht
    obtain ⟨M', a1, a2, a3⟩ := c_idle_18 (d := d) hW hD 36 0 n M (by omega) hB hS (by omega)
    have em : msk 36 (idP b) = msk (b 0 * b 1) (idP b) := by
      apply Nat.eq_of_testBit_eq
      intro z
      rw [msk_bit, msk_bit]
      have h36 := hW.n36
      by_cases h : z < b 0 * b 1
      · rw [decide_eq_true h, decide_eq_true (show z < 36 by omega)]
      · rw [decide_eq_false h, Bool.false_and]
        by_cases hz : z < 36
        · have hO : isO b z = false := by unfold isO; rw [decide_eq_false h, Bool.false_and]
          have : idP b z = false := by
            unfold idP
            rw [decide_eq_true ((hW.2.2.2.1 z hz).2.2 hO).2.2]
            rfl
          rw [this, Bool.and_false]
        · rw [decide_eq_false hz, Bool.false_and]
    rw [em] at a1
    refine ⟨M', e_C_idle ?_, a2.le (by omega), a3⟩
    rw [ht, zC1_some, if_neg (show ¬ nB true = nI 0 by decide), cond_true]
    exact a1
end QX7
