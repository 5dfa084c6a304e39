/-! THE CLASS, 10: a cage is added to the board that is read -/
section QK
variable {d : Nat} {M : ZM} {q : Nat} {r : Nat → Nat}
def flN (S : Nat → Bool) (i : Nat) : List Nat := (List.range i).filter S
theorem flN_succ (S : Nat → Bool) (i : Nat) : flN S (i + 1) = flN S i ++ (if S i = true then [i] else []) := by
  unfold flN
  rw [List.range_succ, List.filter_append]
  congr 1
  cases h : S i with
  | true => rw [if_pos rfl, List.filter_cons_of_pos h]; rfl
  | false => rw [if_neg (by simp), List.filter_cons_of_neg (by rw [h]; simp)]; rfl
theorem flN_le (S : Nat → Bool) {i : Nat} (hi : i ≤ 36) : (flN S i).length ≤ (cOf S).length := by
  unfold flN cOf
  rw [show (36 : Nat) = i + (36 - i) by omega, List.range_add, List.filter_append, List.length_append]
  omega
theorem q_addCage_l (hq : zkd q = (10, 0)) {S : Nat → Bool} (h6 : (cOf S).length ≤ 6) {k0 : Nat} (hk : k0 < 12) : ∀ j i (M : ZM), i + j = 36 → M.1 q 3 = nI k0 → (∀ p, p < (flN S i).length → M.1 (q + 7 + k0) p = nI ((flN S i).getD p 0)) →
    ∃ M', h_B_addCage_77 d q (nJ (msk 36 S)) (nI (flN S i).length) (nI i) M = some (none, M') ∧ (∀ p, p < (cOf S).length → M'.1 (q + 7 + k0) p = nI ((cOf S).getD p 0)) ∧ M'.1 (q + 4) k0 = nI (cOf S).length ∧ M'.1 q 3 = nI (k0 + 1) ∧ frI (fun a k => a = q + 7 + k0 ∨ (a = q + 4 ∧ k = k0) ∨ (a = q ∧ k = 3)) M M' := by
  intro j
  induction j with
  | zero =>
    intro i M h h3 hL
    obtain rfl : i = 36 := by omega
    refine ⟨zpi (zpi M (q + 4) k0 (nI (cOf S).length)) q 3 (nI (k0 + 1)), e_B_addCage_77 hq ?_, fun p hp => ?_, ?_, ?_, (fr.refl.pi (Or.inr (Or.inl ⟨rfl, rfl⟩))).pi (Or.inr (Or.inr ⟨rfl, rfl⟩))⟩
    · rw [if_neg (by decide), h3, if_pos ((n_zin (by omega)).mpr hk), n_clamp (by omega), m_pi, if_neg (by omega), h3, n_add1]
      rfl
    · rw [m_pi, if_neg (by omega), m_pi, if_neg (by omega)]
      exact hL p hp
    · rw [m_pi, if_neg (by omega), m_pi, if_pos ⟨rfl, rfl⟩]
    · rw [m_pi, if_pos ⟨rfl, rfl⟩]
  | succ j ih =>
    intro i M h h3 hL
    have hm := msk36 S
    have hb := l_bit (m := msk 36 S) (d := i) (by omega) (by omega)
    rw [msk_bit, decide_eq_true (show i < 36 by omega), Bool.true_and] at hb
    have hle := flN_le S (show i ≤ 36 by omega)
    have hle1 := flN_le S (show i + 1 ≤ 36 by omega)
    have eF := flN_succ S i
    cases hS : S i with
    | false =>
      rw [hS, if_neg (by simp), List.append_nil] at eF
      obtain ⟨M', a1, a2⟩ := ih (i + 1) M (by omega) h3 (by rw [eF]; exact hL)
      rw [eF] at a1
      refine ⟨M', e_B_addCage_77 hq ?_, a2⟩
      rw [if_pos ((n_lt (by omega) (by omega)).mpr (by omega)), if_neg (fun z => by rw [hb.mp z] at hS; cases hS), n_add1]
      exact a1
    | true =>
      rw [hS, if_pos rfl] at eF
      have el : (flN S (i + 1)).length = (flN S i).length + 1 := by rw [eF, List.length_append]; rfl
      obtain ⟨M', a1, a2, a3, a4, a5⟩ := ih (i + 1) (zpi M (q + 7 + k0) (flN S i).length (nI i)) (by omega) (by rw [m_pi, if_neg (by omega)]; exact h3) (fun p hp => by
        rw [el] at hp
        rw [eF, m_pi]
        by_cases e : p = (flN S i).length
        · rw [if_pos ⟨rfl, e⟩, e, getD_b (Nat.le_refl _), Nat.sub_self]; rfl
        · rw [if_neg (fun z => e z.2), getD_a (by omega)]
          exact hL p (by omega))
      rw [el] at a1
      refine ⟨M', e_B_addCage_77 hq ?_, a2, a3, a4, (fr.refl.pi (Or.inl rfl)).trans a5⟩
      rw [if_pos ((n_lt (by omega) (by omega)).mpr (by omega)), if_pos (hb.mpr hS), if_pos ((n_lt (by omega) (by omega)).mpr (by omega)), h3, if_pos ((n_zin (by omega)).mpr hk), if_pos ((n_zin (by omega)).mpr (by omega)), n_clamp (by omega), n_clamp (by omega), n_add1, n_add1]
      exact a1
theorem q_addCage_b (hq : zkd q = (10, 0)) (hB : BRep (mkR r) q M) (hV : PV r) {t n u : Nat} {S : Nat → Bool} (h3 : r 3 < 12) (ht : t ≤ 3) (hn : n ≤ 999999) (hu : u ≤ 1) (hS : ∀ x, S x = true → isO r x = true) (h1 : 1 ≤ (cOf S).length) (h6 : (cOf S).length ≤ 6) :
    ∃ M', zEv (d + 1) zmB_addCage [.ref q, .int (nI t), .int (nI n), .int (nB (decide (u = 0))), .long (nJ (msk 36 S))] M = some (none, M') ∧ BRep (mkR (finR (cagR r (148 + 10 * r 3) t n u) (148 + 10 * r 3) S)) q M' ∧ fr (pBd q) (pBd q) M M' := by
  have h36 := hV.n36
  have hV' := hV.fin h3 ht hn hu hS h1 h6
  have hW := pv_wk hV
  have h36' := hV'.n36
  generalize hR : finR (cagR r (148 + 10 * r 3) t n u) (148 + 10 * r 3) S = r' at *
  have low : ∀ k, k < 148 → k ≠ 3 → r' k = r k := fun k hk hk3 => by
    rw [← hR]
    unfold finR
    rw [upN_ne hk3, memR_low (by omega) h6, cagR_ne (by omega)]
  have low2 : ∀ k, 148 ≤ k → k < 148 + 10 * r 3 → r' k = r k := fun k hk hk3 => by
    rw [← hR]
    unfold finR
    rw [upN_ne (by omega), memR_low (by omega) h6, cagR_ne (by omega)]
  have e3 : r' 3 = r 3 + 1 := by rw [← hR]; unfold finR; rw [upN_at, cagR_ne (by omega)]
  have g0 : r' (148 + 10 * r 3) = t := by
    rw [← hR]
    unfold finR
    rw [upN_ne (by omega), memR_low (by omega) h6]
    unfold cagR
    rw [upN_ne (by omega), upN_ne (by omega), upN_at]
  have g1 : r' (149 + 10 * r 3) = n := by
    rw [← hR]
    unfold finR
    rw [upN_ne (by omega), memR_low (by omega) h6]
    unfold cagR
    rw [upN_ne (by omega), show 149 + 10 * r 3 = 148 + 10 * r 3 + 1 by omega, upN_at]
  have g2 : r' (150 + 10 * r 3) = u := by
    rw [← hR]
    unfold finR
    rw [upN_ne (by omega), memR_low (by omega) h6]
    unfold cagR
    rw [show 150 + 10 * r 3 = 148 + 10 * r 3 + 2 by omega, upN_at]
  have gN : cgN r' (r 3) = (cOf S).length := by
    rw [← hR]
    unfold cgN finR
    rw [upN_ne (by omega)]
    unfold memR
    rw [if_pos (by omega)]
  have gC : ∀ i, i < (cOf S).length → cgC r' (r 3) i = (cOf S).getD i 0 := fun i hi => by
    rw [← hR]
    unfold cgC finR
    rw [upN_ne (by omega)]
    unfold memR
    rw [if_neg (by omega), if_pos (by omega), show 152 + 10 * r 3 + i - (148 + 10 * r 3 + 4) = i by omega]
  have eO : isO r' = isO r := isO_cg h36 fun k hk => by
    by_cases e : k = 3
    · exact Or.inr (Or.inr e)
    · exact Or.inl (low k (by omega) e)
  have q0 : ∀ k, k < 148 → k ≠ 3 → mkR r' k = mkR r k := fun k hk hk3 => by
    by_cases hm : 112 ≤ k
    · obtain ⟨x, rfl⟩ : ∃ x, k = 112 + x := ⟨k - 112, by omega⟩
      rw [mkR_at hV' (by omega), mkR_at hV (by omega), eO, low (76 + x) (by omega) (by omega), low (40 + x) (by omega) (by omega)]
      unfold allM
      rw [low 2 (by omega) (by omega)]
    · rw [mkR_low h36' (by omega), mkR_low h36 (by omega), low k hk hk3]
  have qh : ∀ k, 148 ≤ k → mkR r' k = r' k := fun k hk => mkR_low h36' (by omega)
  have qh0 : ∀ k, 148 ≤ k → mkR r k = r k := fun k hk => mkR_low h36 (by omega)
  have m3 : mkR r' 3 = r 3 + 1 := by rw [mkR_low h36' (by omega), e3]
  have m30 : mkR r 3 = r 3 := mkR_low h36 (by omega)
  have qU : ∀ k, k < r 3 → cgU (mkR r') k = cgU (mkR r) k := fun k hk => by
    unfold cgU
    rw [qh _ (by omega), qh0 _ (by omega), low2 _ (by omega) (by omega)]
  have eA : aM (mkR r') = aM (mkR r) ||| (bif decide (u = 0) then 2 ^ r 3 else 0) := by
    unfold aM
    rw [m3, m30, msk_succ]
    congr 1
    · exact msk_congr fun k hk => by rw [qU k hk]
    · have : (!cgU (mkR r') (r 3)) = decide (u = 0) := by
        unfold cgU
        rw [qh _ (by omega), g2]
        rcases (show u = 0 ∨ u = 1 by omega) with z | z <;> rw [z] <;> rfl
      rw [this]
  have eN : ∀ k, k < r 3 → cgN (mkR r') k = cgN (mkR r) k := fun k hk => by
    unfold cgN
    rw [qh _ (by omega), qh0 _ (by omega), low2 _ (by omega) (by omega)]
  have eC : ∀ k i, k < r 3 → i < 6 → cgC (mkR r') k i = cgC (mkR r) k i := fun k i hk hi => by
    unfold cgC
    rw [qh _ (by omega), qh0 _ (by omega), low2 _ (by omega) (by omega)]
  have hc6 : ∀ k, k < r 3 → cgN (mkR r) k ≤ 6 := fun k hk => by
    have := (hV.2.2 k hk).2.1.2
    unfold cgN at this ⊢
    rw [qh0 _ (by omega)]
    exact this
  have eI : ∀ k, k < r 3 → iM (mkR r') k = iM (mkR r) k := fun k hk => by
    unfold iM
    have h6k := hc6 k hk
    refine msk_congr fun x hx => ?_
    rw [Bool.eq_iff_iff, inC_iff2, inC_iff2, eN k hk]
    exact ⟨fun ⟨i, h1, h2⟩ => ⟨i, h1, by rw [← eC k i hk (by omega)]; exact h2⟩, fun ⟨i, h1, h2⟩ => ⟨i, h1, by rw [eC k i hk (by omega)]; exact h2⟩⟩
  have mN : cgN (mkR r') (r 3) = (cOf S).length := by rw [← gN]; exact qh _ (by omega)
  have mC : ∀ i, i < (cOf S).length → cgC (mkR r') (r 3) i = (cOf S).getD i 0 := fun i hi => by rw [← gC i hi]; exact qh _ (by omega)
  have mI : iM (mkR r') (r 3) = msk 36 S := by
    unfold iM
    refine msk_congr fun x hx => ?_
    rw [Bool.eq_iff_iff, inC_iff2, mN]
    constructor
    · rintro ⟨i, h1, h2⟩
      rw [mC i h1] at h2
      have := getD_mem h1
      rw [h2] at this
      exact (cOf_mem.mp this).2
    · intro h
      obtain ⟨i, h1, h2⟩ := List.mem_iff_getElem.mp (cOf_mem.mpr ⟨hx, h⟩)
      exact ⟨i, h1, by rw [mC i h1, getD_el h1]; exact h2⟩
  have w1 : ∀ {k : Nat} (v : Int32) (M : ZM), (zpi M q k v).1 q 3 = if k = 3 then v else M.1 q 3 := fun {k} v M => by
    rw [m_pi]
    by_cases e : k = 3
    · rw [if_pos ⟨rfl, e.symm⟩, if_pos e]
    · rw [if_neg (fun z => e z.2.symm), if_neg e]
  have h03 : M.1 q 3 = nI (r 3) := by rw [hB.1.2.2, m30]
  let M1 : ZM := zpi (zpi M (q + 2) (r 3) (nI t)) (q + 3) (r 3) (nI n)
  let M2 : ZM := zpi (zpl M1 (q + 5) (r 3) (nJ (msk 36 S))) q 7 (nI (aM (mkR r) ||| (bif decide (u = 0) then 2 ^ r 3 else 0)))
  have hM2 : M2.1 q 3 = nI (r 3) := by
    show (zpi _ q 7 _).1 q 3 = _
    rw [m_pi, if_neg (by omega), m_pl1, m_pi, if_neg (by omega), m_pi, if_neg (by omega)]
    exact h03
  obtain ⟨M', a1, a2, a3, a4, a5⟩ := q_addCage_l (d := d) hq (S := S) h6 h3 36 0 M2 (by omega) hM2 (fun p hp => absurd hp (Nat.not_lt_zero p))
  have rM1 : ∀ a k, a ≠ q + 7 + r 3 → ¬ (a = q + 4 ∧ k = r 3) → ¬ (a = q ∧ (k = 3 ∨ k = 7)) → ¬ (a = q + 2 ∧ k = r 3) → ¬ (a = q + 3 ∧ k = r 3) → M'.1 a k = M.1 a k := fun a k z1 z2 z3 z4 z5 => by
    rw [a5.1 a k (by omega)]
    show (zpi _ q 7 _).1 a k = _
    rw [m_pi, if_neg (by omega), m_pl1, m_pi, if_neg (by omega), m_pi, if_neg (by omega)]
  have rM2 : ∀ a k, ¬ (a = q + 5 ∧ k = r 3) → M'.2 a k = M.2 a k := fun a k z => by
    rw [a5.2 a k (fun z => z)]
    show (zpl _ (q + 5) _ _).2 a k = _
    rw [m_pl, if_neg z]
    rfl
  refine ⟨M', e_B_addCage hq ?_, ?_, ?_⟩
  · have hz : zin (nI (r 3)) 12 = true := (n_zin (by omega)).mpr h3
    have i1 : (zpi M (q + 2) (r 3) (nI t)).1 q 3 = nI (r 3) := by rw [m_pi, if_neg (by omega)]; exact h03
    have i2 : M1.1 q 3 = nI (r 3) := by show (zpi _ (q + 3) _ _).1 q 3 = _; rw [m_pi, if_neg (by omega)]; exact i1
    have i7 : (zpl M1 (q + 5) (r 3) (nJ (msk 36 S))).1 q 7 = nI (aM (mkR r)) := by
      rw [m_pl1]
      show (zpi (zpi M (q + 2) (r 3) (nI t)) (q + 3) _ _).1 q 7 = _
      rw [m_pi, if_neg (by omega), m_pi, if_neg (by omega)]
      exact hB.2.1.2.2
    rw [h03, if_neg (by rw [n_lt (by omega) (by omega)]; omega), if_pos ((n_lt (by omega) (by omega)).mpr h3), if_pos hz, n_clamp (by omega), i1, if_pos hz, n_clamp (by omega), zLr]
    show (if zin (M1.1 q 3) 12 = true then _ else _) = _
    rw [i2, if_pos hz, n_clamp (by omega)]
    cases hd : decide (u = 0) with
    | false =>
      rw [if_pos (show nB false = nI 0 from rfl), zLr]
      have : M2 = zpi (zpl M1 (q + 5) (r 3) (nJ (msk 36 S))) q 7 ((zpl M1 (q + 5) (r 3) (nJ (msk 36 S))).1 q 7 ||| nI 0) := by
        show zpi _ q 7 _ = _
        rw [i7, n_or, hd]
        rfl
      rw [← this]
      exact a1
    | true =>
      rw [if_neg (by decide), zLr]
      have i3 : (zpl M1 (q + 5) (r 3) (nJ (msk 36 S))).1 q 3 = nI (r 3) := i2
      have : M2 = zpi (zpl M1 (q + 5) (r 3) (nJ (msk 36 S))) q 7 ((zpl M1 (q + 5) (r 3) (nJ (msk 36 S))).1 q 7 ||| nI 1 <<< (nI (r 3) &&& 31)) := by
        show zpi _ q 7 _ = _
        rw [i7, n_one (by omega), n_or, hd]
        rfl
      rw [i3, ← this]
      exact a1
  · have c7 : M'.1 q 7 = nI (aM (mkR r')) := by
      rw [a5.1 q 7 (by omega), eA]
      show (zpi _ q 7 _).1 q 7 = _
      rw [m_pi, if_pos ⟨rfl, rfl⟩]
    have c2 : M'.1 (q + 2) (r 3) = nI t := by
      rw [a5.1 _ _ (by omega)]
      show (zpi _ q 7 _).1 _ _ = _
      rw [m_pi, if_neg (by omega), m_pl1, m_pi, if_neg (by omega), m_pi, if_pos ⟨rfl, rfl⟩]
    have c3 : M'.1 (q + 3) (r 3) = nI n := by
      rw [a5.1 _ _ (by omega)]
      show (zpi _ q 7 _).1 _ _ = _
      rw [m_pi, if_neg (by omega), m_pl1, m_pi, if_pos ⟨rfl, rfl⟩]
    have c5 : M'.2 (q + 5) (r 3) = nJ (msk 36 S) := by
      rw [a5.2 _ _ (fun z => z)]
      show (zpl _ (q + 5) _ _).2 _ _ = _
      rw [m_pl, if_pos ⟨rfl, rfl⟩]
    have eOM : oM (mkR r') = oM (mkR r) := by unfold oM; rw [mkR_isO hV', mkR_isO hV, eO]
    have eG : gM (mkR r') = gM (mkR r) := by unfold gM; exact msk_congr fun x hx => by rw [q0 (76 + x) (by omega) (by omega)]
    have eP : pM (mkR r') = pM (mkR r) := by unfold pM; exact msk_congr fun x hx => by rw [q0 (76 + x) (by omega) (by omega), q0 (40 + x) (by omega) (by omega)]
    unfold BRep
    rw [q0 0 (by omega) (by omega), q0 1 (by omega) (by omega), q0 2 (by omega) (by omega), m3, eOM, eG, eP, c7, a4, rM1 q 0 (by omega) (by omega) (by omega) (by omega) (by omega), rM1 q 1 (by omega) (by omega) (by omega) (by omega) (by omega), rM1 q 2 (by omega) (by omega) (by omega) (by omega) (by omega), rM2 q 4 (by omega), rM2 q 5 (by omega), rM2 q 6 (by omega)]
    refine ⟨⟨hB.1.1, hB.1.2.1, rfl⟩, ⟨hB.2.1.1, hB.2.1.2.1, rfl⟩, fun x hx => ?_, fun k hk => ?_⟩
    · rw [rM1 (q + 1) x (by omega) (by omega) (by omega) (by omega) (by omega), q0 (112 + x) (by omega) (by omega)]
      exact hB.2.2.1 x hx
    · by_cases e : k = r 3
      · rw [e, c2, c3, a3, c5, qh _ (by omega), qh _ (by omega), g0, g1, mN, mI]
        exact ⟨⟨⟨rfl, rfl⟩, rfl, rfl⟩, fun i hi => by rw [a2 i hi, mC i hi]⟩
      · have hk2 : k < r 3 := by omega
        have hh := hB.2.2.2 k (by rw [m30]; exact hk2)
        rw [rM1 (q + 2) k (by omega) (by omega) (by omega) (by omega) (by omega), rM1 (q + 3) k (by omega) (by omega) (by omega) (by omega) (by omega), rM1 (q + 4) k (by omega) (by omega) (by omega) (by omega) (by omega), rM2 (q + 5) k (by omega), eN k hk2, eI k hk2, qh (148 + 10 * k) (by omega), qh (149 + 10 * k) (by omega), low2 (148 + 10 * k) (by omega) (by omega), low2 (149 + 10 * k) (by omega) (by omega), ← qh0 (148 + 10 * k) (by omega), ← qh0 (149 + 10 * k) (by omega)]
        have h6k := hc6 k hk2
        refine ⟨hh.1, fun i hi => ?_⟩
        rw [rM1 (q + 7 + k) i (by omega) (by omega) (by omega) (by omega) (by omega), eC k i hk2 (by omega)]
        exact hh.2 i hi
  · refine ⟨fun a k h => ?_, fun a k h => ?_⟩
    · unfold pBd at h
      exact rM1 a k (by omega) (by omega) (by omega) (by omega) (by omega)
    · unfold pBd at h
      exact rM2 a k (by omega)
end QK
