/-! THE CLASS, 9: the board that is read: laid, blocked, with cages -/
theorem msk0 (n : Nat) : msk n (fun _ => false) = 0 := by
  apply Nat.eq_of_testBit_eq
  intro i
  rw [msk_bit, Bool.and_false, Nat.zero_testBit]
theorem mkR_at {r : Nat → Nat} (hV : PV r) {x : Nat} (hx : x < 36) : mkR r (112 + x) = if isO r x = true then (if r (76 + x) = 1 then 2 ^ r (40 + x) else allM r) else 0 := by
  have h36 := hV.n36
  by_cases hc2 : x < r 0 * r 1
  · unfold mkR
    rw [mkN_at h36 hc2 h36, (hV.2.1 x hx).2.2.2]
  · unfold mkR
    rw [mkN_ne (by omega), (hV.2.1 x hx).2.2.2, if_neg]
    unfold isO
    rw [decide_eq_false hc2]
    simp
theorem mkR_isO {r : Nat → Nat} (hV : PV r) : isO (mkR r) = isO r := mkN_isO hV.n36 _
section QJ
variable {d : Nat} {M : ZM} {b : Nat → Nat} {q : Nat} {r : Nat → Nat}
theorem BRep.ext {b b' : Nat → Nat} (h : BRep b q M) (h12 : b 3 ≤ 12) (hN : b 0 * b 1 ≤ 36) (hc6 : ∀ k, k < b 3 → cgN b k ≤ 6) (e : ∀ k, k < 268 → b' k = b k) : BRep b' q M := by
  have eO : isO b' = isO b := funext fun x => by
    unfold isO
    rw [e 0 (by omega), e 1 (by omega)]
    by_cases hx : x < b 0 * b 1
    · rw [e (4 + x) (by omega)]
    · rw [decide_eq_false hx, Bool.false_and, Bool.false_and]
  have eG : gM b' = gM b := by unfold gM; exact msk_congr fun x hx => by rw [e (76 + x) (by omega)]
  have eP : pM b' = pM b := by unfold pM; exact msk_congr fun x hx => by rw [e (76 + x) (by omega), e (40 + x) (by omega)]
  have eA : aM b' = aM b := by
    unfold aM
    rw [e 3 (by omega)]
    exact msk_congr fun k hk => by unfold cgU; rw [e (150 + 10 * k) (by omega)]
  have eOM : oM b' = oM b := by unfold oM; rw [eO]
  have eN : ∀ k, k < b 3 → cgN b' k = cgN b k := fun k hk => e _ (by omega)
  have eC : ∀ k i, k < b 3 → i < cgN b k → cgC b' k i = cgC b k i := fun k i hk hi => by have := hc6 k hk; exact e _ (by omega)
  have eI : ∀ k, k < b 3 → iM b' k = iM b k := fun k hk => by
    unfold iM
    refine msk_congr fun x hx => ?_
    rw [Bool.eq_iff_iff, inC_iff2, inC_iff2, eN k hk]
    exact ⟨fun ⟨i, h1, h2⟩ => ⟨i, h1, by rw [← eC k i hk h1]; exact h2⟩, fun ⟨i, h1, h2⟩ => ⟨i, h1, by rw [eC k i hk h1]; exact h2⟩⟩
  unfold BRep
  rw [e 0 (by omega), e 1 (by omega), e 2 (by omega), e 3 (by omega), eOM, eG, eP, eA]
  refine ⟨h.1, h.2.1, fun c hc => by rw [e (112 + c) (by omega)]; exact h.2.2.1 c hc, fun k hk => ?_⟩
  rw [e (148 + 10 * k) (by omega), e (149 + 10 * k) (by omega), eN k hk, eI k hk]
  exact ⟨(h.2.2.2 k hk).1, fun i hi => by rw [eC k i hk hi]; exact (h.2.2.2 k hk).2 i hi⟩
theorem q_block (hq : zkd q = (10, 0)) (hB : BRep (mkR r) q M) (hV : PV r) (hB2 : PB r) {c : Nat} (hO : isO r c = true) (h76 : r (76 + c) = 0) (hK : inK r c = false) : ∃ M', zEv (d + 3) zmB_block [.ref q, .int (nI c)] M = some (none, M') ∧ BRep (mkR (upN r (4 + c) 1)) q M' ∧ fr (pBd q) (pBd q) M M' := by
  have hW := pv_wk hV
  have h36 := hV.n36
  have hcN := isO_cell hO
  have hc : c < 36 := by omega
  have hV' := hV.blk hB2 hcN h76 hK
  have ne : ∀ k, k ≠ 4 + c → upN r (4 + c) 1 k = r k := fun k hk => upN_ne hk
  have eO : ∀ x, x ≠ c → isO (upN r (4 + c) 1) x = isO r x := fun x hx => by
    unfold isO
    rw [ne 0 (by omega), ne 1 (by omega)]
    by_cases g : x < r 0 * r 1
    · rw [ne (4 + x) (by omega)]
    · rw [decide_eq_false g, Bool.false_and, Bool.false_and]
  have eOc : isO (upN r (4 + c) 1) c = false := by
    unfold isO
    rw [upN_at, Bool.and_eq_false_iff]
    exact Or.inr (decide_eq_false (by omega))
  have low : ∀ k, k < 112 ∨ 148 ≤ k → k ≠ 4 + c → mkR (upN r (4 + c) 1) k = mkR r k := fun k hk hk2 => by
    rw [mkR_low hV'.n36 hk, mkR_low h36 hk, ne k hk2]
  have eM : ∀ x, x < 36 → x ≠ c → mkR (upN r (4 + c) 1) (112 + x) = mkR r (112 + x) := fun x hx hxc => by
    rw [mkR_at hV' hx, mkR_at hV hx, eO x hxc, ne (76 + x) (by omega), ne (40 + x) (by omega)]
    unfold allM
    rw [ne 2 (by omega)]
  have eMc : mkR (upN r (4 + c) 1) (112 + c) = 0 := by rw [mkR_at hV' hc, eOc, if_neg (by simp)]
  have eN : ∀ k, cgN (mkR (upN r (4 + c) 1)) k = cgN (mkR r) k := fun k => low _ (by omega) (by omega)
  have eC : ∀ k i, cgC (mkR (upN r (4 + c) 1)) k i = cgC (mkR r) k i := fun k i => low _ (by omega) (by omega)
  have eI : ∀ k, iM (mkR (upN r (4 + c) 1)) k = iM (mkR r) k := fun k => by
    unfold iM
    congr 1
    funext x
    unfold inC plc
    rw [eN]
    congr 2
    funext i
    rw [eC]
  have e3 : mkR (upN r (4 + c) 1) 3 = mkR r 3 := low 3 (by omega) (by omega)
  have eA : aM (mkR (upN r (4 + c) 1)) = aM (mkR r) := by
    unfold aM
    rw [e3]
    congr 1
    funext k
    unfold cgU
    rw [low (150 + 10 * k) (by omega) (by omega)]
  have h312 : mkR r 3 ≤ 12 := hW.1.2.2.2
  refine ⟨zpi (zpl M q 4 (nJ (oM (mkR r) ^^^ (oM (mkR r) &&& 2 ^ c)))) (q + 1) c (nI 0), e_B_block hq ?_, ?_, (fr.refl.pl ⟨by omega, by omega⟩).pi ⟨by omega, by omega⟩⟩
  · rw [q_isOpen (d := d) hq hB.sc hW, zC1_some, oI_n (by omega), mkR_isO hV, hO, if_neg (by decide), if_pos ((n_zin (by omega)).mpr hc), n_clamp (by omega), hB.2.1.1.1, l_one hc, l_clr]
  · have r1 : ∀ a k, ¬ (a = q + 1 ∧ k = c) → (zpi (zpl M q 4 (nJ (oM (mkR r) ^^^ (oM (mkR r) &&& 2 ^ c)))) (q + 1) c (nI 0)).1 a k = M.1 a k := fun a k h => by rw [m_pi, if_neg h]; rfl
    have r2 : ∀ a k, ¬ (a = q ∧ k = 4) → (zpi (zpl M q 4 (nJ (oM (mkR r) ^^^ (oM (mkR r) &&& 2 ^ c)))) (q + 1) c (nI 0)).2 a k = M.2 a k := fun a k h => by rw [m_pi2, m_pl, if_neg h]
    unfold BRep
    rw [low 0 (by omega) (by omega), low 1 (by omega) (by omega), low 2 (by omega) (by omega), e3, eA, r1 q 0 (by omega), r1 q 1 (by omega), r1 q 2 (by omega), r1 q 3 (by omega), r1 q 7 (by omega), r2 q 5 (by omega), r2 q 6 (by omega)]
    refine ⟨hB.1, ⟨⟨?_, ?_⟩, ?_, hB.2.1.2.2⟩, fun x hx => ?_, fun k hk => ?_⟩
    · rw [m_pi2, m_pl, if_pos ⟨rfl, rfl⟩]
      congr 1
      unfold oM
      refine (msk_clr (fun y hy hyc => ?_) ?_).symm
      · rw [mkR_isO hV', mkR_isO hV, eO y hyc]
      · rw [mkR_isO hV', eOc]
    · rw [hB.2.1.1.2]
      congr 1
      unfold gM
      exact msk_congr fun y hy => by rw [low (76 + y) (by omega) (by omega)]
    · rw [hB.2.1.2.1]
      congr 1
      unfold pM
      exact msk_congr fun y hy => by rw [low (76 + y) (by omega) (by omega), low (40 + y) (by omega) (by omega)]
    · by_cases e : x = c
      · rw [e, m_pi, if_pos ⟨rfl, rfl⟩, eMc]
      · rw [r1 (q + 1) x (fun z => e z.2), eM x hx e]
        exact hB.2.2.1 x hx
    · rw [r1 (q + 2) k (by omega), r1 (q + 3) k (by omega), r1 (q + 4) k (by omega), r2 (q + 5) k (by omega), low (148 + 10 * k) (by omega) (by omega), low (149 + 10 * k) (by omega) (by omega), eN, eI]
      refine ⟨(hB.2.2.2 k hk).1, fun i hi => ?_⟩
      rw [r1 (q + 7 + k) i (by omega), eC]
      exact (hB.2.2.2 k hk).2 i hi
theorem zk68 : zkd 68 = (1, 36) := by decide +kernel
theorem zk67 : zkd 67 = (10, 0) := by decide +kernel
theorem q_lay {w h t : Nat} (hw : 1 ≤ w ∧ w ≤ 6) (hh : 1 ≤ h ∧ h ≤ 6) (ht : 2 ≤ t ∧ t ≤ 7) : ∃ M', zEv (d + 4) zmB_lay [.ref 67, .int (nI w), .int (nI h), .int (nI t)] M = some (none, M') ∧ BRep (mkR (sidR w h t)) 67 M' ∧ fr (pBd 67) (pBd 67) M M' := by
  have hV := sidR_v hw hh ht
  have h36 := hV.n36
  have e0 : sidR w h t 0 = w := by unfold sidR; rw [upN_ne (by omega), upN_ne (by omega), upN_at]
  have e1 : sidR w h t 1 = h := by unfold sidR; rw [upN_ne (by omega), upN_at]
  have e2 : sidR w h t 2 = t := by unfold sidR; rw [upN_at]
  rw [e0, e1] at h36
  have low : ∀ k, k < 112 ∨ 148 ≤ k → mkR (sidR w h t) k = sidR w h t k := fun k hk => mkR_low hV.n36 hk
  have eO : ∀ x, isO (mkR (sidR w h t)) x = decide (x < w * h) := fun x => by
    rw [mkR_isO hV]
    unfold isO
    rw [e0, e1, sidR_z (by omega), decide_eq_true rfl, Bool.and_true]
  have eOM : oM (mkR (sidR w h t)) = 2 ^ (w * h) - 1 := by
    apply Nat.eq_of_testBit_eq
    intro i
    unfold oM
    rw [msk_bit, Nat.testBit_two_pow_sub_one, eO]
    by_cases hi : i < w * h
    · rw [decide_eq_true hi, decide_eq_true (by omega)]; rfl
    · rw [decide_eq_false hi, Bool.and_false]
  have eG : gM (mkR (sidR w h t)) = 0 := by
    unfold gM
    rw [← msk0 36]
    exact msk_congr fun x hx => by rw [low (76 + x) (by omega), sidR_z (by omega)]; rfl
  have eP : pM (mkR (sidR w h t)) = 0 := by
    unfold pM
    rw [← msk0 36]
    exact msk_congr fun x hx => by rw [low (40 + x) (by omega), sidR_z (by omega)]; rfl
  have e3 : mkR (sidR w h t) 3 = 0 := by rw [low 3 (by omega), sidR_z (by omega)]
  have eA : aM (mkR (sidR w h t)) = 0 := by unfold aM; rw [e3]; rfl
  have hW := pv_wk hV
  let Ma : ZM := zpl (zpi (zpi (zpi (zpi M 67 0 (nI w)) 67 1 (nI h)) 67 2 (nI t)) 67 3 (nI 0)) 67 4 (nJ (2 ^ (w * h) - 1))
  let Mb : ZM := zpi (zpl (zpl Ma 67 5 (nJ 0)) 67 6 (nJ 0)) 67 7 (nI 0)
  have f0 : fr (pBd 67) (pBd 67) M Mb := (((((((fr.refl.pi ⟨by omega, by omega⟩).pi ⟨by omega, by omega⟩).pi ⟨by omega, by omega⟩).pi ⟨by omega, by omega⟩).pl ⟨by omega, by omega⟩).pl ⟨by omega, by omega⟩).pl ⟨by omega, by omega⟩).pi ⟨by omega, by omega⟩
  have hS : BSc (mkR (sidR w h t)) 67 Mb := by
    unfold BSc
    rw [low 0 (by omega), low 1 (by omega), low 2 (by omega), e0, e1, e2, e3, eOM, eG, eP, eA]
    refine ⟨⟨⟨?_, ?_⟩, ?_, ?_⟩, ⟨⟨?_, ?_⟩, ?_, ?_⟩, trivial⟩ <;> simp (disch := omega) only [Ma, Mb, m_pi, m_pl, m_pi2, m_pl1, if_pos, if_neg, if_true, and_self]
  obtain ⟨M', a1, a2, a3⟩ := q_marksBy (d := d) zk67 (e := 68) zk68 (by omega) hW hS (-1) (fun c hc _ hg => by rw [low (76 + c) (by omega), sidR_z (by omega)] at hg; omega)
  have nz : ∀ a k, a ≠ 68 → M'.1 a k = Mb.1 a k := fun a k h => a2.1 a k (fun z => h z.1)
  have nz2 : ∀ a k, M'.2 a k = Mb.2 a k := fun a k => a2.2 a k (fun z => z)
  refine ⟨M', e_B_lay zk67 ?_, ?_, f0.trans (a2.mono (fun a k z => by unfold pBd; omega) (fun _ _ z => z.elim))⟩
  · rw [zLr]
    have ew : (zpi (zpi (zpi (zpi M 67 0 (nI w)) 67 1 (nI h)) 67 2 (nI t)) 67 3 (nI 0)).1 67 0 = nI w := by simp (disch := omega) only [m_pi, if_pos, if_neg, if_true, and_self]
    have eh : (zpi (zpi (zpi (zpi M 67 0 (nI w)) 67 1 (nI h)) 67 2 (nI t)) 67 3 (nI 0)).1 67 1 = nI h := by simp (disch := omega) only [m_pi, if_pos, if_neg, if_true, and_self]
    have el : nJ 1 <<< (Int32.toInt64 (nI w * nI h) &&& 63) - nJ 1 = nJ (2 ^ (w * h) - 1) := by
      rw [n_mul, l_shl (by omega), Nat.shiftLeft_eq, Nat.one_mul, l_sub Nat.one_le_two_pow]
    rw [ew, eh, el]
    rw [a1, zC0_some]
  · have hS' : BSc (mkR (sidR w h t)) 67 M' := by
      unfold BSc
      rw [nz 67 0 (by omega), nz 67 1 (by omega), nz 67 2 (by omega), nz 67 3 (by omega), nz 67 7 (by omega), nz2, nz2, nz2]
      exact hS
    refine ⟨hS'.1, hS'.2.1, fun c hc => ?_, fun k hk => by rw [e3] at hk; omega⟩
    rw [a3 c hc, mkR_at hV hc]
    unfold mbg
    rw [mkR_isO hV, low (76 + c) (by omega), sidR_z (by omega)]
    by_cases ho : isO (sidR w h t) c = true
    · rw [if_pos ho, if_pos ho, if_neg (by omega), if_neg (by omega)]
      unfold allM
      rw [low 2 (by omega)]
    · rw [if_neg ho, if_neg ho]
end QJ
