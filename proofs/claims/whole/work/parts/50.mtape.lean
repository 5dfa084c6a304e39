/-! THE MODEL, 39: the tape -/
def byt (v : Int32) (sh : Nat) : Nat := v.toUInt32.toNat / 2 ^ sh % 256
theorem bv255 : ∀ i, i < 32 → (BitVec.ofNat 32 255).getLsbD i = decide (i < 8) := by decide
theorem n_byt0 (v : Int32) (sh : Nat) (h : sh ≤ 24) : vp_nar .byte ((Int32.toInt8 (v >>> (nI sh &&& 31))).toInt32) &&& nI 255 = nI (byt v sh) := by
  apply Int32.toBitVec_inj.mp
  show (((((v.toBitVec.sshiftRight' ((nI sh &&& 31).toBitVec.smod 32)).signExtend 8).signExtend 32).signExtend 8).signExtend 32) &&& BitVec.ofNat 32 255 = BitVec.ofNat 32 (byt v sh)
  rw [n_mod32 sh (by omega)]
  apply BitVec.eq_of_getLsbD_eq
  intro i hi
  rw [BitVec.getLsbD_and, bv255 i hi]
  unfold byt
  rw [BitVec.getLsbD_ofNat]
  have e : (v.toUInt32.toNat / 2 ^ sh % 256).testBit i = (decide (i < 8) && v.toBitVec.getLsbD (i + sh)) := by
    rw [show (256 : Nat) = 2 ^ 8 from rfl, Nat.testBit_mod_two_pow, Nat.testBit_div_two_pow]
    rfl
  rw [e]
  by_cases h8 : i < 8
  · have e1 : (BitVec.ofNat 32 sh).toNat = sh := by rw [BitVec.toNat_ofNat]; omega
    simp only [BitVec.getLsbD_signExtend, hi, h8, decide_true, Bool.true_and, Bool.and_true, if_true, BitVec.getLsbD_sshiftRight']
    simp [e1, Nat.add_comm, show ¬ 32 ≤ i by omega, show sh + i < 32 by omega]
  · simp [h8]
theorem n_byt1 (v : Int32) (sh : Nat) (h : sh ≤ 24) : (Int32.toUInt32 v >>> (Int32.toUInt32 (nI sh) &&& Int32.toUInt32 31)).toInt32 &&& nI 255 = nI (byt v sh) := by
  apply Int32.toBitVec_inj.mp
  show (v.toUInt32 >>> (Int32.toUInt32 (nI sh) &&& Int32.toUInt32 31)).toBitVec &&& BitVec.ofNat 32 255 = BitVec.ofNat 32 (byt v sh)
  apply BitVec.eq_of_getLsbD_eq
  intro i hi
  rw [BitVec.getLsbD_and, bv255 i hi]
  unfold byt
  rw [BitVec.getLsbD_ofNat]
  have e : (v.toUInt32.toNat / 2 ^ sh % 256).testBit i = (decide (i < 8) && v.toBitVec.getLsbD (i + sh)) := by
    rw [show (256 : Nat) = 2 ^ 8 from rfl, Nat.testBit_mod_two_pow, Nat.testBit_div_two_pow]
    rfl
  have e3 : (v.toUInt32 >>> (Int32.toUInt32 (nI sh) &&& Int32.toUInt32 31)).toBitVec.getLsbD i = v.toBitVec.getLsbD (i + sh) := by
    show (v.toUInt32 >>> (Int32.toUInt32 (nI sh) &&& Int32.toUInt32 31)).toNat.testBit i = _
    have e4 : ∀ k, k ≤ 24 → (Int32.toUInt32 (nI k) &&& Int32.toUInt32 31).toNat % 32 = k := by decide +kernel
    rw [UInt32.toNat_shiftRight, e4 sh h, Nat.testBit_shiftRight, Nat.add_comm]
    rfl
  rw [e, e3]
  by_cases h8 : i < 8
  · simp [h8, hi]
  · simp [h8]
theorem byt_lt (v : Int32) (sh : Nat) : byt v sh < 256 := Nat.mod_lt _ (by omega)
/-- the tape's bytes -/
def TpR (tp : List Nat) (M : ZM) : Prop := (M.1 866 35 = nI tp.length ∧ tp.length ≤ 400) ∧ ∀ k, k < tp.length → M.1 882 k &&& nI 255 = nI (tp.getD k 0) ∧ tp.getD k 0 < 256
def pTp : Nat → Nat → Prop := fun a k => (a = 866 ∧ k = 35) ∨ a = 882
theorem TpR.fr {tp : List Nat} {p q : Nat → Nat → Prop} {M M' : ZM} (h : TpR tp M) (hf : fr p q M M') (hp : ∀ a k, p a k → a ≠ 882 ∧ ¬ (a = 866 ∧ k = 35)) : TpR tp M' :=
  ⟨⟨(hf.1 866 35 (fun z => (hp _ _ z).2 ⟨rfl, rfl⟩)).trans h.1.1, h.1.2⟩, fun k hk => by rw [hf.1 882 k (fun z => (hp _ _ z).1 rfl)]; exact h.2 k hk⟩
theorem TpR.frS {tp : List Nat} {M M' : ZM} (h : TpR tp M) (hf : frI pS M M') : TpR tp M' := h.fr hf fun a k z => by unfold pS at z; omega
def byts (v : Int32) : List Nat := [byt v 24, byt v 16, byt v 8, byt v 0]
def spFeed (tp : List Nat) (a b c e g : Int32) : Int32 × List Nat := if 380 < tp.length then (-1, tp) else (nI (tp.length + 20), tp ++ byts a ++ byts b ++ byts c ++ byts e ++ byts g)
def spEnd (tp : List Nat) (x : Int32) : Int32 × List Nat := bif iI x (tp.length + 1) then (x, tp.take x.toInt.toNat) else (-1, tp)
section MK2
variable {d : Nat} {M : ZM} {tp : List Nat}
theorem s_lays1 {M : ZM} {tp : List Nat} (h : TpR tp M) (hl : tp.length < 400) (v : Int32) {sh : Nat} (hs : sh ≤ 24) : ∃ M1, TpR (tp ++ [byt v sh]) M1 ∧ frI pTp M M1 ∧ ∀ r, h_M_lays_3 d v (nI sh + (-8 : Int32)) M1 = some r → h_M_lays_3 d v (nI sh) M = some r := by
  refine ⟨zpi (zpi M 882 tp.length (vp_nar .byte ((Int32.toInt8 (v >>> (nI sh &&& 31))).toInt32))) 866 35 (nI (tp.length + 1)), ⟨⟨?_, ?_⟩, fun k hk => ?_⟩, (fr.refl.pi (Or.inr rfl)).pi (Or.inl ⟨rfl, rfl⟩), fun r hr => e_M_lays_3 ?_⟩
  · rw [m_pi, if_pos ⟨rfl, rfl⟩, List.length_append]; rfl
  · rw [List.length_append]; show tp.length + 1 ≤ 400; omega
  · rw [List.length_append] at hk
    have hk2 : k < tp.length + 1 := hk
    rw [m_pi, if_neg (by omega), m_pi]
    by_cases e : k = tp.length
    · have e2 : (tp ++ [byt v sh]).getD k 0 = byt v sh := by
        rw [e, List.getD_eq_getElem?_getD, List.getElem?_append_right (Nat.le_refl _), Nat.sub_self]; rfl
      rw [if_pos ⟨rfl, e⟩, e2]
      exact ⟨n_byt0 v sh hs, byt_lt v sh⟩
    · have e2 : (tp ++ [byt v sh]).getD k 0 = tp.getD k 0 := by
        rw [List.getD_eq_getElem?_getD, List.getElem?_append_left (by omega), ← List.getD_eq_getElem?_getD]
      rw [if_neg (fun z => e z.2), e2]
      exact h.2 k (by omega)
  · rw [if_neg (by rw [n_lt (by omega) (by omega)]; omega), h.1.1, if_pos ((n_zin (by omega)).mpr hl), n_clamp (by omega), zLr, m_pi, if_neg (by omega), h.1.1, n_add1]
    exact hr
theorem s_lays {M : ZM} {tp : List Nat} (h : TpR tp M) (hl : tp.length + 4 ≤ 400) (v : Int32) : ∃ M', zEv (d + 1) zmM_lays [.ref 866, .int v] M = some (none, M') ∧ TpR (tp ++ byts v) M' ∧ frI pTp M M' := by
  obtain ⟨M1, a1, a2, a3⟩ := s_lays1 (d := d) h (by omega) v (sh := 24) (by omega)
  obtain ⟨M2, b1, b2, b3⟩ := s_lays1 (d := d) a1 (by rw [List.length_append]; show tp.length + 1 < 400; omega) v (sh := 16) (by omega)
  obtain ⟨M3, c1, c2, c3⟩ := s_lays1 (d := d) b1 (by rw [List.length_append, List.length_append]; show tp.length + 1 + 1 < 400; omega) v (sh := 8) (by omega)
  obtain ⟨M4, e1, e2, e3⟩ := s_lays1 (d := d) c1 (by rw [List.length_append, List.length_append, List.length_append]; show tp.length + 1 + 1 + 1 < 400; omega) v (sh := 0) (by omega)
  have g4 : h_M_lays_3 d v (nI 0 + (-8 : Int32)) M4 = some (none, M4) := e_M_lays_3 (by rw [if_pos (by decide)])
  have g3 := e3 _ g4
  have g2 := c3 _ (show h_M_lays_3 d v (nI 8 + (-8 : Int32)) M3 = some (none, M4) from g3)
  have g1 := b3 _ (show h_M_lays_3 d v (nI 16 + (-8 : Int32)) M2 = some (none, M4) from g2)
  have g0 := a3 _ (show h_M_lays_3 d v (nI 24 + (-8 : Int32)) M1 = some (none, M4) from g1)
  refine ⟨M4, e_M_lays g0, ?_, ((a2.trans b2).trans c2).trans e2⟩
  rw [List.append_assoc, List.append_assoc, List.append_assoc] at e1
  exact e1
theorem s_feed (h : TpR tp M) (a b c e g : Int32) : ∃ M', zEv (d + 2) zmM_feed [.ref 866, .int a, .int b, .int c, .int e, .int g] M = some (some (.int (spFeed tp a b c e g).1), M') ∧ TpR (spFeed tp a b c e g).2 M' ∧ frI pTp M M' := by
  have h400 := h.1.2
  unfold spFeed
  by_cases hl : 380 < tp.length
  · rw [if_pos hl]
    refine ⟨M, e_M_feed ?_, h, fr.refl⟩
    rw [h.1.1, if_pos ((n_lt (by omega) (by omega)).mpr hl)]
  · rw [if_neg hl]
    have hb : ∀ v, (byts v).length = 4 := fun _ => rfl
    obtain ⟨M1, a1, a2, a3⟩ := s_lays (d := d) h (by omega) a
    obtain ⟨M2, b1, b2, b3⟩ := s_lays (d := d) a2 (by rw [List.length_append, hb]; omega) b
    obtain ⟨M3, c1, c2, c3⟩ := s_lays (d := d) b2 (by rw [List.length_append, List.length_append, hb, hb]; omega) c
    obtain ⟨M4, e1, e2, e3⟩ := s_lays (d := d) c2 (by rw [List.length_append, List.length_append, List.length_append, hb, hb, hb]; omega) e
    obtain ⟨M5, g1, g2, g3⟩ := s_lays (d := d) e2 (by rw [List.length_append, List.length_append, List.length_append, List.length_append, hb, hb, hb, hb]; omega) g
    refine ⟨M5, e_M_feed ?_, g2, (((a3.trans b3).trans c3).trans e3).trans g3⟩
    rw [h.1.1, if_neg (by rw [n_lt (by omega) (by omega)]; exact hl), a1, zC0_some, b1, zC0_some, c1, zC0_some, e1, zC0_some, g1, zC0_some, g2.1.1]
    rw [List.length_append, List.length_append, List.length_append, List.length_append, List.length_append, hb, hb, hb, hb, hb]
theorem s_end (h : TpR tp M) (x : Int32) : ∃ M', zEv (d + 2) zmM_end [.ref 866, .int x] M = some (some (.int (spEnd tp x).1), M') ∧ TpR (spEnd tp x).2 M' ∧ frI pTp M M' := by
  have h400 := h.1.2
  have hI : (decide ((nJ 0).toInt ≤ (Int32.toInt64 x).toInt) && decide ((Int32.toInt64 x).toInt ≤ (Int32.toInt64 (nI tp.length)).toInt)) = iI x (tp.length + 1) := by
    rw [Int32.toInt_toInt64, Int32.toInt_toInt64, n_toInt (by omega), j_toInt (by omega)]
    unfold iI
    rw [Bool.eq_iff_iff]
    simp only [Bool.and_eq_true, decide_eq_true_eq]
    omega
  unfold spEnd
  cases hx : iI x (tp.length + 1) with
  | false =>
    refine ⟨M, e_M_end ?_, h, fr.refl⟩
    rw [h.1.1, s_in, zC1_some, hI, hx, if_pos (show nB false = nI 0 from rfl)]
    rfl
  | true =>
    obtain ⟨k, hk, rfl⟩ := iI_ex (by omega) hx
    have eT : (nI k).toInt.toNat = k := by rw [n_toInt (by omega)]; rfl
    refine ⟨zpi M 866 35 (nI k), e_M_end ?_, ⟨⟨?_, ?_⟩, fun i hi => ?_⟩, fr.refl.pi (Or.inl ⟨rfl, rfl⟩)⟩
    · rw [h.1.1, s_in, zC1_some, hI, hx, if_neg (by decide)]
      rfl
    · show _ = nI (tp.take (nI k).toInt.toNat).length
      rw [m_pi, if_pos ⟨rfl, rfl⟩, eT, List.length_take, Nat.min_eq_left (by omega)]
    · show (tp.take (nI k).toInt.toNat).length ≤ 400
      rw [eT, List.length_take]
      omega
    · have hi2 : i < (tp.take (nI k).toInt.toNat).length := hi
      rw [eT, List.length_take] at hi2
      have e2 : (tp.take (nI k).toInt.toNat).getD i 0 = tp.getD i 0 := by
        rw [eT, List.getD_eq_getElem?_getD, List.getElem?_take_of_lt (by omega), ← List.getD_eq_getElem?_getD]
      show _ = nI ((tp.take (nI k).toInt.toNat).getD i 0) ∧ (tp.take (nI k).toInt.toNat).getD i 0 < 256
      rw [e2, m_pi, if_neg (by omega)]
      exact h.2 i (by omega)
end MK2
