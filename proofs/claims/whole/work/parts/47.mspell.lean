/-! THE MODEL, 36: spelling -/
def wd (j : Nat) : List Nat := (ztx j).map Int32.toNatClampNeg
theorem wd_len (j : Nat) : (wd j).length = (ztx j).length := List.length_map _
theorem ztx_le : ∀ j, j < 17 → (ztx j).length ≤ 7 := by decide +kernel
theorem ztx_c : ∀ j, j < 17 → ∀ k, k < 7 → k < (ztx j).length → (Int32.toUInt32 (((ztx j).getD k 0) &&& (nI 255)) % 65536).toInt32 = nI ((wd j).getD k 0) ∧ (((Int32.toUInt32 (((ztx j).getD k 0) &&& (nI 255)) % 65536).toInt32).toUInt32 % 65536).toInt32 = ((Int32.toUInt32 (((ztx j).getD k 0) &&& (nI 255)) % 65536).toInt32) ∧ (wd j).getD k 0 < 128 := by decide +kernel
theorem zkS : ∀ j, j < 17 → zkd (j + 1) = (7, j) ∧ zkd (j + 1 + 31) = (9, j) := by decide +kernel
section MI0
variable {d : Nat} {M : ZM} {b : Nat → Nat}
theorem s_length {j : Nat} (hj : j < 17) : zEv (d + 2) zmJS_length [.ref (j + 1)] M = some (some (.int (nI (wd j).length)), M) := by
  refine e_JS_length (zkS j hj).1 ?_
  rw [e_JS_coder (d := d) (zkS j hj).1 rfl, zC1_some, wd_len]
  have e : ∀ x : Int32, x >>> (nI 0 &&& 31) = x := fun x => by
    rw [show (nI 0 &&& 31 : Int32) = 0 from by decide]
    exact Int32.shiftRight_zero
  rw [e]
  rfl
theorem s_checkIndex {i n : Nat} (h : i < n) (hn : n < 2147483648) : zEv (d + 2) zmJS_checkIndex [.int (nI i), .int (nI n)] M = some (none, M) := by
  refine e_JS_checkIndex ?_
  have e1 : zEv (d + 1) zmJP_checkIndex [.int (nI i), .int (nI n), .float 0] M = some (some (.int (nI i)), M) := e_JP_checkIndex (by
    rw [if_neg (by rw [n_lt (by omega) (by omega)]; omega), if_pos ((n_lt (by omega) (by omega)).mpr h)])
  rw [e1, zC1_some]
theorem s_charAt {j i : Nat} (hj : j < 17) (hi : i < (wd j).length) : zEv (d + 4) zmJS_charAt [.ref (j + 1), .int (nI i)] M = some (some (.int (nI ((wd j).getD i 0))), M) := by
  have hl := ztx_le j hj
  rw [wd_len] at hi
  obtain ⟨c1, c2, c3⟩ := ztx_c j hj i (by omega) hi
  have e1 : zEv (d + 3) zmJ1_charAt [.ref (j + 1 + 31), .int (nI i)] M = some (some (.int (nI ((wd j).getD i 0))), M) := by
    refine e_J1_charAt (zkS j hj).2 (by omega) ?_
    have eN : Int32.ofNat (ztx j).length = nI (ztx j).length := rfl
    rw [eN, s_checkIndex (d := d) hi (by omega), zC0_some, if_pos ((n_zin (by omega)).mpr hi), n_clamp (by omega), c2, if_pos rfl, c1]
  have e2 : ((nI ((wd j).getD i 0)).toUInt32 % 65536).toInt32 = nI ((wd j).getD i 0) := by
    rw [← c1]
    exact c2
  refine e_JS_charAt (zkS j hj).1 ?_
  rw [e_JS_isLatin1 (d := d + 2) (zkS j hj).1 rfl, zC1_some, if_neg (by decide), e1, zC1_some, e2, if_pos rfl]
end MI0
/-- the byte that was asked for -/
def fb (w : Int32) (l : List Nat) : Int32 := match (if 0 ≤ w.toInt then l[w.toInt.toNat]? else none) with
  | some c => nI c
  | none => -2
/-- what is spelt so far -/
def Spl (w : Int32) (l : List Nat) (M : ZM) : Prop := M.1 866 31 = nI l.length ∧ M.1 866 32 = w ∧ M.1 866 33 = fb w l
def pSp : Nat → Nat → Prop := fun a k => a = 866 ∧ (k = 31 ∨ k = 33)
theorem MR.frSp {b : Nat → Nat} {M M' : ZM} (h : MR b M) (hf : frI pSp M M') : MR b M' := h.fr hf fun k _ z => by have := z.1; omega
/-- a number's digits -/
def decN : Nat → Nat → List Nat
  | 0, v => [48 + v % 10]
  | k + 1, v => (48 + v / 10 ^ (k + 1) % 10) :: decN k v
def dlen (v : Nat) : Nat := ((List.range' 0 7).find? fun k => decide (v / 10 ^ k < 10)).getD 6
def dec (v : Nat) : List Nat := decN (dlen v) v
theorem decN_len (v : Nat) : ∀ k, (decN k v).length = k + 1
  | 0 => rfl
  | k + 1 => by show (decN k v).length + 1 = _; rw [decN_len v k]
theorem dlen_le (v : Nat) : dlen v ≤ 6 := by
  unfold dlen
  cases h : (List.range' 0 7).find? fun k => decide (v / 10 ^ k < 10) with
  | none => exact Nat.le_refl 6
  | some k =>
    have := List.mem_range'_1.mp (List.mem_of_find?_eq_some h)
    show k ≤ 6
    omega
theorem dec_len (v : Nat) : (dec v).length ≤ 7 := by
  unfold dec
  rw [decN_len]
  have := dlen_le v
  omega
def sNum (v : Nat) : List Nat := 32 :: dec v
def sCell (b : Nat → Nat) (c : Nat) : List Nat := 32 :: (97 + c % b 0) :: dec (c / b 0 + 1)
theorem sNum_len (v : Nat) : (sNum v).length ≤ 8 := by have := dec_len v; show (dec v).length + 1 ≤ 8; omega
theorem sCell_len (b : Nat → Nat) (c : Nat) : (sCell b c).length ≤ 9 := by have := dec_len (c / b 0 + 1); show (dec (c / b 0 + 1)).length + 1 + 1 ≤ 9; omega
section MI
variable {d : Nat} {M : ZM} {b : Nat → Nat} {w : Int32} {l : List Nat}
theorem s_spell {M : ZM} (h : Spl w l M) (hl : l.length < 2147483000) (c : Nat) : ∃ M', zEv (d + 1) zmM_spell [.ref 866, .int (nI c)] M = some (none, M') ∧ Spl w (l ++ [c]) M' ∧ frI pSp M M' := by
  obtain ⟨h1, h2, h3⟩ := h
  by_cases e : nI l.length = w
  · refine ⟨zpi (zpi M 866 33 (nI c)) 866 31 (nI (l.length + 1)), e_M_spell ?_, ⟨?_, ?_, ?_⟩, (fr.refl.pi (show pSp 866 33 from ⟨rfl, Or.inr rfl⟩)).pi (show pSp 866 31 from ⟨rfl, Or.inl rfl⟩)⟩
    · rw [h1, h2, if_pos e, m_pi, if_neg (by omega), h1, n_add1]
    · rw [m_pi, if_pos ⟨rfl, rfl⟩, List.length_append]; rfl
    · rw [m_pi, if_neg (by omega), m_pi, if_neg (by omega)]; exact h2
    · rw [m_pi, if_neg (by omega), m_pi, if_pos ⟨rfl, rfl⟩]
      unfold fb
      rw [← e, n_toInt (by omega), if_pos (by omega), Int.toNat_natCast, List.getElem?_append_right (Nat.le_refl _), Nat.sub_self]
      rfl
  · refine ⟨zpi M 866 31 (nI (l.length + 1)), e_M_spell ?_, ⟨?_, ?_, ?_⟩, fr.refl.pi (show pSp 866 31 from ⟨rfl, Or.inl rfl⟩)⟩
    · rw [h1, h2, if_neg e, n_add1]
    · rw [m_pi, if_pos ⟨rfl, rfl⟩, List.length_append]; rfl
    · rw [m_pi, if_neg (by omega)]; exact h2
    · rw [m_pi, if_neg (by omega), h3]
      unfold fb
      by_cases hw : 0 ≤ w.toInt
      · rw [if_pos hw, if_pos hw]
        have hne : w.toInt.toNat ≠ l.length := fun z => e (by
          rw [← Int32.toInt_inj, n_toInt (by omega)]
          omega)
        rcases Nat.lt_or_ge w.toInt.toNat l.length with g | g
        · rw [List.getElem?_append_left g]
        · rw [List.getElem?_append_right g, List.getElem?_eq_none g, List.getElem?_eq_none (by show 1 ≤ _; omega)]
      · rw [if_neg hw, if_neg hw]
theorem s_spellWord_l {j : Nat} (hj : j < 17) : ∀ t k (M : ZM) (l : List Nat), k + t = (wd j).length → Spl w l M → l.length + t < 2000000000 → ∃ M', h_M_spellWord_2 (d + 4) (j + 1) (nI k) M = some (none, M') ∧ Spl w (l ++ (wd j).drop k) M' ∧ frI pSp M M' := by
  have h7 := ztx_le j hj
  have hw := wd_len j
  intro t
  induction t with
  | zero =>
    intro k M l h hS hl
    refine ⟨M, e_M_spellWord_2 (zkS j hj).1 ?_, ?_, fr.refl⟩
    · rw [s_length (d := d + 2) hj, zC1_some, if_neg (by rw [n_lt (by omega) (by omega)]; omega)]
    · rw [List.drop_of_length_le (by omega), List.append_nil]; exact hS
  | succ t ih =>
    intro k M l h hS hl
    obtain ⟨M1, a1, a2, a3⟩ := s_spell (d := d + 3) hS (by omega) ((wd j).getD k 0)
    obtain ⟨M', c1, c2, c3⟩ := ih (k + 1) M1 _ (by omega) a2 (by rw [List.length_append]; show l.length + 1 + t < _; omega)
    refine ⟨M', e_M_spellWord_2 (zkS j hj).1 ?_, ?_, a3.trans c3⟩
    · rw [s_length (d := d + 2) hj, zC1_some, if_pos ((n_lt (by omega) (by omega)).mpr (by omega)), s_charAt (d := d) hj (show k < (wd j).length by omega), zC1_some, a1, zC0_some, n_add1]
      exact c1
    · rw [List.append_assoc] at c2
      rw [List.drop_eq_getElem_cons (show k < (wd j).length by omega), ← getD_el (z := 0) (show k < (wd j).length by omega)]
      exact c2
theorem s_spellWord {M : ZM} {j : Nat} (hj : j < 17) (hS : Spl w l M) (hl : l.length < 100000) : ∃ M', zEv (d + 5) zmM_spellWord [.ref 866, .ref (j + 1)] M = some (none, M') ∧ Spl w (l ++ wd j) M' ∧ frI pSp M M' := by
  obtain ⟨M', a1, a2⟩ := s_spellWord_l (d := d) hj (wd j).length 0 M l (by omega) hS (by have := wd_len j; have := ztx_le j hj; omega)
  exact ⟨M', e_M_spellWord (zkS j hj).1 a1, a2⟩
end MI
