/-! small numbers in ints and longs -/
theorem n_lt {a b : Nat} (ha : a < 2147483648) (hb : b < 2147483648) : (nI a < nI b) ↔ a < b := Int32.ofNat_lt_iff_lt (by omega) (by omega)
theorem n_eq {a b : Nat} (ha : a < 2147483648) (hb : b < 2147483648) : (nI a = nI b) ↔ a = b := by
  constructor
  · intro h
    have h2 := congrArg Int32.toNatClampNeg h
    rw [nI_clamp (by omega), nI_clamp (by omega)] at h2
    exact h2
  · intro h; rw [h]
theorem n_clamp {a : Nat} (ha : a < 2147483648) : Int32.toNatClampNeg (nI a) = a := nI_clamp (by omega)
theorem n_toInt {a : Nat} (ha : a < 2147483648) : Int32.toInt (nI a) = (a : Int) := Int32.toInt_ofNat_of_lt (by omega)
theorem n_add (a b : Nat) : nI a + nI b = nI (a + b) := (Int32.ofNat_add a b).symm
theorem n_mul (a b : Nat) : nI a * nI b = nI (a * b) := (Int32.ofNat_mul a b).symm
theorem n_sub {a b : Nat} (h : b ≤ a) : nI a - nI b = nI (a - b) := (Int32.ofNat_sub a b h).symm
theorem n_and (a b : Nat) : nI a &&& nI b = nI (a &&& b) := Int32.toBitVec_inj.mp (by show BitVec.ofNat 32 a &&& BitVec.ofNat 32 b = BitVec.ofNat 32 (a &&& b); rw [BitVec.ofNat_and])
theorem n_or (a b : Nat) : nI a ||| nI b = nI (a ||| b) := Int32.toBitVec_inj.mp (by show BitVec.ofNat 32 a ||| BitVec.ofNat 32 b = BitVec.ofNat 32 (a ||| b); rw [BitVec.ofNat_or])
theorem n_xor (a b : Nat) : nI a ^^^ nI b = nI (a ^^^ b) := Int32.toBitVec_inj.mp (by show BitVec.ofNat 32 a ^^^ BitVec.ofNat 32 b = BitVec.ofNat 32 (a ^^^ b); rw [BitVec.ofNat_xor])
theorem n_m1lt {a : Nat} (ha : a < 2147483648) : (-1 : Int32) < nI a := by
  rw [Int32.lt_iff_toInt_lt, n_toInt ha]
  show (-1 : Int) < a
  omega
theorem n_ltm1 {a : Nat} (ha : a < 2147483648) : ¬ nI a < (-1 : Int32) := by
  rw [Int32.lt_iff_toInt_lt, n_toInt ha]
  show ¬ (a : Int) < -1
  omega
theorem n_nem1 {a : Nat} (ha : a < 2147483648) : ¬ nI a = (-1 : Int32) := by
  intro h
  have h2 := congrArg Int32.toInt h
  rw [n_toInt ha] at h2
  have : (a : Int) = -1 := h2
  omega
theorem n_zin {a n : Nat} (ha : a < 2147483648) : zin (nI a) n = true ↔ a < n := by
  unfold zin
  rw [n_toInt ha]
  simp
theorem n_mod32 : ∀ k, k < 32 → (nI k &&& 31).toBitVec.smod 32 = BitVec.ofNat 32 k := by decide +kernel
theorem n_shl {a k : Nat} (hk : k < 32) : nI a <<< (nI k &&& 31) = nI (a <<< k) := by
  apply Int32.toBitVec_inj.mp
  show BitVec.ofNat 32 a <<< ((nI k &&& 31).toBitVec.smod 32) = BitVec.ofNat 32 (a <<< k)
  rw [n_mod32 k hk]
  apply BitVec.eq_of_toNat_eq
  rw [BitVec.shiftLeft_eq', BitVec.toNat_shiftLeft, BitVec.toNat_ofNat, BitVec.toNat_ofNat, BitVec.toNat_ofNat, Nat.mod_eq_of_lt (show k < 2 ^ 32 by omega), Nat.shiftLeft_eq, Nat.shiftLeft_eq, Nat.mod_mul_mod]
theorem n_shr {a k : Nat} (ha : a < 2147483648) (hk : k < 32) : nI a >>> (nI k &&& 31) = nI (a >>> k) := by
  apply Int32.toBitVec_inj.mp
  show (BitVec.ofNat 32 a).sshiftRight' ((nI k &&& 31).toBitVec.smod 32) = BitVec.ofNat 32 (a >>> k)
  rw [n_mod32 k hk]
  apply BitVec.eq_of_toNat_eq
  have hm : (BitVec.ofNat 32 a).msb = false := by
    rw [BitVec.msb_eq_decide]
    simp only [BitVec.toNat_ofNat, decide_eq_false_iff_not]
    omega
  rw [BitVec.toNat_sshiftRight'_of_msb_false hm]
  have hk2 : k % 2 ^ 32 = k := Nat.mod_eq_of_lt (by omega)
  have ha2 : a % 2 ^ 32 = a := Nat.mod_eq_of_lt (by omega)
  have h3 : a >>> k ≤ a := by rw [Nat.shiftRight_eq_div_pow]; exact Nat.div_le_self _ _
  simp only [BitVec.toNat_ofNat, hk2, ha2]
  rw [Nat.mod_eq_of_lt (by omega)]
theorem n_bit {m d : Nat} (hm : m < 2147483648) (hd : d < 32) : ((nI m >>> (nI d &&& 31)) &&& nI 1 = nI 1) ↔ m.testBit d = true := by
  rw [n_shr hm hd, n_and]
  have h3 : (m >>> d) &&& 1 < 2 := by rw [Nat.and_one_is_mod]; omega
  rw [n_eq (by omega) (by omega), Nat.and_one_is_mod, Nat.testBit_eq_decide_div_mod_eq, Nat.shiftRight_eq_div_pow]
  simp
theorem n_bit0 {m d : Nat} (hm : m < 2147483648) (hd : d < 32) : ((nI m >>> (nI d &&& 31)) &&& nI 1 = nI 0) ↔ m.testBit d = false := by
  rw [n_shr hm hd, n_and]
  have h3 : (m >>> d) &&& 1 < 2 := by rw [Nat.and_one_is_mod]; omega
  rw [n_eq (by omega) (by omega), Nat.and_one_is_mod, Nat.testBit_eq_decide_div_mod_eq, Nat.shiftRight_eq_div_pow]
  simp
theorem n_clr (a m : Nat) : nI a &&& (nI m ^^^ (-1 : Int32)) = nI (a ^^^ (a &&& m)) := by
  apply Int32.toBitVec_inj.mp
  show BitVec.ofNat 32 a &&& (BitVec.ofNat 32 m ^^^ (-1 : Int32).toBitVec) = BitVec.ofNat 32 (a ^^^ (a &&& m))
  rw [BitVec.ofNat_xor, BitVec.ofNat_and, show (-1 : Int32).toBitVec = BitVec.allOnes 32 from by decide]
  apply BitVec.eq_of_getLsbD_eq
  intro i hi
  simp only [BitVec.getLsbD_and, BitVec.getLsbD_xor, BitVec.getLsbD_allOnes, hi, decide_true]
  cases (BitVec.ofNat 32 a).getLsbD i <;> cases (BitVec.ofNat 32 m).getLsbD i <;> rfl
/-! longs -/
theorem l_eq {a b : Nat} (ha : a < 9223372036854775808) (hb : b < 9223372036854775808) : (nJ a = nJ b) ↔ a = b := by
  constructor
  · intro h
    have h2 := congrArg Int64.toNatClampNeg h
    rw [show Int64.toNatClampNeg (nJ a) = a from Int64.toNatClampNeg_ofNat_of_lt (by omega), show Int64.toNatClampNeg (nJ b) = b from Int64.toNatClampNeg_ofNat_of_lt (by omega)] at h2
    exact h2
  · intro h; rw [h]
theorem l_and (a b : Nat) : nJ a &&& nJ b = nJ (a &&& b) := Int64.toBitVec_inj.mp (by show BitVec.ofNat 64 a &&& BitVec.ofNat 64 b = BitVec.ofNat 64 (a &&& b); rw [BitVec.ofNat_and])
theorem l_or (a b : Nat) : nJ a ||| nJ b = nJ (a ||| b) := Int64.toBitVec_inj.mp (by show BitVec.ofNat 64 a ||| BitVec.ofNat 64 b = BitVec.ofNat 64 (a ||| b); rw [BitVec.ofNat_or])
theorem l_xor (a b : Nat) : nJ a ^^^ nJ b = nJ (a ^^^ b) := Int64.toBitVec_inj.mp (by show BitVec.ofNat 64 a ^^^ BitVec.ofNat 64 b = BitVec.ofNat 64 (a ^^^ b); rw [BitVec.ofNat_xor])
theorem l_sub {a b : Nat} (h : b ≤ a) : nJ a - nJ b = nJ (a - b) := (Int64.ofNat_sub a b h).symm
theorem l_add (a b : Nat) : nJ a + nJ b = nJ (a + b) := (Int64.ofNat_add a b).symm
theorem l_mod64 : ∀ k, k < 64 → (Int32.toInt64 (nI k) &&& 63).toBitVec.smod 64 = BitVec.ofNat 64 k := by decide +kernel
theorem l_shl {a k : Nat} (hk : k < 64) : nJ a <<< (Int32.toInt64 (nI k) &&& 63) = nJ (a <<< k) := by
  apply Int64.toBitVec_inj.mp
  show BitVec.ofNat 64 a <<< ((Int32.toInt64 (nI k) &&& 63).toBitVec.smod 64) = BitVec.ofNat 64 (a <<< k)
  rw [l_mod64 k hk]
  apply BitVec.eq_of_toNat_eq
  rw [BitVec.shiftLeft_eq', BitVec.toNat_shiftLeft, BitVec.toNat_ofNat, BitVec.toNat_ofNat, BitVec.toNat_ofNat, Nat.mod_eq_of_lt (show k < 2 ^ 64 by omega), Nat.shiftLeft_eq, Nat.shiftLeft_eq, Nat.mod_mul_mod]
theorem l_shr {a k : Nat} (ha : a < 9223372036854775808) (hk : k < 64) : nJ a >>> (Int32.toInt64 (nI k) &&& 63) = nJ (a >>> k) := by
  apply Int64.toBitVec_inj.mp
  show (BitVec.ofNat 64 a).sshiftRight' ((Int32.toInt64 (nI k) &&& 63).toBitVec.smod 64) = BitVec.ofNat 64 (a >>> k)
  rw [l_mod64 k hk]
  apply BitVec.eq_of_toNat_eq
  have hm : (BitVec.ofNat 64 a).msb = false := by
    rw [BitVec.msb_eq_decide]
    simp only [BitVec.toNat_ofNat, decide_eq_false_iff_not]
    omega
  rw [BitVec.toNat_sshiftRight'_of_msb_false hm]
  have hk2 : k % 2 ^ 64 = k := Nat.mod_eq_of_lt (by omega)
  have ha2 : a % 2 ^ 64 = a := Nat.mod_eq_of_lt (by omega)
  have h3 : a >>> k ≤ a := by rw [Nat.shiftRight_eq_div_pow]; exact Nat.div_le_self _ _
  simp only [BitVec.toNat_ofNat, hk2, ha2]
  rw [Nat.mod_eq_of_lt (by omega)]
theorem l_bit {m d : Nat} (hm : m < 9223372036854775808) (hd : d < 64) : (lg_cmp ((nJ m >>> (Int32.toInt64 (nI d) &&& 63)) &&& nJ 1) (nJ 1) = nI 0) ↔ m.testBit d = true := by
  rw [show nI 0 = (0 : Int32) from rfl, lg_cmp_eq, l_shr hm hd, l_and]
  have h3 : (m >>> d) &&& 1 < 2 := by rw [Nat.and_one_is_mod]; omega
  rw [l_eq (by omega) (by omega), Nat.and_one_is_mod, Nat.testBit_eq_decide_div_mod_eq, Nat.shiftRight_eq_div_pow]
  simp
theorem l_bit0 {m d : Nat} (hm : m < 9223372036854775808) (hd : d < 64) : (lg_cmp ((nJ m >>> (Int32.toInt64 (nI d) &&& 63)) &&& nJ 1) (nJ 0) = nI 0) ↔ m.testBit d = false := by
  rw [show nI 0 = (0 : Int32) from rfl, lg_cmp_eq, l_shr hm hd, l_and]
  have h3 : (m >>> d) &&& 1 < 2 := by rw [Nat.and_one_is_mod]; omega
  rw [l_eq (by omega) (by omega), Nat.and_one_is_mod, Nat.testBit_eq_decide_div_mod_eq, Nat.shiftRight_eq_div_pow]
  simp
theorem l_clr (a m : Nat) : nJ a &&& (nJ m ^^^ (-1 : Int64)) = nJ (a ^^^ (a &&& m)) := by
  apply Int64.toBitVec_inj.mp
  show BitVec.ofNat 64 a &&& (BitVec.ofNat 64 m ^^^ (-1 : Int64).toBitVec) = BitVec.ofNat 64 (a ^^^ (a &&& m))
  rw [BitVec.ofNat_xor, BitVec.ofNat_and, show (-1 : Int64).toBitVec = BitVec.allOnes 64 from by decide]
  apply BitVec.eq_of_getLsbD_eq
  intro i hi
  simp only [BitVec.getLsbD_and, BitVec.getLsbD_xor, BitVec.getLsbD_allOnes, hi, decide_true]
  cases (BitVec.ofNat 64 a).getLsbD i <;> cases (BitVec.ofNat 64 m).getLsbD i <;> rfl
/-! reading what was written -/
theorem m_pi {M : ZM} {q k a j : Nat} {v : Int32} : (zpi M q k v).1 a j = if a = q ∧ j = k then v else M.1 a j := by
  unfold zpi zsi upd
  by_cases h : a = q
  · subst h
    simp only [if_true, true_and]
  · simp only [if_neg h, h, false_and, if_false]
theorem m_pi2 {M : ZM} {q k : Nat} {v : Int32} : (zpi M q k v).2 = M.2 := rfl
theorem m_pl {M : ZM} {q k a j : Nat} {v : Int64} : (zpl M q k v).2 a j = if a = q ∧ j = k then v else M.2 a j := by
  unfold zpl zsl' vp_updL
  by_cases h : a = q
  · subst h
    simp only [if_true, true_and]
  · simp only [if_neg h, h, false_and, if_false]
theorem m_pl1 {M : ZM} {q k : Nat} {v : Int64} : (zpl M q k v).1 = M.1 := rfl
theorem m_si {M : ZM} {q a : Nat} {f : Nat → Int32} : (zsi M q f).1 a = if a = q then f else M.1 a := rfl
theorem m_si2 {M : ZM} {q : Nat} {f : Nat → Int32} : (zsi M q f).2 = M.2 := rfl
theorem m_sl {M : ZM} {q a : Nat} {f : Nat → Int64} : (zsl' M q f).2 a = if a = q then f else M.2 a := rfl
theorem m_sl1 {M : ZM} {q : Nat} {f : Nat → Int64} : (zsl' M q f).1 = M.1 := rfl
