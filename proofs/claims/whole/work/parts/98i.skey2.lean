/-! THE CLASS, 45: keys -/
theorem l_ofI {v : Nat} (hv : v < 2147483648) : Int32.toInt64 (nI v) = nJ v := by
  rw [← Int64.toInt_inj, Int32.toInt_toInt64, n_toInt hv, j_toInt (by omega)]
theorem l_cmp {x y : Nat} (hx : x < 9223372036854775808) (hy : y < 9223372036854775808) : (lg_cmp (nJ x) (nJ y) = nI 0) ↔ x = y := by
  rw [show nI 0 = (0 : Int32) from rfl, lg_cmp_eq, l_eq hx hy]
theorem l_pk7 {K v : Nat} (hv : v < 128) : (nJ K <<< (Int32.toInt64 (nI 7) &&& 63)) ||| Int32.toInt64 (nI v) = nJ (K * 128 + v) := by
  rw [l_ofI (v := v) (by omega), l_shl (by omega), l_or, ← Nat.shiftLeft_add_eq_or_of_lt (show v < 2 ^ 7 from hv), Nat.shiftLeft_eq]
theorem l_pk1 {K v : Nat} (hv : v < 2) : (nJ K <<< (Int32.toInt64 (nI 1) &&& 63)) ||| Int32.toInt64 (nI v) = nJ (K * 2 + v) := by
  rw [l_ofI (v := v) (by omega), l_shl (by omega), l_or, ← Nat.shiftLeft_add_eq_or_of_lt (show v < 2 ^ 1 from hv), Nat.shiftLeft_eq]
def pk7 (f : Nat → Nat) (a : Nat) : Nat → Nat
  | 0 => a
  | n + 1 => pk7 f a n * 128 + f n
def pk1 (f : Nat → Bool) (a : Nat) : Nat → Nat
  | 0 => a
  | n + 1 => pk1 f a n * 2 + (bif f n then 1 else 0)
theorem pk7_inj {f f' : Nat → Nat} {a a' : Nat} (hf : ∀ i, f i < 128) (hf' : ∀ i, f' i < 128) : ∀ n, pk7 f a n = pk7 f' a' n → a = a' ∧ ∀ i, i < n → f i = f' i
  | 0, h => ⟨h, fun i hi => absurd hi (Nat.not_lt_zero i)⟩
  | n + 1, h => by
    have h : pk7 f a n * 128 + f n = pk7 f' a' n * 128 + f' n := h
    have h1 := hf n
    have h2 := hf' n
    obtain ⟨u, v⟩ := pk7_inj (a := a) (a' := a') hf hf' n (by omega)
    refine ⟨u, fun i hi => ?_⟩
    by_cases e : i = n
    · rw [e]; omega
    · exact v i (by omega)
theorem pk1_inj {f f' : Nat → Bool} {a a' : Nat} : ∀ n, pk1 f a n = pk1 f' a' n → a = a' ∧ ∀ i, i < n → f i = f' i
  | 0, h => ⟨h, fun i hi => absurd hi (Nat.not_lt_zero i)⟩
  | n + 1, h => by
    have h : pk1 f a n * 2 + (bif f n then 1 else 0) = pk1 f' a' n * 2 + (bif f' n then 1 else 0) := h
    have h1 : pk1 f a n = pk1 f' a' n ∧ f n = f' n := by
      cases e1 : f n <;> cases e2 : f' n <;> rw [e1, e2] at h <;> simp only [cond_true, cond_false] at h <;> first | exact ⟨by omega, rfl⟩ | omega
    obtain ⟨u, v⟩ := pk1_inj n h1.1
    refine ⟨u, fun i hi => ?_⟩
    by_cases e : i = n
    · rw [e]; exact h1.2
    · exact v i (by omega)
theorem pk7_bd {f : Nat → Nat} {a : Nat} (hf : ∀ i, f i < 128) : ∀ n, a * 128 ^ n ≤ pk7 f a n ∧ pk7 f a n < (a + 1) * 128 ^ n
  | 0 => ⟨by rw [Nat.pow_zero, Nat.mul_one]; exact Nat.le_refl a, by rw [Nat.pow_zero, Nat.mul_one]; exact Nat.lt_succ_self a⟩
  | n + 1 => by
    obtain ⟨u, v⟩ := pk7_bd hf n (a := a)
    have := hf n
    rw [Nat.pow_succ, ← Nat.mul_assoc, ← Nat.mul_assoc]
    show _ ≤ pk7 f a n * 128 + f n ∧ pk7 f a n * 128 + f n < _
    omega
theorem pk1_bd {f : Nat → Bool} {a : Nat} : ∀ n, a * 2 ^ n ≤ pk1 f a n ∧ pk1 f a n < (a + 1) * 2 ^ n
  | 0 => ⟨by rw [Nat.pow_zero, Nat.mul_one]; exact Nat.le_refl a, by rw [Nat.pow_zero, Nat.mul_one]; exact Nat.lt_succ_self a⟩
  | n + 1 => by
    obtain ⟨u, v⟩ := pk1_bd n (f := f) (a := a)
    rw [Nat.pow_succ, ← Nat.mul_assoc, ← Nat.mul_assoc]
    show _ ≤ pk1 f a n * 2 + (bif f n then 1 else 0) ∧ pk1 f a n * 2 + (bif f n then 1 else 0) < _
    cases f n
    · rw [cond_false]; omega
    · rw [cond_true]; omega
theorem swN_succ {b : Nat → Nat} {k : Nat} {ms : Nat → Nat} {i : Nat} : swN b k ms (i + 1) = swN b k ms i ++ (if popc (ms (cgC b k i)) = 1 then [lst (ms (cgC b k i))] else []) := by
  unfold swN
  rw [List.range_succ, List.filter_append, List.map_append]
  congr 1
  by_cases h : popc (ms (cgC b k i)) = 1
  · rw [if_pos h, List.filter_cons_of_pos (show suB b ms k i = true from decide_eq_true h)]
    rfl
  · rw [if_neg h, List.filter_cons_of_neg (show ¬ suB b ms k i = true from fun z => h (of_decide_eq_true z))]
    rfl
theorem swN_len {b : Nat → Nat} {k : Nat} {ms : Nat → Nat} {i : Nat} : (swN b k ms i).length ≤ i := by
  unfold swN
  rw [List.length_map]
  exact Nat.le_trans (List.length_filter_le _ _) (by rw [List.length_range]; exact Nat.le_refl i)
theorem swN_dig {b ms : Nat → Nat} (hW : Wf b) (hM : MV b ms) {k : Nat} (hk : k < b 3) {i : Nat} (hi : i ≤ cgN b k) : ∀ x ∈ swN b k ms i, 1 ≤ x ∧ x ≤ 7 := fun x hx => by
  unfold swN at hx
  obtain ⟨j, hj, rfl⟩ := List.mem_map.mp hx
  obtain ⟨j1, j2⟩ := List.mem_filter.mp hj
  have := List.mem_range.mp j1
  obtain ⟨y, y1, y2⟩ := mv_su hM hW.1.2.2.1 (cgC_lt hW hk (show j < cgN b k by omega)) (of_decide_eq_true j2)
  rw [y2, lst_pow y y1.1 y1.2]
  exact y1
theorem keyS_lt {b ms : Nat → Nat} (hW : Wf b) (hM : MV b ms) {k : Nat} (hk : k < b 3) : keyS b k ms < 128 := by
  unfold keyS
  cases bdC b k && decide ((swN b k ms (cgN b k)).length < cgN b k) with
  | false => rw [cond_false]; omega
  | true =>
    rw [cond_true]
    cases h : rnO (cgD b k) (swN b k ms (cgN b k)) 0 with
    | none => show 0 < 128; omega
    | some s => exact rnO_lt (cgD_ok b k) _ 0 s (swN_dig hW hM hk (Nat.le_refl _)) (by omega) h
def lowN (b ms : Nat → Nat) : Nat := pk7 (fun k => if k < b 3 then keyS b k ms else 0) 0 (if b 3 < 9 then b 3 else 9)
def higN (b ms : Nat → Nat) (L : Nat) : Nat := pk7 (fun j => if 9 + j < b 3 then keyS b (9 + j) ms else 0) (pk1 (fun p => decide (p < openN b) && decide (popc (ms (opA b p)) = 1)) L 16) 3
theorem keyS_z {b ms : Nat → Nat} (hW : Wf b) (hM : MV b ms) (k : Nat) : (if k < b 3 then keyS b k ms else 0) < 128 := by
  by_cases h : k < b 3
  · rw [if_pos h]; exact keyS_lt hW hM h
  · rw [if_neg h]; omega
theorem low_lt {b ms : Nat → Nat} (hW : Wf b) (hM : MV b ms) : lowN b ms < 9223372036854775808 := by
  have h := (pk7_bd (a := 0) (keyS_z hW hM) (if b 3 < 9 then b 3 else 9)).2
  have h2 : 128 ^ (if b 3 < 9 then b 3 else 9) ≤ 128 ^ 9 := Nat.pow_le_pow_right (by omega) (by split <;> omega)
  unfold lowN
  omega
theorem hig_bd {b ms : Nat → Nat} (hW : Wf b) (hM : MV b ms) (L : Nat) : L * 137438953472 ≤ higN b ms L ∧ higN b ms L < (L + 1) * 137438953472 := by
  have h := pk7_bd (a := pk1 (fun p => decide (p < openN b) && decide (popc (ms (opA b p)) = 1)) L 16) (fun j => keyS_z hW hM (9 + j)) 3
  have h2 := pk1_bd (a := L) (f := fun p => decide (p < openN b) && decide (popc (ms (opA b p)) = 1)) 16
  unfold higN
  rw [show (128 : Nat) ^ 3 = 2097152 from rfl] at h
  rw [show (2 : Nat) ^ 16 = 65536 from rfl] at h2
  generalize pk7 (fun j => if 9 + j < b 3 then keyS b (9 + j) ms else 0) (pk1 (fun p => decide (p < openN b) && decide (popc (ms (opA b p)) = 1)) L 16) 3 = A at h ⊢
  generalize pk1 (fun p => decide (p < openN b) && decide (popc (ms (opA b p)) = 1)) L 16 = B at h h2
  exact ⟨by omega, by omega⟩
theorem key_eq {b ms ms' : Nat → Nat} (hW : Wf b) (hM : MV b ms) (hM' : MV b ms') {L : Nat} (h1 : lowN b ms = lowN b ms') (h2 : higN b ms L = higN b ms' L) : KEq b ms ms' := by
  have h12 := hW.1.2.2.2
  obtain ⟨-, l2⟩ := pk7_inj (keyS_z hW hM) (keyS_z hW hM') _ h1
  obtain ⟨g1, g2⟩ := pk7_inj (fun j => keyS_z hW hM (9 + j)) (fun j => keyS_z hW hM' (9 + j)) _ h2
  obtain ⟨-, p2⟩ := pk1_inj _ g1
  refine ⟨fun c hc => ?_, fun k hk => ?_⟩
  · obtain ⟨p, hp, rfl⟩ := opA_ex (isO_lt hW hc) hc
    have := p2 p (by have := hW.2.2.2.2.1; omega)
    rw [decide_eq_true hp, Bool.true_and, Bool.true_and] at this
    constructor
    · intro e
      rw [decide_eq_true e] at this
      exact of_decide_eq_true this.symm
    · intro e
      rw [decide_eq_true e] at this
      exact of_decide_eq_true this
  · by_cases h : k < 9
    · have := l2 k (by split <;> omega)
      rw [if_pos hk, if_pos hk] at this
      exact this
    · have := g2 (k - 9) (by omega)
      rw [show 9 + (k - 9) = k by omega, if_pos hk, if_pos hk] at this
      exact this
theorem some_mask (v : Int32) : ∃ s, s < 4096 ∧ v &&& nI 4095 = nI s := by
  refine ⟨(v.toBitVec &&& (nI 4095).toBitVec).toNat, ?_, ?_⟩
  · rw [BitVec.toNat_and]
    have : v.toBitVec.toNat &&& (nI 4095).toBitVec.toNat ≤ (nI 4095).toBitVec.toNat := Nat.and_le_right
    have e : (nI 4095).toBitVec.toNat = 4095 := by decide
    omega
  · apply Int32.toBitVec_inj.mp
    show v.toBitVec &&& (nI 4095).toBitVec = BitVec.ofNat 32 (v.toBitVec &&& (nI 4095).toBitVec).toNat
    rw [BitVec.ofNat_toNat, BitVec.setWidth_eq]
section QK
variable {d : Nat} {M : ZM} {b : Nat → Nat} {q : Nat}
theorem q_slotOf {x y : Int64} : ∃ s, s < 4096 ∧ zEv (d + 1) zmS_slotOf [.long x, .long y] M = some (some (.int (nI s)), M) := by
  obtain ⟨s, h1, h2⟩ := some_mask (Int64.toInt32 ((Int64.toUInt64 ((((x ^^^ (y * (-7046029254386353131 : Int64))) * (-4658895280553007687 : Int64)) ^^^ ((Int64.toUInt64 ((x ^^^ (y * (-7046029254386353131 : Int64))) * (-4658895280553007687 : Int64)) >>> ((Int32.toInt64 (nI 32)).toUInt64 &&& Int64.toUInt64 63)).toInt64)) * (-7723592293110705685 : Int64)) >>> ((Int32.toInt64 (nI 40)).toUInt64 &&& Int64.toUInt64 63)).toInt64))
  refine ⟨s, h1, e_S_slotOf ?_⟩
  rw [zLr, zLr, h2]
theorem q_stateBy_25 {r e cz k : Nat} {ms : Nat → Nat} (hr : zkd r = (13, 0)) (he : zkd e = (1, 36)) (hz : zkd cz = (1, 6)) (hW : Wf b) (hM : MV b ms) (hk : k < b 3) (hbd : bdC b k = true) (hR : RCk b k r M) (hMs : MsR e cz (cgN b k) (fun i => ms (cgC b k i)) M) : ∀ n i, i + n = cgN b k → h_R_stateBy_25 (d + 1) r e cz (pI (rnO (cgD b k) (swN b k ms i) 0)) (nI (swN b k ms i).length) (nI i) M = some (some (.int (nI (keyS b k ms))), M) := by
  have h6 := cgN_le hW hk
  have hn3 : M.1 r 3 = nI (cgN b k) := hR.1.2.2
  intro n
  induction n with
  | zero =>
    intro i h
    have hi : i = cgN b k := by omega
    have hlen := swN_len (b := b) (k := k) (ms := ms) (i := i)
    refine e_R_stateBy_25 hr he hz ?_
    rw [hn3, if_neg (by rw [n_lt (by omega) (by omega)]; omega), hi]
    rw [hi] at hlen
    unfold keyS
    rw [hbd, Bool.true_and]
    by_cases hl : (swN b k ms (cgN b k)).length < cgN b k
    · rw [if_pos ((n_lt (by omega) (by omega)).mpr hl), decide_eq_true hl, cond_true]
      cases hs : rnO (cgD b k) (swN b k ms (cgN b k)) 0 with
      | none =>
        show (if nI 0 < (-1 : Int32) then _ else _) = _
        rw [if_neg (by decide)]
        rfl
      | some s =>
        have hlt := rnO_lt (cgD_ok b k) _ 0 s (swN_dig hW hM hk (Nat.le_refl _)) (by omega) hs
        show (if nI 0 < nI s then some (some (Value.int (nI s)), M) else some (some (Value.int (nI 0)), M)) = some (some (Value.int (nI s)), M)
        by_cases h0 : s = 0
        · rw [h0, if_neg (by rw [n_lt (by omega) (by omega)]; omega)]
        · rw [if_pos ((n_lt (by omega) (by omega)).mpr (by omega))]
    · rw [if_neg (by rw [n_lt (by omega) (by omega)]; exact hl), decide_eq_false hl, cond_false]
  | succ n ih =>
    intro i h
    have hi : i < cgN b k := by omega
    have hlen := swN_len (b := b) (k := k) (ms := ms) (i := i)
    obtain ⟨c, c1, c2, c3, c4⟩ := hMs i hi
    have c3 : M.1 e c = nI (ms (cgC b k i)) := c3
    have c4 : ms (cgC b k i) < 256 := c4
    have hpl := popc_le (ms (cgC b k i))
    refine e_R_stateBy_25 hr he hz ?_
    rw [hn3, if_pos ((n_lt (by omega) (by omega)).mpr hi), if_pos ((n_lt (by omega) (by omega)).mpr (by omega)), if_pos ((n_zin (by omega)).mpr (by omega)), n_clamp (by omega), c2, q_marksAt he c1 c3, zC1_some, q_bitI (by omega), zC1_some]
    have ih1 := ih (i + 1) (by omega)
    rw [swN_succ] at ih1
    by_cases hp : popc (ms (cgC b k i)) = 1
    · rw [if_pos hp] at ih1
      obtain ⟨y, y1, y2⟩ := mv_su hM hW.1.2.2.1 (cgC_lt hW hk hi) hp
      have hl : lst (ms (cgC b k i)) = y := by rw [y2, lst_pow y y1.1 y1.2]
      rw [hp, if_pos rfl, q_leastDigit (by omega), zC1_some]
      rw [rnO_snoc, List.length_append, List.length_singleton] at ih1
      cases hs : rnO (cgD b k) (swN b k ms i) 0 with
      | none =>
        rw [hs] at ih1
        show zC1 (zEv (d + 1) zmR_after [.ref r, .int (-1), _] M) _ = _
        rw [q_after_n hr, zC1_some, n_add1, n_add1]
        exact ih1
      | some s =>
        rw [hs] at ih1
        have hlt := rnO_lt (cgD_ok b k) _ 0 s (swN_dig hW hM hk (show i ≤ cgN b k by omega)) (by omega) hs
        show zC1 (zEv (d + 1) zmR_after [.ref r, .int (nI s), _] M) _ = _
        rw [q_after hr hR.2 hlt (by omega) (by omega), zC1_some, n_add1, n_add1]
        exact ih1
    · rw [if_neg hp, List.append_nil] at ih1
      rw [if_neg (by rw [n_eq (by omega) (by omega)]; exact hp), n_add1]
      exact ih1
theorem q_stateBy {r e cz k : Nat} {ms : Nat → Nat} (hr : zkd r = (13, 0)) (he : zkd e = (1, 36)) (hz : zkd cz = (1, 6)) (hW : Wf b) (hM : MV b ms) (hk : k < b 3) (hR : RCk b k r M) (hMs : MsR e cz (cgN b k) (fun i => ms (cgC b k i)) M) : zEv (d + 2) zmR_stateBy [.ref r, .ref e, .ref cz] M = some (some (.int (nI (keyS b k ms))), M) := by
  have h3 := (hW.2.2.2.2.2 k hk).1.1
  have e0 : M.1 r 0 = nI (b (148 + 10 * k)) := hR.1.1.1
  have e1 : M.1 r 1 = nB (!cgU b k) := hR.1.1.2
  refine e_R_stateBy hr he hz ?_
  rw [e1, e0]
  cases hbd : bdC b k with
  | false =>
    obtain ⟨g1, g2⟩ := bdC_no hbd
    rw [g2, g1, if_neg (show ¬ nB (!false) = nI 0 by decide), if_pos rfl]
    unfold keyS
    rw [hbd]
    rfl
  | true =>
    have hh := q_stateBy_25 (d := d) hr he hz hW hM hk hbd hR hMs (cgN b k) 0 (by omega)
    have hh : h_R_stateBy_25 (d + 1) r e cz (nI 0) (nI 0) (nI 0) M = some (some (.int (nI (keyS b k ms))), M) := hh
    cases hu : cgU b k with
    | true => rw [if_pos (show nB (!true) = nI 0 by decide)]; exact hh
    | false =>
      rw [if_neg (show ¬ nB (!false) = nI 0 by decide), if_neg]
      · exact hh
      · rw [n_eq (by omega) (by omega)]
        intro e
        unfold bdC at hbd
        rw [hu, decide_eq_true e] at hbd
        cases hbd
end QK
