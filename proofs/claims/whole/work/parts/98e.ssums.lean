/-! THE CLASS, 41: sums as equations, modulo a number -/
def sumZ (f : Nat → Int) : Nat → Int
  | 0 => 0
  | n + 1 => sumZ f n + f n
def fm (a b : Nat) : Nat := (((a : Int) - (b : Int)) % 32749).toNat
theorem fm_lt (a b : Nat) : fm a b < 32749 := by unfold fm; omega
theorem fm_eq (a b : Nat) : ∃ z : Int, (fm a b : Int) = (a : Int) - (b : Int) + 32749 * z := ⟨-(((a : Int) - (b : Int)) / 32749), by unfold fm; omega⟩
theorem fm_self (a : Nat) : fm a a = 0 := by unfold fm; omega
theorem msb_lt (v : Int32) : (v < nI 0) ↔ v.toBitVec.msb = true := by
  rw [Int32.lt_iff_toInt_lt, BitVec.msb_eq_toInt, decide_eq_true_iff, n_toInt (by omega)]
  exact Iff.rfl
theorem oI_nat (a : Nat) : Int32.ofInt (a : Int) = nI a := Int32.ofInt_eq_ofNat
theorem q_floorMod {d : Nat} {M : ZM} (z : Int) (h1 : -2147483648 < z) (h2 : z < 2147483648) {p : Nat} (h0 : 0 < p) (hp : p < 2147483648) : ∃ r : Nat, r < p ∧ (∃ k : Int, z = (r : Int) + (p : Int) * k) ∧ zEv (d + 1) zmJM_floorMod [.int (Int32.ofInt z), .int (nI p)] M = some (some (.int (nI r)), M) := by
  have hpI : (nI p).toInt = (p : Int) := n_toInt hp
  have hzI : (Int32.ofInt z).toInt = z := Int32.toInt_ofInt_of_le (by omega) (by omega)
  have hpm : (nI p).toBitVec.msb = false := by
    cases h : (nI p).toBitVec.msb with
    | false => rfl
    | true => exact absurd ((msb_lt _).mpr h) (by rw [n_lt hp (by omega)]; omega)
  have hx : (Int32.ofInt z ^^^ nI p < nI 0) ↔ z < 0 := by
    rw [msb_lt, Int32.toBitVec_xor, BitVec.msb_xor, hpm, Bool.xor_false, ← msb_lt, Int32.lt_iff_toInt_lt, hzI, n_toInt (by omega)]
    exact Iff.rfl
  have hp0 : ¬ nI p = nI 0 := by rw [n_eq hp (by omega)]; omega
  by_cases hz : z < 0
  · obtain ⟨a, rfl⟩ : ∃ a : Nat, z = -(a : Int) := ⟨(-z).toNat, by omega⟩
    have hdm := Nat.div_add_mod a p
    have hml := Nat.mod_lt a h0
    have hq : Int32.ofInt (-(a : Int)) / nI p = Int32.ofInt (-((a / p : Nat) : Int)) := by
      have hle := Nat.div_le_self a p
      rw [← Int32.toInt_inj, Int32.toInt_div, hzI, hpI, Int.neg_tdiv, ← Int.ofNat_tdiv]
      generalize a / p = q at hle
      rw [Int32.toInt_ofInt_of_le (by omega) (by omega)]
      exact Int.bmod_eq_of_le (by omega) (by omega)
    have hr : Int32.ofInt (-(a : Int)) - Int32.ofInt (-(a : Int)) / nI p * nI p = Int32.ofInt (-((a % p : Nat) : Int)) := by
      rw [hq, ← oI_nat p, ← Int32.ofInt_mul, ← Int32.ofInt_sub]
      congr 1
      generalize a / p = q at hdm ⊢
      generalize a % p = r at hdm ⊢
      rw [Int.neg_mul, Int.mul_comm]
      have : (p : Int) * (q : Int) + (r : Int) = (a : Int) := by rw [← hdm]; rfl
      omega
    by_cases h : a % p = 0
    · refine ⟨0, h0, ⟨-((a / p : Nat) : Int), ?_⟩, e_JM_floorMod ?_⟩
      · rw [h] at hdm
        generalize a / p = q at hdm ⊢
        have : (p : Int) * (q : Int) = (a : Int) := by rw [← hdm]; rfl
        rw [Int.mul_neg, this]
        omega
      · rw [if_neg hp0, if_pos (hx.mpr hz), hr, h, if_pos (by decide)]
        rfl
    · refine ⟨p - a % p, by omega, ⟨-((a / p : Nat) : Int) - 1, ?_⟩, e_JM_floorMod ?_⟩
      · generalize a / p = q at hdm ⊢
        generalize a % p = r at hdm hml h ⊢
        have : (p : Int) * (q : Int) + (r : Int) = (a : Int) := by rw [← hdm]; rfl
        rw [Int.mul_sub, Int.mul_neg, Int.mul_one]
        omega
      · have hne : ¬ Int32.ofInt (-((a % p : Nat) : Int)) = nI 0 := fun e => by
          have := congrArg Int32.toInt e
          rw [Int32.toInt_ofInt_of_le (by omega) (by omega), n_toInt (by omega)] at this
          omega
        rw [if_neg hp0, if_pos (hx.mpr hz), hr, if_neg hne]
        have e : Int32.ofInt (-((a % p : Nat) : Int)) + nI p = nI (p - a % p) := by
          rw [← oI_nat p, ← Int32.ofInt_add, ← oI_nat (p - a % p)]
          congr 1
          omega
        rw [e]
  · obtain ⟨a, rfl⟩ : ∃ a : Nat, z = (a : Int) := ⟨z.toNat, by omega⟩
    have hdm := Nat.div_add_mod a p
    refine ⟨a % p, Nat.mod_lt _ h0, ⟨((a / p : Nat) : Int), ?_⟩, e_JM_floorMod ?_⟩
    · generalize a / p = q at hdm ⊢
      generalize a % p = r at hdm ⊢
      have : (p : Int) * (q : Int) + (r : Int) = (a : Int) := by rw [← hdm]; rfl
      omega
    · rw [if_neg hp0, if_neg (fun w => absurd (hx.mp w) hz), oI_nat, n_rem (by omega) hp]
theorem q_fm {d : Nat} {M : ZM} {a b : Nat} (ha : a < 2147483648) (hb : b < 2147483648) : zEv (d + 1) zmJM_floorMod [.int (nI a - nI b), .int (nI 32749)] M = some (some (.int (nI (fm a b))), M) := by
  obtain ⟨r, h1, ⟨k, h2⟩, h3⟩ := q_floorMod (d := d) (M := M) ((a : Int) - (b : Int)) (by omega) (by omega) (p := 32749) (by omega) (by omega)
  rw [Int32.ofInt_sub, oI_nat, oI_nat] at h3
  rw [show fm a b = r by unfold fm; omega]
  exact h3
/-- a row of 17 numbers that tells an equation, which x meets where G is so -/
def ER (x : Nat → Nat) (G : Prop) (f : Nat → Int32) : Prop := ∃ e : Nat → Nat, (∀ i, i < 17 → f i = nI (e i) ∧ e i < 32749) ∧ (G → ∃ z : Int, sumZ (fun i => (e i : Int) * (x i : Int)) 16 = (e 16 : Int) + 32749 * z)
theorem ER.cg {x : Nat → Nat} {G : Prop} {f f' : Nat → Int32} (h : ER x G f) (e : ∀ i, i < 17 → f' i = f i) : ER x G f' := by
  obtain ⟨e0, h1, h2⟩ := h
  exact ⟨e0, fun i hi => ⟨(e i hi).trans (h1 i hi).1, (h1 i hi).2⟩, h2⟩
theorem sumZ_red (e c x : Nat → Nat) (s t : Nat) : ∀ n, ∃ z : Int, sumZ (fun j => (fm (e j * s) (c j * t) : Int) * (x j : Int)) n = (s : Int) * sumZ (fun j => (e j : Int) * (x j : Int)) n - (t : Int) * sumZ (fun j => (c j : Int) * (x j : Int)) n + 32749 * z
  | 0 => ⟨0, by show (0 : Int) = (s : Int) * 0 - (t : Int) * 0 + 32749 * 0; omega⟩
  | n + 1 => by
    obtain ⟨z, hz⟩ := sumZ_red e c x s t n
    obtain ⟨y, hy⟩ := fm_eq (e n * s) (c n * t)
    refine ⟨z + y * (x n : Int), ?_⟩
    show sumZ _ n + (fm (e n * s) (c n * t) : Int) * (x n : Int) = (s : Int) * (sumZ (fun j => (e j : Int) * (x j : Int)) n + (e n : Int) * (x n : Int)) - (t : Int) * (sumZ (fun j => (c j : Int) * (x j : Int)) n + (c n : Int) * (x n : Int)) + 32749 * (z + y * (x n : Int))
    rw [hz, hy, Int.natCast_mul, Int.natCast_mul]
    generalize sumZ (fun j => (e j : Int) * (x j : Int)) n = A
    generalize sumZ (fun j => (c j : Int) * (x j : Int)) n = B
    grind
theorem zk_eq {r : Nat} (hr : r < 12) : zkd (565 + r) = (1, 17) := by
  have h := zl_5 (q := 564) (i := nI r) (by decide +kernel) ((n_zin (by omega)).mpr hr)
  rw [n_clamp (by omega), show 564 + 1 + r = 565 + r by omega] at h
  exact h
section QE
variable {d : Nat} {b : Nat → Nat} {q : Nat}
theorem q_reduce_12 {x0 x1 : Nat} (hk0 : zkd x0 = (1, 17)) (hk1 : zkd x1 = (1, 17)) (hne : x0 ≠ x1) {e c : Nat → Nat} {s t : Nat} (hs : s < 32749) (ht : t < 32749) (ht0 : t ≠ 0) : ∀ n i (M : ZM), i + n = 17 → (∀ j, i ≤ j → j < 17 → M.1 x0 j = nI (e j) ∧ e j < 32749) → (∀ j, j < 17 → M.1 x1 j = nI (c j) ∧ c j < 32749) → (∀ j, j < i → M.1 x0 j = nI (fm (e j * s) (c j * t))) → ∃ M', h_S_reduce_12 (d + 1) x0 x1 (nI t) (nI s) (nI i) M = some (none, M') ∧ (∀ j, j < 17 → M'.1 x0 j = nI (fm (e j * s) (c j * t))) ∧ frI (fun a _ => a = x0) M M' := by
  intro n
  induction n with
  | zero =>
    intro i M h _ _ hd
    refine ⟨M, e_S_reduce_12 hk0 hk1 ?_, fun j hj => hd j (by omega), fr.refl⟩
    rw [if_pos (by rw [n_lt (by omega) (by omega)]; omega)]
  | succ n ih =>
    intro i M h he hc hd
    obtain ⟨e1, e2⟩ := he i (Nat.le_refl i) (by omega)
    obtain ⟨c1, c2⟩ := hc i (by omega)
    have b1 : e i * s < 32749 * 32749 := Nat.mul_lt_mul'' e2 hs
    have b2 : c i * t < 32749 * 32749 := Nat.mul_lt_mul'' c2 ht
    obtain ⟨M', a1, a2, a3⟩ := ih (i + 1) (zpi M x0 i (nI (fm (e i * s) (c i * t)))) (by omega) (fun j h1 h2 => by rw [m_pi, if_neg (by omega)]; exact he j (by omega) h2) (fun j hj => by rw [m_pi, if_neg (by omega)]; exact hc j hj) (fun j hj => by
      rw [m_pi]
      by_cases ej : j = i
      · rw [if_pos ⟨rfl, ej⟩, ej]
      · rw [if_neg (by omega)]; exact hd j (by omega))
    refine ⟨M', e_S_reduce_12 hk0 hk1 ?_, a2, (fr.refl.pi (p := fun a _ => a = x0) rfl).trans a3⟩
    rw [if_neg (by rw [n_lt (by omega) (by omega)]; omega), if_neg (by rw [n_eq (by omega) (by omega)]; exact ht0), if_pos ((n_zin (by omega)).mpr (by omega)), n_clamp (by omega), e1, c1, n_mul, n_mul, q_fm (by omega) (by omega), zC1_some, n_add1]
    exact a1
theorem q_reduce {x : Nat → Nat} {G : Prop} {M : ZM} {x0 x1 pl : Nat} (hk0 : zkd x0 = (1, 17)) (hk1 : zkd x1 = (1, 17)) (hne : x0 ≠ x1) (hpl : pl < 16) (h0 : ER x G (M.1 x0)) (h1 : ER x G (M.1 x1)) : ∃ M', zEv (d + 2) zmS_reduce [.ref x0, .ref x1, .int (nI pl)] M = some (none, M') ∧ ER x G (M'.1 x0) ∧ M'.1 x0 pl = nI 0 ∧ (∀ j, j < 16 → M.1 x0 j = nI 0 → M.1 x1 j = nI 0 → M'.1 x0 j = nI 0) ∧ frI (fun a _ => a = x0) M M' := by
  obtain ⟨e, e1, e2⟩ := h0
  obtain ⟨c, c1, c2⟩ := h1
  obtain ⟨ep1, ep2⟩ := e1 pl (by omega)
  obtain ⟨cp1, cp2⟩ := c1 pl (by omega)
  by_cases ht : e pl = 0
  · refine ⟨M, e_S_reduce hk0 hk1 ?_, ⟨e, e1, e2⟩, by rw [ep1, ht], fun j _ z _ => z, fr.refl⟩
    rw [if_pos ((n_zin (by omega)).mpr (by omega)), n_clamp (by omega), ep1, ht]
    refine e_S_reduce_12 hk0 hk1 ?_
    rw [if_neg (by rw [n_lt (by omega) (by omega)]; omega), if_pos rfl]
  · obtain ⟨M', a1, a2, a3⟩ := q_reduce_12 (d := d) (e := e) (c := c) hk0 hk1 hne cp2 ep2 ht 17 0 M (by omega) (fun j _ h => e1 j h) c1 (fun j hj => absurd hj (Nat.not_lt_zero j))
    refine ⟨M', e_S_reduce hk0 hk1 ?_, ⟨fun j => fm (e j * c pl) (c j * e pl), fun i hi => ⟨a2 i hi, fm_lt _ _⟩, fun hG => ?_⟩, ?_, fun j hj z1 z2 => ?_, a3⟩
    · rw [if_pos ((n_zin (by omega)).mpr (by omega)), n_clamp (by omega), ep1, cp1]
      exact a1
    · obtain ⟨z1, hz1⟩ := e2 hG
      obtain ⟨z2, hz2⟩ := c2 hG
      obtain ⟨z3, hz3⟩ := sumZ_red e c x (c pl) (e pl) 16
      obtain ⟨z4, hz4⟩ := fm_eq (e 16 * c pl) (c 16 * e pl)
      refine ⟨(c pl : Int) * z1 - (e pl : Int) * z2 + z3 - z4, ?_⟩
      rw [hz3, hz1, hz2]
      show _ = (fm (e 16 * c pl) (c 16 * e pl) : Int) + _
      rw [hz4, Int.natCast_mul, Int.natCast_mul]
      grind
    · rw [a2 pl (by omega), Nat.mul_comm, fm_self]
    · have f1 := e1 j (by omega)
      have f2 := c1 j (by omega)
      rw [f1.1, n_eq (by omega) (by omega)] at z1
      rw [f2.1, n_eq (by omega) (by omega)] at z2
      rw [a2 j (by omega), z1, z2, Nat.zero_mul, Nat.zero_mul, fm_self]
def pEq : Nat → Nat → Prop := fun a _ => 565 ≤ a ∧ a ≤ 576
def EQs (x : Nat → Nat) (G : Prop) (many ra pl : Nat) (M : ZM) : Prop := (∀ r, r < many → ER x G (M.1 (565 + r))) ∧ ∀ r, ra ≤ r → r < many → ∀ j, j < pl → M.1 (565 + r) j = nI 0
theorem q_bringUp_24 {ra ro : Nat} (hra : ra < 12) (hro : ro < 12) : ∀ n i (M : ZM), i + n = 17 → ∃ M', h_S_bringUp_24 d (nI ra) (nI ro) (nI i) M = some (some (.int (nI 1)), M') ∧ (∀ j, i ≤ j → j < 17 → M'.1 (565 + ra) j = M.1 (565 + ro) j ∧ M'.1 (565 + ro) j = M.1 (565 + ra) j) ∧ (∀ j, j < i → M'.1 (565 + ra) j = M.1 (565 + ra) j ∧ M'.1 (565 + ro) j = M.1 (565 + ro) j) ∧ frI (fun a _ => a = 565 + ra ∨ a = 565 + ro) M M' := by
  intro n
  induction n with
  | zero =>
    intro i M h
    refine ⟨M, e_S_bringUp_24 ?_, fun j h1 h2 => by omega, fun j _ => ⟨rfl, rfl⟩, fr.refl⟩
    rw [if_pos (by rw [n_lt (by omega) (by omega)]; omega)]
  | succ n ih =>
    intro i M h
    obtain ⟨M', a1, a2, a3, a4⟩ := ih (i + 1) (zpi (zpi M (565 + ra) i (M.1 (565 + ro) i)) (565 + ro) i (M.1 (565 + ra) i)) (by omega)
    refine ⟨M', e_S_bringUp_24 ?_, fun j h1 h2 => ?_, fun j hj => ?_, ((fr.refl.pi (p := fun a _ => a = 565 + ra ∨ a = 565 + ro) (Or.inl rfl)).pi (Or.inr rfl)).trans a4⟩
    · rw [if_neg (by rw [n_lt (by omega) (by omega)]; omega), if_pos ((n_zin (by omega)).mpr hra), if_pos ((n_zin (by omega)).mpr (by omega)), zLr, if_pos ((n_zin (by omega)).mpr hro), zLr, n_clamp (by omega), n_clamp (by omega), n_clamp (by omega), n_add1]
      exact a1
    · by_cases e : j = i
      · subst e
        obtain ⟨u1, u2⟩ := a3 j (by omega)
        rw [u1, u2, m_pi, m_pi, m_pi, m_pi]
        by_cases e2 : ra = ro
        · subst e2
          rw [if_pos ⟨rfl, rfl⟩]
          exact ⟨rfl, rfl⟩
        · rw [if_neg (by omega), if_pos ⟨rfl, rfl⟩, if_pos ⟨rfl, rfl⟩]
          exact ⟨rfl, rfl⟩
      · obtain ⟨u1, u2⟩ := a2 j (by omega) h2
        rw [u1, u2, m_pi, m_pi, m_pi, m_pi, if_neg (by omega), if_neg (by omega), if_neg (by omega), if_neg (by omega)]
        exact ⟨rfl, rfl⟩
    · obtain ⟨u1, u2⟩ := a3 j (by omega)
      rw [u1, u2, m_pi, m_pi, m_pi, m_pi, if_neg (by omega), if_neg (by omega), if_neg (by omega), if_neg (by omega)]
      exact ⟨rfl, rfl⟩
theorem q_bringUp_3 {x : Nat → Nat} {G : Prop} {many ra pl : Nat} {M : ZM} (hm : many ≤ 12) (hra : ra < many) (hpl : pl < 16) (hE : EQs x G many ra pl M) : ∀ n ro, ro + n = many → ra ≤ ro → (∀ r, ra ≤ r → r < ro → M.1 (565 + r) pl = nI 0) → ∃ v M', h_S_bringUp_3 d (nI pl) (nI ra) (nI many) (nI ro) M = some (some (.int (nB v)), M') ∧ EQs x G many ra pl M' ∧ (v = false → EQs x G many ra (pl + 1) M') ∧ frI pEq M M' := by
  intro n
  induction n with
  | zero =>
    intro ro h _ hz
    refine ⟨false, M, e_S_bringUp_3 ?_, hE, fun _ => ⟨hE.1, fun r h1 h2 j hj => ?_⟩, fr.refl⟩
    · rw [if_neg (by rw [n_lt (by omega) (by omega)]; omega)]
      rfl
    · by_cases e : j = pl
      · rw [e]; exact hz r h1 (by omega)
      · exact hE.2 r h1 h2 j (by omega)
  | succ n ih =>
    intro ro h hro hz
    have e0 : ∀ rr, (if M.1 (565 + ro) pl = nI 0 then h_S_bringUp_3 d (nI pl) (nI ra) (nI many) (nI (ro + 1)) M else h_S_bringUp_24 d (nI ra) (nI ro) (nI 0) M) = some rr → h_S_bringUp_3 d (nI pl) (nI ra) (nI many) (nI ro) M = some rr := fun rr hrr => by
      refine e_S_bringUp_3 ?_
      rw [if_pos ((n_lt (by omega) (by omega)).mpr (by omega)), if_pos ((n_zin (by omega)).mpr (by omega)), if_pos ((n_zin (by omega)).mpr (by omega)), n_clamp (by omega), n_clamp (by omega), n_add1]
      exact hrr
    by_cases h0 : M.1 (565 + ro) pl = nI 0
    · obtain ⟨v, M', a1, a2, a3, a4⟩ := ih (ro + 1) (by omega) (by omega) (fun r h1 h2 => by
        by_cases e : r = ro
        · rw [e]; exact h0
        · exact hz r h1 (by omega))
      exact ⟨v, M', e0 _ (by rw [if_pos h0]; exact a1), a2, a3, a4⟩
    · obtain ⟨M', a1, a2, _, a4⟩ := q_bringUp_24 (d := d) (ra := ra) (ro := ro) (by omega) (by omega) 17 0 M (by omega)
      refine ⟨true, M', e0 _ (by rw [if_neg h0]; exact a1), ⟨fun r hr => ?_, fun r h1 h2 j hj => ?_⟩, (fun z => by cases z), a4.mono (fun a _ z => by unfold pEq; omega) fun _ _ z => z⟩
      · by_cases e1 : r = ra
        · rw [e1]; exact (hE.1 ro (by omega)).cg fun i hi => (a2 i (Nat.zero_le i) hi).1
        · by_cases e2 : r = ro
          · rw [e2]; exact (hE.1 ra hra).cg fun i hi => (a2 i (Nat.zero_le i) hi).2
          · exact (hE.1 r hr).cg fun i hi => a4.1 (565 + r) i (by omega)
      · by_cases e1 : r = ra
        · rw [e1, (a2 j (Nat.zero_le j) (by omega)).1]; exact hE.2 ro hro (by omega) j hj
        · by_cases e2 : r = ro
          · rw [e2, (a2 j (Nat.zero_le j) (by omega)).2]; exact hE.2 ra (Nat.le_refl ra) hra j hj
          · rw [a4.1 (565 + r) j (by omega)]; exact hE.2 r h1 h2 j hj
theorem q_bringUp {x : Nat → Nat} {G : Prop} {many ra pl : Nat} {M : ZM} (hm : many ≤ 12) (hra : ra < many) (hpl : pl < 16) (hE : EQs x G many ra pl M) : ∃ v M', zEv (d + 1) zmS_bringUp [.ref 411, .int (nI pl), .int (nI ra), .int (nI many)] M = some (some (.int (nB v)), M') ∧ EQs x G many ra pl M' ∧ (v = false → EQs x G many ra (pl + 1) M') ∧ frI pEq M M' := by
  obtain ⟨v, M', a1, a2⟩ := q_bringUp_3 (d := d) hm hra hpl hE (many - ra) ra (by omega) (Nat.le_refl ra) (fun r h1 h2 => by omega)
  exact ⟨v, M', e_S_bringUp a1, a2⟩
end QE
