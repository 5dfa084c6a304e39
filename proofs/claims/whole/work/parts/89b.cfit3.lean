/-! THE CLASS, 26: products fitted; fit -/
theorem tmG_dvd {p : Nat} (hp : 1 < p) : ∀ f r k, ∃ e r', tmG p f r k = k + e ∧ r = p ^ e * r'
  | 0, r, k => ⟨0, r, rfl, by rw [Nat.pow_zero, Nat.one_mul]⟩
  | f + 1, r, k => by
    unfold tmG
    by_cases h : 0 < r ∧ r % p = 0
    · rw [if_pos h]
      obtain ⟨e, r', h1, h2⟩ := tmG_dvd hp f (r / p) (k + 1)
      refine ⟨e + 1, r', by rw [h1]; omega, ?_⟩
      have h3 : r = p * (r / p) := by
        have := Nat.div_add_mod r p
        rw [h.2, Nat.add_zero] at this
        exact this.symm
      rw [Nat.pow_succ, Nat.mul_comm (p ^ e) p, Nat.mul_assoc, ← h2]
      exact h3
    · rw [if_neg h]
      exact ⟨0, r, rfl, by rw [Nat.pow_zero, Nat.one_mul]⟩
theorem tm_dvd {p : Nat} (hp : 1 < p) (t : Nat) : p ^ tm t p ∣ t := by
  obtain ⟨e, r', h1, h2⟩ := tmG_dvd hp 17 t 0
  unfold tm
  rw [h1, Nat.zero_add]
  exact ⟨r', h2⟩
theorem tmG_le (p : Nat) : ∀ f r k, tmG p f r k ≤ k + f
  | 0, r, k => Nat.le_refl k
  | f + 1, r, k => by
    unfold tmG
    split
    · have := tmG_le p f (r / p) (k + 1)
      omega
    · omega
theorem tm_le (t p : Nat) : tm t p ≤ 17 := by
  have := tmG_le p 17 t 0
  unfold tm
  omega
theorem prP_dvd (t : Nat) : prP (tm t 2) (tm t 3) (tm t 5) (tm t 7) ∣ t := by
  unfold prP
  have c23 : (2 ^ tm t 2).Coprime (3 ^ tm t 3) := Nat.Coprime.pow _ _ (by decide)
  have c25 : (2 ^ tm t 2).Coprime (5 ^ tm t 5) := Nat.Coprime.pow _ _ (by decide)
  have c35 : (3 ^ tm t 3).Coprime (5 ^ tm t 5) := Nat.Coprime.pow _ _ (by decide)
  have c27 : (2 ^ tm t 2).Coprime (7 ^ tm t 7) := Nat.Coprime.pow _ _ (by decide)
  have c37 : (3 ^ tm t 3).Coprime (7 ^ tm t 7) := Nat.Coprime.pow _ _ (by decide)
  have c57 : (5 ^ tm t 5).Coprime (7 ^ tm t 7) := Nat.Coprime.pow _ _ (by decide)
  exact Nat.Coprime.mul_dvd_of_dvd_of_dvd ((c27.mul_left c37).mul_left c57) (Nat.Coprime.mul_dvd_of_dvd_of_dvd (c25.mul_left c35) (Nat.Coprime.mul_dvd_of_dvd_of_dvd c23 (tm_dvd (by omega) t) (tm_dvd (by omega) t)) (tm_dvd (by omega) t)) (tm_dvd (by omega) t)
section QF3
variable {d : Nat} {q : Nat}
theorem q_fitSum_19 (hq : zkd q = (13, 0)) {s t z : Nat} {al : Bool} (ht : t ≤ 42) : ∀ j i (M : ZM), i + j = 8 → 1 ≤ i → HF s al t z q M → RP (dU t i i 0) q M → ∃ M', h_R_fitSum_19 (d + 1) q (nI i) M = some (none, M') ∧ RP (rSum t) q M' ∧ fr (pF1 q) (pF2 q) M M' := by
  intro j
  induction j with
  | zero =>
    intro i M h h1 hF hR
    obtain rfl : i = 8 := by omega
    obtain ⟨M1, b1, b2, b3⟩ := q_aim (d := d) hq hR (show t < 128 by omega)
    refine ⟨M1, e_R_fitSum_19 hq ?_, b2.ext (fun g h1 h7 => ⟨fun s' _ => ⟨rfl, ?_⟩, ?_⟩) fun s' _ => ?_, b3⟩
    · rw [if_pos ((n_lt (by omega) (by omega)).mpr (by omega)), hF.2.1, b1, zC0_some]
    · show (decide (t ≤ 42) && decide (s' + g ≤ t)) = ((decide (g < 8) && decide (s' + g ≤ t)) || (decide (g = 8) && (decide (s' < 0) && decide (s' + g ≤ t))))
      rw [Bool.eq_iff_iff]
      simp only [Bool.and_eq_true, Bool.or_eq_true, decide_eq_true_eq]
      omega
    · show (if t ≤ 42 then g else 0) = if g < 8 then g else 0
      rw [if_pos ht, if_pos (by omega)]
    · show (decide (t ≤ 42) && decide (s' = t)) = (false || decide (s' = t))
      rw [decide_eq_true ht]
      rfl
  | succ j ih =>
    intro i M h h1 hF hR
    have hfr : fr (pF1 q) (pF2 q) M (zpi M (q + 5) i (nI i)) := fr.refl.pi rfl
    obtain ⟨M1, b1, b2, b3⟩ := q_fitSum_34 (d := d) (M := zpi M (q + 5) i (nI i)) hq (i := i) (t := t) ht h1 (by omega) (t + 1 - (0 + i)) 0 rfl (by omega) (hF.fr hfr) (hR.upd (g := i) (fun a k z => by rw [m_pi, if_neg (by omega)]) (fun a k _ => rfl) (fun _ h7 => by
      obtain ⟨r1, r2⟩ := hR.2 i h1 h7
      rw [m_pi, if_pos ⟨rfl, rfl⟩]
      refine ⟨⟨r1.1, r1.2.ext fun s' _ => ?_⟩, by show nI i = nI (if i < i + 1 then i else 0); rw [if_pos (by omega)]⟩
      show ((decide (i < i) && decide (s' + i ≤ t)) || (decide (i = i) && (decide (s' < 0) && decide (s' + i ≤ t)))) = ((decide (i < i) && decide (s' + i ≤ t)) || (decide (i = i) && (decide (s' < 0) && decide (s' + i ≤ t))))
      rfl) (fun x hx _ _ => ⟨fun s' _ => ⟨rfl, rfl⟩, by
      show (if x < i + 1 then x else 0) = if x < i then x else 0
      by_cases c : x < i
      · rw [if_pos c, if_pos (by omega)]
      · rw [if_neg c, if_neg (by omega)]⟩) fun _ _ => rfl)
    obtain ⟨M2, c1, c2, c3⟩ := ih (i + 1) M1 (by omega) (by omega) ((hF.fr hfr).fr b3) b2
    refine ⟨M2, e_R_fitSum_19 hq ?_, c2, (hfr.trans b3).trans c3⟩
    rw [if_neg (by rw [n_lt (by omega) (by omega)]; omega), if_pos ((n_zin (by omega)).mpr (by omega)), n_clamp (by omega)]
    exact b1 _ c1
theorem q_fitSum {M : ZM} (hq : zkd q = (13, 0)) {s t z : Nat} {al : Bool} (ht : t < 2147483648) (hF : HF s al t z q M) (hR : RP noD q M) : ∃ M', zEv (d + 2) zmR_fitSum [.ref q] M = some (none, M') ∧ RP (rSum t) q M' ∧ fr (pF1 q) (pF2 q) M M' := by
  by_cases h42 : t ≤ 42
  · obtain ⟨M', a1, a2⟩ := q_fitSum_19 (d := d) hq h42 7 1 M (by omega) (by omega) hF (hR.ext (fun g h1 _ => ⟨fun s' _ => ⟨rfl, by
      show ((decide (g < 1) && decide (s' + g ≤ t)) || (decide (g = 1) && (decide (s' < 0) && decide (s' + g ≤ t)))) = false
      rw [decide_eq_false (show ¬ g < 1 by omega), decide_eq_false (Nat.not_lt_zero s'), Bool.false_and, Bool.and_false, Bool.or_false]⟩, by show (if g < 1 then g else 0) = 0; rw [if_neg (by omega)]⟩) fun _ _ => rfl)
    refine ⟨M', e_R_fitSum hq ?_, a2⟩
    rw [hF.2.1, if_neg (by rw [n_lt (by omega) (by omega)]; omega), if_neg (by rw [n_lt (by omega) (by omega)]; omega)]
    exact a1
  · refine ⟨M, e_R_fitSum hq ?_, hR.ext (fun g _ _ => ⟨fun s' _ => ⟨rfl, by show (decide (t ≤ 42) && _) = false; rw [decide_eq_false h42, Bool.false_and]⟩, by show (if t ≤ 42 then g else 0) = 0; rw [if_neg h42]⟩) (fun _ _ => by show (decide (t ≤ 42) && _) = false; rw [decide_eq_false h42, Bool.false_and]), fr.refl⟩
    rw [hF.2.1, if_neg (by rw [n_lt (by omega) (by omega)]; omega), if_pos ((n_lt (by omega) (by omega)).mpr (by omega))]
/-! the product -/
theorem q_timesIn_4 {M : ZM} {p : Nat} (hp : 1 < p) (hp2 : p < 2147483648) : ∀ f k r, k + f = 17 → r < 2147483648 → h_R_timesIn_4 d (nI p) (nI k) (nI r) M = some (some (.int (nI (tmG p f r k))), M) := by
  intro f
  induction f with
  | zero =>
    intro k r h hr
    refine e_R_timesIn_4 ?_
    rw [if_neg (by rw [n_lt (by omega) (by omega)]; omega)]
    rfl
  | succ f ih =>
    intro k r h hr
    refine e_R_timesIn_4 ?_
    have hp0 : ¬ nI p = nI 0 := by rw [n_eq hp2 (by omega)]; omega
    have hm : r % p < p := Nat.mod_lt _ (by omega)
    have hd : r / p ≤ r := Nat.div_le_self r p
    unfold tmG
    rw [if_pos ((n_lt (by omega) (by omega)).mpr (by omega)), if_pos ((n_lt (by omega) hp2).mpr hp), if_neg hp0, if_neg hp0, n_rem hr hp2, n_div hr hp2, n_add1]
    by_cases h0 : 0 < r
    · rw [if_pos ((n_lt (by omega) hr).mpr h0)]
      by_cases h1 : r % p = 0
      · rw [if_pos ((n_eq (by omega) (by omega)).mpr h1), if_pos ⟨h0, h1⟩]
        exact ih (k + 1) (r / p) (by omega) (by omega)
      · rw [if_neg (by rw [n_eq (by omega) (by omega)]; exact h1), if_neg (fun z => h1 z.2)]
    · rw [if_neg (by rw [n_lt (by omega) hr]; exact h0), if_neg (fun z => h0 z.1)]
theorem q_timesIn {M : ZM} {p t : Nat} (hp : 1 < p) (hp2 : p < 2147483648) (ht : t < 2147483648) : zEv (d + 1) zmR_timesIn [.int (nI t), .int (nI p)] M = some (some (.int (nI (tm t p))), M) := e_R_timesIn (q_timesIn_4 hp hp2 17 0 t rfl ht)
theorem q_power_4 {M : ZM} {x e : Nat} (he : e < 2147483648) : ∀ j k a, k + j = e → h_R_power_4 d (nI x) (nI e) (nI a) (nI k) M = some (some (.int (nI (a * x ^ j))), M) := by
  intro j
  induction j with
  | zero =>
    intro k a h
    refine e_R_power_4 ?_
    rw [if_neg (by rw [n_lt (by omega) (by omega)]; omega), Nat.pow_zero, Nat.mul_one]
  | succ j ih =>
    intro k a h
    refine e_R_power_4 ?_
    rw [if_pos ((n_lt (by omega) (by omega)).mpr (by omega)), n_mul, n_add1, Nat.pow_succ, Nat.mul_comm (x ^ j) x, ← Nat.mul_assoc]
    exact ih (k + 1) (a * x) (by omega)
theorem q_power {M : ZM} {x e : Nat} (he : e < 2147483648) : zEv (d + 1) zmR_power [.int (nI x), .int (nI e)] M = some (some (.int (nI (x ^ e))), M) := by
  have := q_power_4 (d := d) (M := M) (x := x) he e 0 1 (by omega)
  rw [Nat.one_mul] at this
  exact e_R_power this
end QF3
