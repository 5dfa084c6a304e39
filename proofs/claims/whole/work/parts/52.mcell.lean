/-! THE MODEL, 41: numbers and cells read -/
/-- what came of it -/
def PE {α : Type} (P : α → Prop) (M' : ZM) : Except Nat α → Prop
  | .ok a => P a
  | .error e => M'.1 866 37 = nI e
def rdE (s lo hi : Nat) (q : Nat × Nat) : Except Nat (Nat × Nat) := if lo ≤ q.1 ∧ q.1 ≤ hi then .ok q else .error (8 * s + 2)
theorem rdD_E {tp : List Nat} {s lo hi : Nat} : rdD tp s lo hi = rdE s lo hi (dgl tp (tp.length - s) s 0) := rfl
/-- a number as it is counted: great ones are not told apart -/
def Cp (v v' : Nat) : Prop := (v < 10000000 ∧ v' = v) ∨ (10000000 ≤ v ∧ 10000000 ≤ v' ∧ v' < 100000000)
theorem dgl_le {tp : List Nat} : ∀ f k v, k + f ≤ tp.length → k ≤ (dgl tp f k v).2 ∧ (dgl tp f k v).2 ≤ tp.length
  | 0, k, v, h => ⟨Nat.le_refl k, by show k ≤ _; omega⟩
  | f + 1, k, v, h => by
    by_cases e : inB tp k 48 57 = true
    · have e2 : dgl tp (f + 1) k v = dgl tp f (k + 1) (10 * v + (tq tp k - 48)) := if_pos e
      rw [e2]
      have := dgl_le (tp := tp) f (k + 1) (10 * v + (tq tp k - 48)) (by omega)
      omega
    · have e2 : dgl tp (f + 1) k v = (v, k) := if_neg e
      rw [e2]
      exact ⟨Nat.le_refl k, by show k ≤ _; omega⟩
theorem isK_ok {α : Type} {a : α} : isK (.ok a : Except Nat α) = true := rfl
theorem isK_er {α : Type} {e : Nat} : isK (.error e : Except Nat α) = false := rfl
theorem rdD_ok {tp : List Nat} {s lo hi : Nat} (hs : s ≤ tp.length) {q : Nat × Nat} (h : rdD tp s lo hi = .ok q) : (lo ≤ q.1 ∧ q.1 ≤ hi) ∧ s ≤ q.2 ∧ q.2 ≤ tp.length := by
  unfold rdD at h
  by_cases e : lo ≤ (dgl tp (tp.length - s) s 0).1 ∧ (dgl tp (tp.length - s) s 0).1 ≤ hi
  · rw [if_pos e] at h
    cases h
    exact ⟨e, dgl_le _ _ _ (by omega)⟩
  · rw [if_neg e] at h
    cases h
theorem inB_lt {tp : List Nat} {k lo hi : Nat} (h : inB tp k lo hi = true) : k < tp.length ∧ lo ≤ tq tp k ∧ tq tp k ≤ hi := by
  unfold inB at h
  rw [Bool.and_eq_true, Bool.and_eq_true] at h
  exact ⟨of_decide_eq_true h.1.1, of_decide_eq_true h.1.2, of_decide_eq_true h.2⟩
theorem rdN_ok {tp : List Nat} {s lo hi : Nat} (hs : s ≤ tp.length) {q : Nat × Nat} (h : rdN tp s lo hi = .ok q) : (lo ≤ q.1 ∧ q.1 ≤ hi) ∧ s ≤ q.2 ∧ q.2 ≤ tp.length := by
  have hle := skp_le hs
  unfold rdN at h
  by_cases e : inB tp (skp tp s) 48 57 = true
  · rw [if_pos e] at h
    have := rdD_ok hle.2 h
    omega
  · rw [if_neg e] at h
    cases h
section MO
variable {d : Nat} {M : ZM} {tp : List Nat} {s : Nat} {r : Nat → Nat}
theorem s_mustWord (hP : Ps tp s r M) {j : Nat} (hj : j < 17) : ∃ M', zEv (d + 7) zmM_mustWord [.ref 866, .ref (j + 1)] M = some (some (.int (nB (isW tp s (wd j)))), M') ∧ frI pQ M M' ∧ PE (fun s' => Ps tp s' r M') M' (if isW tp s (wd j) = true then .ok (skp tp s + (wd j).length) else .error (8 * skp tp s + 1)) := by
  obtain ⟨M1, a1, a2, a3⟩ := s_takesWord (d := d) hP hj
  unfold tkW at a2
  cases e : isW tp s (wd j) with
  | true =>
    rw [e] at a1
    rw [e, if_pos rfl] at a2
    rw [if_pos rfl]
    refine ⟨M1, e_M_mustWord (zkS j hj).1 ?_, a3, a2⟩
    rw [a1, zC1_some, if_neg (by decide)]
    rfl
  | false =>
    rw [e] at a1
    rw [e, if_neg (by simp)] at a2
    rw [if_neg (by simp)]
    refine ⟨zpi M1 866 37 (nI (8 * skp tp s + 1)), e_M_mustWord (zkS j hj).1 ?_, a3.pi ⟨rfl, by omega, by omega⟩, by show _ = _; rw [m_pi, if_pos ⟨rfl, rfl⟩]⟩
    rw [a1, zC1_some, if_pos (show nB false = nI 0 from rfl), a2.1.2.2, s_fails (d := d + 5), zC1_some, if_pos rfl]
    rfl
theorem isK_E {s lo hi : Nat} {q : Nat × Nat} : isK (rdE s lo hi q) = (decide (lo ≤ q.1) && decide (q.1 ≤ hi)) := by
  unfold rdE
  by_cases h : lo ≤ q.1 ∧ q.1 ≤ hi
  · rw [if_pos h, decide_eq_true h.1, decide_eq_true h.2]; rfl
  · rw [if_neg h]
    show false = _
    symm
    rw [Bool.eq_false_iff]
    intro z
    rw [Bool.and_eq_true] at z
    exact h ⟨of_decide_eq_true z.1, of_decide_eq_true z.2⟩
theorem s_readsDigits_l {s0 lo hi : Nat} (hlo : lo < 10000000) (hhi : hi < 10000000) (hs0 : s0 ≤ 400) : ∀ f k v v' (M : ZM), k + f = tp.length → Ps tp k r M → Cp v v' → M.1 866 38 = nI v' → M.1 866 39 = nI s0 →
    ∃ M', h_M_readsDigits_13 (d + 1) (nI lo) (nI hi) M = some (some (.int (nB (isK (rdE s0 lo hi (dgl tp f k v))))), M') ∧ frI pQ M M' ∧ PE (fun q => Ps tp q.2 r M' ∧ M'.1 866 38 = nI q.1 ∧ M'.1 866 39 = nI s0) M' (rdE s0 lo hi (dgl tp f k v)) := by
  have fin : ∀ k v v' (M : ZM), Ps tp k r M → Cp v v' → M.1 866 38 = nI v' → M.1 866 39 = nI s0 → inB tp k 48 57 = false → ∃ M', h_M_readsDigits_13 (d + 1) (nI lo) (nI hi) M = some (some (.int (nB (isK (rdE s0 lo hi (v, k))))), M') ∧ frI pQ M M' ∧ PE (fun q => Ps tp q.2 r M' ∧ M'.1 866 38 = nI q.1 ∧ M'.1 866 39 = nI s0) M' (rdE s0 lo hi (v, k)) := by
    intro k v v' M hP hC h38 h39 hB
    have hk := hP.1.2.1
    have hl := hP.1.1.1.2
    have hv' : v' < 100000000 := by unfold Cp at hC; omega
    have hin : (decide ((Int32.toInt64 (nI lo)).toInt ≤ (Int32.toInt64 (nI v')).toInt) && decide ((Int32.toInt64 (nI v')).toInt ≤ (Int32.toInt64 (nI hi)).toInt)) = isK (rdE s0 lo hi (v, k)) := by
      rw [isK_E, Int32.toInt_toInt64, Int32.toInt_toInt64, Int32.toInt_toInt64, n_toInt (by omega), n_toInt (by omega), n_toInt (by omega), Bool.eq_iff_iff]
      simp only [Bool.and_eq_true, decide_eq_true_eq]
      unfold Cp at hC
      omega
    by_cases h : lo ≤ v ∧ v ≤ hi
    · have eE : rdE s0 lo hi (v, k) = .ok (v, k) := if_pos h
      rw [eE, isK_ok] at hin ⊢
      refine ⟨M, e_M_readsDigits_13 ?_, fr.refl, hP, ?_, h39⟩
      · rw [hP.1.2.2, s_byteAt (d := d) hP.1.1 (by omega), zC1_some, s_inB (d := d) hP.1.1 (by omega) (by omega), zC1_some, hB, if_pos (show nB false = nI 0 from rfl), h38, s_in, zC1_some, hin, if_neg (show ¬ nB true = nI 0 by decide)]
        rfl
      · rw [h38]
        unfold Cp at hC
        show nI v' = nI v
        rw [show v' = v by omega]
    · have eE : rdE s0 lo hi (v, k) = .error (8 * s0 + 2) := if_neg h
      rw [eE, isK_er] at hin ⊢
      refine ⟨zpi M 866 37 (nI (8 * s0 + 2)), e_M_readsDigits_13 ?_, fr.refl.pi ⟨rfl, by omega, by omega⟩, by show _ = _; rw [m_pi, if_pos ⟨rfl, rfl⟩]⟩
      rw [hP.1.2.2, s_byteAt (d := d) hP.1.1 (by omega), zC1_some, s_inB (d := d) hP.1.1 (by omega) (by omega), zC1_some, hB, if_pos (show nB false = nI 0 from rfl), h38, s_in, zC1_some, hin, if_pos (show nB false = nI 0 from rfl), h39, s_fails (d := d), zC1_some, if_pos rfl]
      rfl
  intro f
  induction f with
  | zero =>
    intro k v v' M h hP hC h38 h39
    refine fin k v v' M hP hC h38 h39 ?_
    unfold inB
    rw [decide_eq_false (by omega)]
    rfl
  | succ f ih =>
    intro k v v' M h hP hC h38 h39
    have hl := hP.1.1.1.2
    cases hB : inB tp k 48 57 with
    | false =>
      have e2 : dgl tp (f + 1) k v = (v, k) := if_neg (by rw [hB]; simp)
      rw [e2]
      exact fin k v v' M hP hC h38 h39 hB
    | true =>
      have hb := inB_lt hB
      have hv' : v' < 100000000 := by unfold Cp at hC; omega
      have eb : bI tp k = nI (tq tp k) := if_pos hb.1
      have e2 : dgl tp (f + 1) k v = dgl tp f (k + 1) (10 * v + (tq tp k - 48)) := if_pos hB
      rw [e2]
      by_cases h7 : v' < 10000000
      · obtain ⟨m1, m2⟩ := (hP.fr3 (M' := zpi M 866 38 (nI (10 * v' + (tq tp k - 48)))) (p := fun a k => a = 866 ∧ k = 38) (fr.refl.pi ⟨rfl, rfl⟩) (fun a k z => by omega)).mv (s' := k + 1) (by omega)
        obtain ⟨M', a1, a2, a3⟩ := ih (k + 1) (10 * v + (tq tp k - 48)) (10 * v' + (tq tp k - 48)) _ (by omega) m1 (by unfold Cp at hC ⊢; omega) (by rw [m_pi, if_neg (by omega), m_pi, if_pos ⟨rfl, rfl⟩]) (by rw [m_pi, if_neg (by omega), m_pi, if_neg (by omega)]; exact h39)
        refine ⟨M', e_M_readsDigits_13 ?_, ((fr.refl.pi ⟨rfl, by omega, by omega⟩).trans m2).trans a2, a3⟩
        have em : nI 10 * nI v' + nI (tq tp k) - nI 48 = nI (10 * v' + (tq tp k - 48)) := by
          rw [n_mul, n_add, n_sub (by omega), show 10 * v' + tq tp k - 48 = 10 * v' + (tq tp k - 48) by omega]
        rw [hP.1.2.2, s_byteAt (d := d) hP.1.1 (by omega), zC1_some, s_inB (d := d) hP.1.1 (by omega) (by omega), zC1_some, hB, if_neg (by decide), h38, if_pos ((n_lt (by omega) (by omega)).mpr h7), hP.1.2.2, s_byteAt (d := d) hP.1.1 (by omega), zC1_some, zLr, eb, em, m_pi, if_neg (by omega), hP.1.2.2, n_add1]
        exact a1
      · obtain ⟨m1, m2⟩ := hP.mv (s' := k + 1) (by omega)
        obtain ⟨M', a1, a2, a3⟩ := ih (k + 1) (10 * v + (tq tp k - 48)) v' _ (by omega) m1 (by unfold Cp at hC ⊢; omega) (by rw [m_pi, if_neg (by omega)]; exact h38) (by rw [m_pi, if_neg (by omega)]; exact h39)
        refine ⟨M', e_M_readsDigits_13 ?_, m2.trans a2, a3⟩
        rw [hP.1.2.2, s_byteAt (d := d) hP.1.1 (by omega), zC1_some, s_inB (d := d) hP.1.1 (by omega) (by omega), zC1_some, hB, if_neg (by decide), h38, if_neg (by rw [n_lt (by omega) (by omega)]; exact h7), hP.1.2.2, n_add1]
        exact a1
theorem s_readsDigits (hP : Ps tp s r M) {lo hi : Nat} (hlo : lo < 10000000) (hhi : hi < 10000000) : ∃ M', zEv (d + 2) zmM_readsDigits [.ref 866, .int (nI lo), .int (nI hi)] M = some (some (.int (nB (isK (rdD tp s lo hi)))), M') ∧ frI pQ M M' ∧ PE (fun q => Ps tp q.2 r M' ∧ M'.1 866 38 = nI q.1 ∧ M'.1 866 39 = nI s) M' (rdD tp s lo hi) := by
  have hs := hP.1.2.1
  have hl := hP.1.1.1.2
  have f0 : frI pQ M (zpi (zpi M 866 39 (nI s)) 866 38 (nI 0)) := (fr.refl.pi ⟨rfl, by omega, by omega⟩).pi ⟨rfl, by omega, by omega⟩
  have P0 : Ps tp s r (zpi (zpi M 866 39 (nI s)) 866 38 (nI 0)) := hP.fr3 (p := fun a k => a = 866 ∧ (k = 38 ∨ k = 39)) ((fr.refl.pi ⟨rfl, by omega⟩).pi ⟨rfl, by omega⟩) (fun a k z => by omega)
  obtain ⟨M', a1, a2, a3⟩ := s_readsDigits_l (d := d) (r := r) hlo hhi (s0 := s) (by omega) (tp.length - s) s 0 0 _ (by omega) P0 (Or.inl ⟨by omega, rfl⟩) (by rw [m_pi, if_pos ⟨rfl, rfl⟩]) (by rw [m_pi, if_neg (by omega), m_pi, if_pos ⟨rfl, rfl⟩])
  refine ⟨M', e_M_readsDigits ?_, f0.trans a2, a3⟩
  rw [hP.1.2.2]
  exact a1
theorem s_readsNumber (hP : Ps tp s r M) {lo hi : Nat} (hlo : lo < 10000000) (hhi : hi < 10000000) : ∃ M', zEv (d + 3) zmM_readsNumber [.ref 866, .int (nI lo), .int (nI hi)] M = some (some (.int (nB (isK (rdN tp s lo hi)))), M') ∧ frI pQ M M' ∧ PE (fun q => Ps tp q.2 r M' ∧ M'.1 866 38 = nI q.1) M' (rdN tp s lo hi) := by
  obtain ⟨M1, a1, a2, a3⟩ := s_nextByte (d := d) hP
  unfold rdN
  cases hB : inB tp (skp tp s) 48 57 with
  | true =>
    obtain ⟨M', b1, b2, b3⟩ := s_readsDigits (d := d) a2 hlo hhi
    rw [if_pos rfl]
    refine ⟨M', e_M_readsNumber ?_, a3.trans b2, ?_⟩
    · rw [a1, zC1_some, s_inB (d := d + 1) a2.1.1 (by omega) (by omega), zC1_some, hB, if_neg (by decide), b1, zC1_some, if_pos ((nB01 _).mpr trivial)]
    · cases hE : rdD tp (skp tp s) lo hi with
      | ok q => rw [hE] at b3; exact ⟨b3.1, b3.2.1⟩
      | error e => rw [hE] at b3; exact b3
  | false =>
    rw [if_neg (by simp)]
    refine ⟨zpi M1 866 37 (nI (8 * skp tp s + 1)), e_M_readsNumber ?_, a3.pi ⟨rfl, by omega, by omega⟩, by show _ = _; rw [m_pi, if_pos ⟨rfl, rfl⟩]⟩
    rw [a1, zC1_some, s_inB (d := d + 1) a2.1.1 (by omega) (by omega), zC1_some, hB, if_pos (show nB false = nI 0 from rfl), a2.1.2.2, s_fails (d := d + 1), zC1_some, if_pos (Or.inl rfl)]
    rfl
theorem s_readsTo (hP : Ps tp s r M) {i lo hi : Nat} (hi2 : i < 268) (hlo : lo < 10000000) (hhi : hi < 10000000) : ∃ M', zEv (d + 4) zmM_readsTo [.ref 866, .int (nI i), .int (nI lo), .int (nI hi)] M = some (some (.int (nB (isK (rdN tp s lo hi)))), M') ∧ frI pRd M M' ∧ PE (fun q => Ps tp q.2 (upN r i q.1) M') M' (rdN tp s lo hi) := by
  obtain ⟨M1, a1, a2, a3⟩ := s_readsNumber (d := d) hP hlo hhi
  cases hE : rdN tp s lo hi with
  | error e =>
    rw [hE] at a1 a3
    refine ⟨M1, e_M_readsTo ?_, frQ_Rd a2, a3⟩
    rw [a1, zC1_some, if_pos (by rfl)]
    rfl
  | ok q =>
    rw [hE] at a1 a3
    rw [isK_ok] at a1
    refine ⟨zpi M1 883 i (nI q.1), e_M_readsTo ?_, (frQ_Rd a2).pi (Or.inr rfl), ?_⟩
    · rw [a1, zC1_some, if_neg (show ¬ nB true = nI 0 by decide), if_pos ((n_zin (by omega)).mpr hi2), n_clamp (by omega), a3.2, isK_ok]
      rfl
    · have f1 : frI (fun a _ => a = 883) M1 (zpi M1 883 i (nI q.1)) := fr.refl.pi rfl
      refine ⟨⟨a3.1.1.1.fr f1 (fun a k z => by omega), a3.1.1.2.1, (f1.1 866 36 (by omega)).trans a3.1.1.2.2⟩, fun k hk => ?_⟩
      rw [m_pi]
      unfold upN
      by_cases e : k = i
      · rw [if_pos ⟨rfl, e⟩, if_pos e]
      · rw [if_neg (fun z => e z.2), if_neg e]
        exact a3.1.2 k hk
end MO
