/-! THE MODEL, 40: bytes, words, numbers read -/
def tq (tp : List Nat) (k : Nat) : Nat := tp.getD k 0
/-- behind the blanks -/
def skp (tp : List Nat) (s : Nat) : Nat := ((List.range' s (tp.length - s)).find? fun k => decide (tq tp k ≠ 32)).getD tp.length
def bI (tp : List Nat) (k : Nat) : Int32 := if k < tp.length then nI (tq tp k) else -1
def inB (tp : List Nat) (k lo hi : Nat) : Bool := decide (k < tp.length) && decide (lo ≤ tq tp k) && decide (tq tp k ≤ hi)
def isW (tp : List Nat) (s : Nat) (w : List Nat) : Bool := ((List.range w.length).all fun i => decide (skp tp s + i < tp.length) && decide (tq tp (skp tp s + i) = w.getD i 0)) && !inB tp (skp tp s + w.length) 97 122
def tkW (tp : List Nat) (s : Nat) (w : List Nat) : Nat := if isW tp s w = true then skp tp s + w.length else skp tp s
/-- digits, one by one -/
def dgl (tp : List Nat) : Nat → Nat → Nat → Nat × Nat
  | 0, k, v => (v, k)
  | f + 1, k, v => if inB tp k 48 57 = true then dgl tp f (k + 1) (10 * v + (tq tp k - 48)) else (v, k)
def rdD (tp : List Nat) (s lo hi : Nat) : Except Nat (Nat × Nat) := if lo ≤ (dgl tp (tp.length - s) s 0).1 ∧ (dgl tp (tp.length - s) s 0).1 ≤ hi then .ok (dgl tp (tp.length - s) s 0) else .error (8 * s + 2)
def rdN (tp : List Nat) (s lo hi : Nat) : Except Nat (Nat × Nat) := if inB tp (skp tp s) 48 57 = true then rdD tp (skp tp s) lo hi else .error (8 * skp tp s + 1)
def isK {α : Type} : Except Nat α → Bool
  | .ok _ => true
  | .error _ => false
theorem skp_n {tp : List Nat} {s : Nat} (h : tp.length ≤ s) : skp tp s = tp.length := by
  unfold skp
  rw [show tp.length - s = 0 by omega]
  rfl
theorem skp_b {tp : List Nat} {s : Nat} (h : s < tp.length) (h2 : tq tp s = 32) : skp tp s = skp tp (s + 1) := by
  unfold skp
  rw [show tp.length - s = (tp.length - (s + 1)) + 1 by omega, List.range'_succ, List.find?_cons, decide_eq_false (by rw [h2]; simp)]
theorem skp_s {tp : List Nat} {s : Nat} (h : s < tp.length) (h2 : tq tp s ≠ 32) : skp tp s = s := by
  unfold skp
  rw [show tp.length - s = (tp.length - (s + 1)) + 1 by omega, List.range'_succ, List.find?_cons, decide_eq_true h2]
  rfl
theorem skp_le {tp : List Nat} {s : Nat} (h : s ≤ tp.length) : s ≤ skp tp s ∧ skp tp s ≤ tp.length := by
  unfold skp
  cases hf : (List.range' s (tp.length - s)).find? fun k => decide (tq tp k ≠ 32) with
  | none => exact ⟨h, Nat.le_refl _⟩
  | some k =>
    have := List.mem_range'_1.mp (List.mem_of_find?_eq_some hf)
    show s ≤ k ∧ k ≤ _
    omega
theorem skp_at {tp : List Nat} {s : Nat} (h : skp tp s < tp.length) : tq tp (skp tp s) ≠ 32 := by
  unfold skp at h ⊢
  cases hf : (List.range' s (tp.length - s)).find? fun k => decide (tq tp k ≠ 32) with
  | none => rw [hf] at h; exact absurd h (Nat.lt_irrefl _)
  | some k =>
    have h9 := List.find?_some hf
    exact of_decide_eq_true h9
theorem skp_skp {tp : List Nat} {s : Nat} (h : s ≤ tp.length) : skp tp (skp tp s) = skp tp s := by
  rcases Nat.lt_or_ge (skp tp s) tp.length with g | g
  · exact skp_s g (skp_at g)
  · rw [skp_n g]
    have := (skp_le h).2
    omega
theorem toI64_n {a : Nat} (ha : a < 2147483648) : Int32.toInt64 (nI a) = nJ a := by
  rw [← Int64.toInt_inj, Int32.toInt_toInt64, n_toInt ha, j_toInt (by omega)]
/-- where the reader stands -/
def Ps (tp : List Nat) (s : Nat) (r : Nat → Nat) (M : ZM) : Prop := (TpR tp M ∧ s ≤ tp.length ∧ M.1 866 36 = nI s) ∧ ∀ k, k < 268 → M.1 883 k = nI (r k)
def pRd : Nat → Nat → Prop := fun a k => (a = 866 ∧ 36 ≤ k ∧ k ≤ 41) ∨ a = 883
def pQ : Nat → Nat → Prop := fun a k => a = 866 ∧ 36 ≤ k ∧ k ≤ 41
theorem frQ_Rd {M M' : ZM} (h : frI pQ M M') : frI pRd M M' := h.mono (fun _ _ z => Or.inl z) (fun _ _ z => z)
theorem TpR.frRd {tp : List Nat} {M M' : ZM} (h : TpR tp M) (hf : frI pRd M M') : TpR tp M' := h.fr hf fun a k z => by unfold pRd at z; omega
/-- after something that moves the place alone -/
theorem Ps.mv {tp : List Nat} {s s' : Nat} {r : Nat → Nat} {M : ZM} (h : Ps tp s r M) (hs : s' ≤ tp.length) : Ps tp s' r (zpi M 866 36 (nI s')) ∧ frI pQ M (zpi M 866 36 (nI s')) := by
  have f0 : frI pQ M (zpi M 866 36 (nI s')) := fr.refl.pi ⟨rfl, by omega, by omega⟩
  exact ⟨⟨⟨h.1.1.frRd (frQ_Rd f0), hs, by rw [m_pi, if_pos ⟨rfl, rfl⟩]⟩, fun k hk => by rw [m_pi, if_neg (by omega)]; exact h.2 k hk⟩, f0⟩
theorem Ps.fr3 {tp : List Nat} {s : Nat} {r : Nat → Nat} {M M' : ZM} (h : Ps tp s r M) {p : Nat → Nat → Prop} (hf : frI p M M') (hp : ∀ a k, p a k → a = 866 ∧ 37 ≤ k) : Ps tp s r M' :=
  ⟨⟨h.1.1.fr hf fun a k z => by
    have := hp a k z
    refine ⟨by omega, fun e => ?_⟩
    omega, h.1.2.1, (hf.1 866 36 (fun z => by have := hp _ _ z; omega)).trans h.1.2.2⟩, fun k hk => (hf.1 883 k (fun z => by have := hp _ _ z; omega)).trans (h.2 k hk)⟩
section MN
variable {d : Nat} {M : ZM} {tp : List Nat} {s : Nat} {r : Nat → Nat}
theorem tq_lt (h : TpR tp M) (k : Nat) : tq tp k < 256 := by
  rcases Nat.lt_or_ge k tp.length with g | g
  · exact (h.2 k g).2
  · unfold tq
    rw [List.getD_eq_getElem?_getD, List.getElem?_eq_none g]
    show 0 < 256
    omega
theorem s_byteAt (h : TpR tp M) {k : Nat} (hk : k < 2147483648) : zEv (d + 1) zmM_byteAt [.ref 866, .int (nI k)] M = some (some (.int (bI tp k)), M) := by
  have h400 := h.1.2
  refine e_M_byteAt ?_
  unfold bI
  by_cases e : k < tp.length
  · rw [h.1.1, if_pos ((n_lt (by omega) (by omega)).mpr e), if_pos e, if_pos ((n_zin (by omega)).mpr (by omega)), n_clamp (by omega), (h.2 k e).1]
    rfl
  · rw [h.1.1, if_neg (by rw [n_lt (by omega) (by omega)]; exact e), if_neg e]
theorem s_inB (h : TpR tp M) {k lo hi : Nat} (hl : lo < 2147483648) (hh : hi < 2147483648) {M1 : ZM} : zEv (d + 1) zmM_in [.long (Int32.toInt64 (bI tp k)), .long (nJ lo), .long (nJ hi)] M1 = some (some (.int (nB (inB tp k lo hi))), M1) := by
  have h256 := tq_lt h k
  rw [s_in, Int32.toInt_toInt64, j_toInt (by omega), j_toInt (by omega)]
  unfold bI inB
  by_cases e : k < tp.length
  · rw [if_pos e, n_toInt (by omega), decide_eq_true e, Bool.true_and]
    congr 5
    rw [Bool.eq_iff_iff]
    simp only [Bool.and_eq_true, decide_eq_true_eq]
    omega
  · rw [if_neg e, decide_eq_false e, Bool.false_and, Bool.false_and]
    congr 5
    rw [show (-1 : Int32).toInt = -1 from rfl, decide_eq_false (show ¬ (lo : Int) ≤ -1 by omega), Bool.false_and]
theorem s_nextByte_l (hr : ∀ k, k < 268 → True) : ∀ j s (M : ZM), s + j = tp.length → Ps tp s r M → ∃ M', h_M_nextByte_0 (d + 1) M = some (some (.int (bI tp (skp tp s))), M') ∧ Ps tp (skp tp s) r M' ∧ frI pQ M M' := by
  intro j
  induction j with
  | zero =>
    intro s M h hP
    have hl := hP.1.1.1.2
    have e : bI tp s = -1 := if_neg (by omega)
    refine ⟨M, e_M_nextByte_0 ?_, ?_, fr.refl⟩
    · rw [hP.1.2.2, s_byteAt (d := d) hP.1.1 (by omega), zC1_some, e, if_neg (by decide), hP.1.2.2, s_byteAt (d := d) hP.1.1 (by omega), zC1_some, skp_n (by omega), show tp.length = s by omega]
    · rw [skp_n (by omega), show tp.length = s by omega]; exact hP
  | succ j ih =>
    intro s M h hP
    have hl := hP.1.1.1.2
    have hs : s < tp.length := by omega
    have h256 := tq_lt hP.1.1 s
    have e : bI tp s = nI (tq tp s) := if_pos hs
    by_cases h32 : tq tp s = 32
    · obtain ⟨m1, m2⟩ := hP.mv (s' := s + 1) (by omega)
      obtain ⟨M', a1, a2, a3⟩ := ih (s + 1) _ (by omega) m1
      rw [skp_b hs h32]
      refine ⟨M', e_M_nextByte_0 ?_, a2, m2.trans a3⟩
      rw [hP.1.2.2, s_byteAt (d := d) hP.1.1 (by omega), zC1_some, e, h32, if_pos rfl, hP.1.2.2, n_add1]
      exact a1
    · rw [skp_s hs h32]
      refine ⟨M, e_M_nextByte_0 ?_, hP, fr.refl⟩
      rw [hP.1.2.2, s_byteAt (d := d) hP.1.1 (by omega), zC1_some, e, if_neg (by rw [n_eq (by omega) (by omega)]; exact h32), hP.1.2.2, s_byteAt (d := d) hP.1.1 (by omega), zC1_some, e]
theorem s_nextByte (hP : Ps tp s r M) : ∃ M', zEv (d + 2) zmM_nextByte [.ref 866] M = some (some (.int (bI tp (skp tp s))), M') ∧ Ps tp (skp tp s) r M' ∧ frI pQ M M' := by
  have := hP.1.2.1
  obtain ⟨M', a1, a2⟩ := s_nextByte_l (d := d) (tp := tp) (r := r) (fun _ _ => trivial) (tp.length - s) s M (by omega) hP
  exact ⟨M', e_M_nextByte a1, a2⟩
theorem s_fails {a b : Nat} : zEv (d + 1) zmM_fails [.ref 866, .int (nI a), .int (nI b)] M = some (some (.int (nI 0)), zpi M 866 37 (nI (8 * b + a))) := by
  refine e_M_fails ?_
  rw [n_mul, n_add]
theorem wd_c {j i : Nat} (hj : j < 17) (hi : i < (wd j).length) : (wd j).getD i 0 < 128 := by
  have hl := ztx_le j hj
  rw [wd_len] at hi
  exact (ztx_c j hj i (by omega) hi).2.2
theorem bI_eq (h : TpR tp M) {k c : Nat} (hc : c < 128) : (bI tp k = nI c) ↔ (k < tp.length ∧ tq tp k = c) := by
  have h256 := tq_lt h k
  unfold bI
  by_cases e : k < tp.length
  · rw [if_pos e, n_eq (by omega) (by omega)]
    exact ⟨fun z => ⟨e, z⟩, fun z => z.2⟩
  · rw [if_neg e]
    exact ⟨fun z => absurd z.symm (n_nem1 (by omega)), fun z => absurd z.1 e⟩
theorem bI_m1 (h : TpR tp M) {k : Nat} : (bI tp k = -1) ↔ ¬ k < tp.length := by
  have h256 := tq_lt h k
  unfold bI
  by_cases e : k < tp.length
  · rw [if_pos e]
    exact ⟨fun z => absurd z (n_nem1 (by omega)), fun z => absurd e z⟩
  · rw [if_neg e]
    exact ⟨fun _ => e, fun _ => rfl⟩
theorem s_isWord_51 (h : TpR tp M) {j f k : Nat} (hj : j < 17) (hf : f ≤ 400) (hk : k ≤ (wd j).length) : h_M_isWord_51 (d + 2) (j + 1) (nI f) (nI k) M = some (some (.int (nB (decide (k = (wd j).length) && !inB tp (f + (wd j).length) 97 122))), M) := by
  have h7 := ztx_le j hj
  rw [← wd_len] at h7
  refine e_M_isWord_51 (zkS j hj).1 ?_
  rw [s_length (d := d) hj, zC1_some]
  by_cases e : k = (wd j).length
  · rw [if_pos (by rw [e]), n_add, s_byteAt (d := d + 1) h (by omega), zC1_some, s_inB (d := d + 1) h (by omega) (by omega), zC1_some, e, decide_eq_true rfl, Bool.true_and]
    cases hb : inB tp (f + (wd j).length) 97 122 with
    | false => rw [if_pos (show nB false = nI 0 from rfl)]; rfl
    | true => rw [if_neg (by decide)]; rfl
  · rw [if_neg (by rw [n_eq (by omega) (by omega)]; exact e), decide_eq_false e]
    rfl
theorem s_isWord_22 (h : TpR tp M) {j f : Nat} (hj : j < 17) (hf : f ≤ 400) : ∀ t k, k + t = (wd j).length → h_M_isWord_22 (d + 4) (j + 1) (nI f) (nI k) M = some (some (.int (nB (((List.range' k t).all fun i => decide (f + i < tp.length) && decide (tq tp (f + i) = (wd j).getD i 0)) && !inB tp (f + (wd j).length) 97 122))), M) := by
  have h7 := ztx_le j hj
  rw [← wd_len] at h7
  intro t
  induction t with
  | zero =>
    intro k hk
    refine e_M_isWord_22 (zkS j hj).1 ?_
    rw [s_length (d := d + 2) hj, zC1_some, if_neg (by rw [n_lt (by omega) (by omega)]; omega), s_isWord_51 (d := d + 2) h hj hf (by omega), decide_eq_true (show k = (wd j).length by omega)]
    rfl
  | succ t ih =>
    intro k hk
    have hc := wd_c hj (show k < (wd j).length by omega)
    refine e_M_isWord_22 (zkS j hj).1 ?_
    rw [s_length (d := d + 2) hj, zC1_some, if_pos ((n_lt (by omega) (by omega)).mpr (by omega)), n_add, s_byteAt (d := d + 3) h (by omega), zC1_some, s_charAt (d := d) hj (show k < (wd j).length by omega), zC1_some, List.range'_succ, List.all_cons]
    by_cases e : f + k < tp.length ∧ tq tp (f + k) = (wd j).getD k 0
    · rw [if_pos ((bI_eq h hc).mpr e), decide_eq_true e.1, decide_eq_true e.2, n_add1]
      exact ih (k + 1) (by omega)
    · rw [if_neg (fun z => e ((bI_eq h hc).mp z)), s_isWord_51 (d := d + 2) h hj hf (by omega), decide_eq_false (show ¬ k = (wd j).length by omega)]
      have e2 : (decide (f + k < tp.length) && decide (tq tp (f + k) = (wd j).getD k 0)) = false := by
        rw [Bool.eq_false_iff]
        intro z
        rw [Bool.and_eq_true] at z
        exact e ⟨of_decide_eq_true z.1, of_decide_eq_true z.2⟩
      rw [e2]
      rfl
theorem s_isWord (hP : Ps tp s r M) {j : Nat} (hj : j < 17) : ∃ M', zEv (d + 5) zmM_isWord [.ref 866, .ref (j + 1)] M = some (some (.int (nB (isW tp s (wd j)))), M') ∧ Ps tp (skp tp s) r M' ∧ frI pQ M M' := by
  obtain ⟨M1, a1, a2, a3⟩ := s_nextByte (d := d + 2) hP
  have hl := a2.1.1.1.2
  have hle := skp_le hP.1.2.1
  have h22 := s_isWord_22 (d := d) a2.1.1 hj (f := skp tp s) (by omega) (wd j).length 0 (by omega)
  refine ⟨M1, e_M_isWord (zkS j hj).1 ?_, a2, a3⟩
  unfold isW
  rw [List.range_eq_range', a1, zC1_some]
  by_cases e : skp tp s < tp.length
  · rw [if_neg (fun z => (bI_m1 a2.1.1).mp z e), a2.1.2.2]
    exact h22
  · rw [if_pos ((bI_m1 a2.1.1).mpr e), a2.1.1.1.1, show nI tp.length = nI (skp tp s) from congrArg nI (by omega)]
    exact h22
theorem isW_le (hj : s ≤ tp.length) {w : List Nat} (hw : 0 < w.length) (h : isW tp s w = true) : skp tp s + w.length ≤ tp.length := by
  unfold isW at h
  rw [Bool.and_eq_true, List.all_eq_true] at h
  have := h.1 (w.length - 1) (List.mem_range.mpr (by omega))
  rw [Bool.and_eq_true] at this
  have := of_decide_eq_true this.1
  omega
theorem ztx_0 : ∀ j, j < 17 → 0 < (ztx j).length := by decide +kernel
theorem tkW_le (hs : s ≤ tp.length) {j : Nat} (hj : j < 17) : skp tp s ≤ tkW tp s (wd j) ∧ tkW tp s (wd j) ≤ tp.length := by
  have hle := skp_le hs
  unfold tkW
  by_cases e : isW tp s (wd j) = true
  · rw [if_pos e]
    exact ⟨by omega, isW_le hs (by rw [wd_len]; exact ztx_0 j hj) e⟩
  · rw [if_neg e]
    exact ⟨Nat.le_refl _, hle.2⟩
theorem s_takesWord (hP : Ps tp s r M) {j : Nat} (hj : j < 17) : ∃ M', zEv (d + 6) zmM_takesWord [.ref 866, .ref (j + 1)] M = some (some (.int (nB (isW tp s (wd j)))), M') ∧ Ps tp (tkW tp s (wd j)) r M' ∧ frI pQ M M' := by
  obtain ⟨M1, a1, a2, a3⟩ := s_isWord (d := d) hP hj
  have hk := tkW_le hP.1.2.1 hj
  have hl := a2.1.1.1.2
  cases e : isW tp s (wd j) with
  | false =>
    have eT : tkW tp s (wd j) = skp tp s := by unfold tkW; rw [e, if_neg (by simp)]
    rw [eT]
    refine ⟨M1, e_M_takesWord (zkS j hj).1 ?_, a2, a3⟩
    rw [a1, zC1_some, e, if_pos (show nB false = nI 0 from rfl), if_pos ((nB01 _).mpr trivial)]
  | true =>
    have eT : tkW tp s (wd j) = skp tp s + (wd j).length := by unfold tkW; rw [e, if_pos rfl]
    rw [eT] at hk ⊢
    obtain ⟨m1, m2⟩ := a2.mv hk.2
    refine ⟨_, e_M_takesWord (zkS j hj).1 ?_, m1, a3.trans m2⟩
    rw [a1, zC1_some, e, if_neg (by decide), s_length (d := d + 3) hj, zC1_some, if_pos ((nB01 _).mpr trivial), a2.1.2.2, n_add]
end MN
