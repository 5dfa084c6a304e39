/-! THE MODEL, 31: digits drawn -/
theorem n_ush16 (y : Int32) : (Int32.toUInt32 y >>> (Int32.toUInt32 (nI 16) &&& Int32.toUInt32 31)).toInt32 = nI (y.toUInt32.toNat / 65536) := by
  have h : (Int32.toUInt32 (nI 16) &&& Int32.toUInt32 31) = 16 := by decide
  rw [h]
  apply Int32.toBitVec_inj.mp
  show (Int32.toUInt32 y >>> 16).toBitVec = BitVec.ofNat 32 _
  apply BitVec.eq_of_toNat_eq
  have h2 : y.toUInt32.toNat < 4294967296 := y.toUInt32.toNat_lt
  rw [BitVec.toNat_ofNat, Nat.mod_eq_of_lt (by omega)]
  show (Int32.toUInt32 y >>> 16).toNat = _
  rw [UInt32.toNat_shiftRight, show (16 : UInt32).toNat % 32 = 16 from rfl, Nat.shiftRight_eq_div_pow]
theorem n_div {a t : Nat} (ha : a < 2147483648) (ht : t < 2147483648) : nI a / nI t = nI (a / t) := by
  have h1 : a / t ≤ a := Nat.div_le_self a t
  rw [← Int32.toInt_inj, Int32.toInt_div, n_toInt ha, n_toInt ht, ← Int.ofNat_tdiv]
  generalize a / t = q at h1
  rw [n_toInt (by omega)]
  exact Int.bmod_eq_of_le (by omega) (by omega)
theorem n_rem {a t : Nat} (ha : a < 2147483648) (ht : t < 2147483648) : nI a - nI a / nI t * nI t = nI (a % t) := by
  rw [n_div ha ht, n_mul, n_sub (Nat.div_mul_le_self a t), Nat.mod_eq_sub_mul_div, Nat.mul_comm t]
def upN (f : Nat → Nat) (i v : Nat) : Nat → Nat := fun j => if j = i then v else f j
theorem upN_at {f : Nat → Nat} {i v : Nat} : upN f i v i = v := if_pos rfl
theorem upN_ne {f : Nat → Nat} {i v j : Nat} (h : j ≠ i) : upN f i v j = f j := if_neg h
theorem getD_el {α : Type} {l : List α} {i : Nat} {z : α} (h : i < l.length) : l.getD i z = l[i] := by
  rw [List.getD_eq_getElem?_getD, List.getElem?_eq_getElem h]
  rfl
/-- the open cells in order -/
def opL (b : Nat → Nat) : List Nat := (List.range 36).filter (isO b)
def opA (b : Nat → Nat) (p : Nat) : Nat := (opL b).getD p 0
theorem opL_len (b : Nat → Nat) : (opL b).length = openN b := rfl
theorem opA_mem {b : Nat → Nat} {p : Nat} (h : p < openN b) : opA b p < 36 ∧ isO b (opA b p) = true := by
  have h1 : p < (opL b).length := h
  have h2 : opA b p ∈ opL b := by
    unfold opA
    rw [getD_el h1]
    exact List.getElem_mem h1
  have h3 := List.mem_filter.mp h2
  exact ⟨List.mem_range.mp h3.1, h3.2⟩
/-- the numbers drawn -/
def drw (x : Int32) : Int32 := x * nI 1103515245 + nI 12345
def drD (x : Int32) (t : Nat) : Nat := x.toUInt32.toNat / 65536 % t
/-- whether a digit stands already where it may not -/
def tw (b mk : Nat → Nat) (c x : Nat) : Bool := (List.range (b 3)).any fun k => (cgU b k && inC b k c) && (List.range (cgN b k)).any fun i => decide (cgC b k i ≠ c) && decide (mk (cgC b k i) = x)
/-- the next try -/
def nxt (b mk : Nat → Nat) (c be t : Nat) : Option Nat := (List.range' t (b 2 - t)).find? fun y => !tw b mk c (1 + (be + y) % b 2)
def fdH (b : Nat → Nat) (g : Int32 → Nat → Nat → Bool → (Nat → Nat) → (Nat → Nat) → (Nat → Nat) → Option (Nat → Nat)) (x : Int32) (dr p : Nat) (be tr mk : Nat → Nat) : Option (Nat → Nat) :=
  match nxt b (upN mk (opA b p) 0) (opA b p) (be p) (tr p) with
  | some t => g x dr (p + 1) true be (upN tr p (t + 1)) (upN (upN mk (opA b p) 0) (opA b p) (1 + (be p + t) % b 2))
  | none => if p = 0 then none else g x dr (p - 1) false be (upN tr p (b 2)) (upN mk (opA b p) 0)
def fdG (b : Nat → Nat) : Nat → Int32 → Nat → Nat → Bool → (Nat → Nat) → (Nat → Nat) → (Nat → Nat) → Option (Nat → Nat)
  | 0, _, _, p, _, _, _, g => if openN b ≤ p then some g else none
  | f + 1, x, dr, p, co, be, tr, g =>
    if openN b ≤ p then some g else
    if co = false then fdH b (fdG b f) x dr p be tr g else
    if dr = 2000 then none else fdH b (fdG b f) (drw x) (dr + 1) p (upN be p (drD (drw x) (b 2))) (upN tr p 0) g
def fdD (b : Nat → Nat) (x : Int32) : Option (Nat → Nat) := fdG b 18000 x 0 0 true (fun _ => 0) (fun _ => 0) (fun _ => 0)
def pMk : Nat → Nat → Prop := fun a k => (a = 866 ∧ (k = 24 ∨ k = 25 ∨ k = 27)) ∨ (878 ≤ a ∧ a ≤ 881)
theorem frMk_S {M M' : ZM} (h : frI pMk M M') : frI pS M M' := h.mono (fun a k z => by unfold pMk at z; unfold pS; omega) (fun _ _ z => z)
theorem MR.frMk {b : Nat → Nat} {M M' : ZM} (h : MR b M) (hf : frI pMk M M') : MR b M' := h.fr hf fun k _ z => by unfold pMk at z; omega
section MD
variable {d : Nat} {M : ZM} {b : Nat → Nat}
theorem s_draw {t : Nat} (h0 : 0 < t) (ht : t < 2147483648) : zEv (d + 1) zmM_draw [.ref 866, .int (nI t)] M = some (some (.int (nI (drD (drw (M.1 866 24)) t))), zpi M 866 24 (drw (M.1 866 24))) := by
  refine e_M_draw ?_
  have e1 : (zpi M 866 24 (M.1 866 24 * nI 1103515245 + nI 12345)).1 866 24 = drw (M.1 866 24) := by
    rw [m_pi, if_pos ⟨rfl, rfl⟩]; rfl
  have h2 : (drw (M.1 866 24)).toUInt32.toNat < 4294967296 := (drw (M.1 866 24)).toUInt32.toNat_lt
  rw [if_neg (by rw [n_eq ht (by omega)]; omega), e1, n_ush16, n_rem (by omega) ht]
  rfl
theorem s_laysOpen_l (hW : Wf b) : ∀ j i (M : ZM), i + j = 36 → MR b M → M.1 866 27 = nI ((List.range i).filter (isO b)).length → (∀ p, p < ((List.range i).filter (isO b)).length → M.1 878 p = nI (((List.range i).filter (isO b)).getD p 0)) → (∀ c, c < i → M.1 881 c = nI 0) →
    ∃ M', h_M_laysOpen_7 (d + 3) (nI i) M = some (none, M') ∧ frI pMk M M' ∧ M'.1 866 27 = nI (openN b) ∧ (∀ p, p < openN b → M'.1 878 p = nI (opA b p)) ∧ ∀ c, c < 36 → M'.1 881 c = nI 0 := by
  intro j
  induction j with
  | zero =>
    intro i M h hR h27 h878 h881
    obtain rfl : i = 36 := by omega
    refine ⟨M, e_M_laysOpen_7 ?_, fr.refl, h27, h878, h881⟩
    rw [if_neg (by decide)]
  | succ j ih =>
    intro i M h hR h27 h878 h881
    have hle : ((List.range i).filter (isO b)).length ≤ i := by
      have := List.length_filter_le (isO b) (List.range i)
      rwa [List.length_range] at this
    have r1 : MR b (zpi M 881 i (nI 0)) := fun k hk => by rw [m_pi, if_neg (by omega)]; exact hR k hk
    have g881 : ∀ c, c < i + 1 → (zpi M 881 i (nI 0)).1 881 c = nI 0 := fun c hc => by
      rw [m_pi]
      by_cases e : c = i
      · rw [if_pos ⟨rfl, e⟩]
      · rw [if_neg (fun z => e z.2)]; exact h881 c (by omega)
    have g27 : (zpi M 881 i (nI 0)).1 866 27 = nI ((List.range i).filter (isO b)).length := by rw [m_pi, if_neg (by omega)]; exact h27
    have g878 : ∀ p, p < ((List.range i).filter (isO b)).length → (zpi M 881 i (nI 0)).1 878 p = nI (((List.range i).filter (isO b)).getD p 0) := fun p hp => by rw [m_pi, if_neg (by omega)]; exact h878 p hp
    have eR : (List.range (i + 1)).filter (isO b) = (List.range i).filter (isO b) ++ (if isO b i = true then [i] else []) := by
      rw [List.range_succ, List.filter_append]
      congr 1
      cases hO : isO b i with
      | true => rw [List.filter_cons_of_pos hO]; rfl
      | false => rw [List.filter_cons_of_neg (by rw [hO]; simp)]; rfl
    have f0 : frI pMk M (zpi M 881 i (nI 0)) := fr.refl.pi (Or.inr (by omega))
    cases hO : isO b i with
    | false =>
      rw [hO, if_neg (by simp), List.append_nil] at eR
      obtain ⟨M', a1, a2, a3⟩ := ih (i + 1) (zpi M 881 i (nI 0)) (by omega) r1 (by rw [eR]; exact g27) (by rw [eR]; exact g878) g881
      refine ⟨M', e_M_laysOpen_7 ?_, f0.trans a2, a3⟩
      rw [if_pos ((n_lt (by omega) (by omega)).mpr (by omega)), if_pos ((n_zin (by omega)).mpr (by omega)), n_clamp (by omega), s_isOpen r1 hW (by omega), zC1_some, hO, if_pos (show nB false = nI 0 from rfl), n_add1]
      exact a1
    | true =>
      rw [hO, if_pos rfl] at eR
      generalize hL : (List.range i).filter (isO b) = L at *
      have e27 : (zpi (zpi M 881 i (nI 0)) 878 L.length (nI i)).1 866 27 = nI L.length := by rw [m_pi, if_neg (by omega)]; exact g27
      obtain ⟨M', a1, a2, a3⟩ := ih (i + 1) (zpi (zpi (zpi M 881 i (nI 0)) 878 L.length (nI i)) 866 27 (nI (L.length + 1))) (by omega) (fun k hk => by rw [m_pi, if_neg (by omega), m_pi, if_neg (by omega)]; exact r1 k hk) (by rw [eR, m_pi, if_pos ⟨rfl, rfl⟩, List.length_append]; rfl) (by
        rw [eR]
        intro p hp
        rw [List.length_append] at hp
        have hp2 : p < L.length + 1 := hp
        rw [m_pi, if_neg (by omega), m_pi]
        by_cases e : p = L.length
        · rw [if_pos ⟨rfl, e⟩, e, List.getD_eq_getElem?_getD, List.getElem?_append_right (Nat.le_refl _), Nat.sub_self]
          rfl
        · rw [if_neg (fun z => e z.2), List.getD_eq_getElem?_getD, List.getElem?_append_left (by omega), ← List.getD_eq_getElem?_getD]
          exact g878 p (by omega)) (fun c hc => by rw [m_pi, if_neg (by omega), m_pi, if_neg (by omega)]; exact g881 c hc)
      refine ⟨M', e_M_laysOpen_7 ?_, ((f0.pi (Or.inr (by omega))).pi (Or.inl ⟨rfl, by omega⟩)).trans a2, a3⟩
      rw [if_pos ((n_lt (by omega) (by omega)).mpr (by omega)), if_pos ((n_zin (by omega)).mpr (by omega)), n_clamp (by omega), s_isOpen r1 hW (by omega), zC1_some, hO, if_neg (by decide), g27, if_pos ((n_zin (by omega)).mpr (by omega)), n_clamp (by omega), e27, n_add1, n_add1]
      exact a1
theorem s_laysOpen (hR : MR b M) (hW : Wf b) : ∃ M', zEv (d + 4) zmM_laysOpen [.ref 866] M = some (none, M') ∧ frI pMk M M' ∧ M'.1 866 27 = nI (openN b) ∧ (∀ p, p < openN b → M'.1 878 p = nI (opA b p)) ∧ ∀ c, c < 36 → M'.1 881 c = nI 0 := by
  have f0 : frI pMk M (zpi M 866 27 (nI 0)) := fr.refl.pi (Or.inl ⟨rfl, by omega⟩)
  obtain ⟨M', a1, a2, a3⟩ := s_laysOpen_l (d := d) hW 36 0 (zpi M 866 27 (nI 0)) (by omega) (hR.frMk f0) (by rw [m_pi, if_pos ⟨rfl, rfl⟩]; rfl) (fun p hp => absurd hp (Nat.not_lt_zero p)) (fun c hc => absurd hc (Nat.not_lt_zero c))
  exact ⟨M', e_M_laysOpen a1, f0.trans a2, a3⟩
theorem s_isTwice_i (hR : MR b M) (hW : Wf b) {mk : Nat → Nat} (hM : ∀ c, c < 36 → M.1 881 c = nI (mk c)) (hm : ∀ c, mk c < 8) {k c x : Nat} (hk : k < b 3) (hc : c < 36) (hx : x < 2147483648) {r : ZR} : ∀ j i, i + j = cgN b k →
    ((List.range' i j).any (fun i => decide (cgC b k i ≠ c) && decide (mk (cgC b k i) = x)) = true → r = (some (.int (nI 1)), M)) →
    ((List.range' i j).any (fun i => decide (cgC b k i ≠ c) && decide (mk (cgC b k i) = x)) = false → h_M_isTwice_2 (d + 3) (nI c) (nI x) (nI (k + 1)) M = some r) →
    h_M_isTwice_35 (d + 3) (nI c) (nI x) (nI k) (nI i) M = some r := by
  have h12 := cg_12 hW hk
  have h6 := cgN_le hW hk
  intro j
  induction j with
  | zero =>
    intro i h h1 h2
    refine e_M_isTwice_35 ?_
    rw [s_ofN (d := d + 2) hR h12, zC1_some, if_neg (by rw [n_lt (by omega) (by omega)]; omega), n_add1]
    exact h2 rfl
  | succ j ih =>
    intro i h h1 h2
    refine e_M_isTwice_35 ?_
    have h36 := cgC_lt hW hk (show i < cgN b k by omega)
    rw [List.range'_succ, List.any_cons] at h1 h2
    rw [s_ofN (d := d + 2) hR h12, zC1_some, if_pos ((n_lt (by omega) (by omega)).mpr (by omega)), s_cellOf (d := d + 1) hR h12 (show i < 6 by omega), zC1_some]
    by_cases e : cgC b k i = c
    · rw [if_pos (by rw [e]), n_add1]
      rw [decide_eq_false (fun z => z e), Bool.false_and, Bool.false_or] at h1 h2
      exact ih (i + 1) (by omega) h1 h2
    · rw [if_neg (by rw [n_eq (by omega) (by omega)]; exact e), s_cellOf (d := d + 1) hR h12 (show i < 6 by omega), zC1_some, if_pos ((n_zin (by omega)).mpr h36), n_clamp (by omega), hM _ h36]
      rw [decide_eq_true (show cgC b k i ≠ c from e), Bool.true_and] at h1 h2
      have := hm (cgC b k i)
      by_cases e2 : mk (cgC b k i) = x
      · rw [if_pos (by rw [e2])]
        rw [decide_eq_true e2, Bool.true_or] at h1
        rw [h1 rfl]
      · rw [if_neg (by rw [n_eq (by omega) (by omega)]; exact e2), n_add1]
        rw [decide_eq_false e2, Bool.false_or] at h1 h2
        exact ih (i + 1) (by omega) h1 h2
theorem s_isTwice_k (hR : MR b M) (hW : Wf b) {mk : Nat → Nat} (hM : ∀ c, c < 36 → M.1 881 c = nI (mk c)) (hm : ∀ c, mk c < 8) {c x : Nat} (hc : c < 36) (hx : x < 2147483648) : ∀ j k, k + j = b 3 →
    h_M_isTwice_2 (d + 3) (nI c) (nI x) (nI k) M = some (some (.int (nB ((List.range' k j).any fun k => (cgU b k && inC b k c) && (List.range (cgN b k)).any fun i => decide (cgC b k i ≠ c) && decide (mk (cgC b k i) = x)))), M) := by
  have hb12 := hW.1.2.2.2
  intro j
  induction j with
  | zero =>
    intro k h
    refine e_M_isTwice_2 ?_
    rw [s_cages (d := d + 2) hR, zC1_some, if_neg (by rw [n_lt (by omega) (by omega)]; omega)]
    rfl
  | succ j ih =>
    intro k h
    have hk : k < b 3 := by omega
    have hu := (hW.2.2.2.2.2 k hk).1.2.2
    have ih' := ih (k + 1) (by omega)
    refine e_M_isTwice_2 ?_
    rw [s_cages (d := d + 2) hR, zC1_some, if_pos ((n_lt (by omega) (by omega)).mpr (by omega)), s_of (d := d + 2) hR (show k < 12 by omega) (show 2 < 10 by omega), zC1_some, List.range'_succ, List.any_cons, show 148 + 10 * k + 2 = 150 + 10 * k by omega]
    have hp := pI_m1 (o := plc b k c) fun i' e => by
      have := (plc_lt e).1
      have := cgN_le hW hk
      omega
    by_cases e : b (150 + 10 * k) = 0
    · have eU : cgU b k = false := decide_eq_false (by omega)
      rw [if_pos (by rw [e]), eU, Bool.false_and, Bool.false_and, Bool.false_or, n_add1]
      exact ih'
    · have eU : cgU b k = true := decide_eq_true (by omega)
      rw [if_neg (by rw [n_eq (by omega) (by omega)]; exact e), eU, Bool.true_and, s_placeIn (d := d) hR hW hk (by omega), zC1_some]
      have hin : inC b k c = (plc b k c).isSome := rfl
      cases hq : plc b k c with
      | none =>
        rw [if_pos (by rfl), n_add1, hin, hq, show (none : Option Nat).isSome = false from rfl, Bool.false_and, Bool.false_or]
        exact ih'
      | some z =>
        rw [hq] at hp
        rw [if_neg (by rw [hp]; simp), hin, hq, show (some z).isSome = true from rfl, Bool.true_and, List.range_eq_range']
        refine s_isTwice_i (d := d) hR hW hM hm hk hc hx (cgN b k) 0 (by omega) (fun z => ?_) (fun z => ?_)
        · rw [z, Bool.true_or]; rfl
        · rw [z, Bool.false_or]; exact ih'
theorem s_isTwice (hR : MR b M) (hW : Wf b) {mk : Nat → Nat} (hM : ∀ c, c < 36 → M.1 881 c = nI (mk c)) (hm : ∀ c, mk c < 8) {c x : Nat} (hc : c < 36) (hx : x < 2147483648) : zEv (d + 4) zmM_isTwice [.ref 866, .int (nI c), .int (nI x)] M = some (some (.int (nB (tw b mk c x))), M) := by
  refine e_M_isTwice ?_
  unfold tw
  rw [s_isTwice_k (d := d) hR hW hM hm hc hx (b 3) 0 (by omega), List.range_eq_range']
end MD
