/-! THE CLASS, 61: what was, what is kept -/
abbrev zR0 : Nat → Nat := fun _ => 0
def PR (U : List (Nat → Nat)) (M : ZM) : Prop := ∃ nx, nx < 10 ∧ (M.1 64 4 = nI nx ∧ M.1 64 5 = nI U.length ∧ U.length ≤ 10) ∧ ∀ j, j < U.length → BRep (U.getD j zR0) (638 + 19 * ((nx + 10 - U.length + j) % 10)) M ∧ Wf (U.getD j zR0) ∧ WfD (U.getD j zR0)
def KRc (K : Nat → Option (Nat → Nat)) (M : ZM) : Prop := M.1 64 7 = nI ((bif (K 0).isSome then 1 else 0) + (bif (K 1).isSome then 2 else 0)) ∧ ∀ i, i < 2 → ∀ r, K i = some r → BRep r (828 + 19 * i) M ∧ Wf r ∧ WfD r
theorem PR.fr {U : List (Nat → Nat)} {p p2 : Nat → Nat → Prop} {M M' : ZM} (h : PR U M) (hf : fr p p2 M M') (hp : ∀ a k, p a k → ¬ (a = 64 ∧ (k = 4 ∨ k = 5)) ∧ (a < 638 ∨ 827 < a)) (hp2 : ∀ a k, p2 a k → a < 638 ∨ 827 < a) : PR U M' := by
  obtain ⟨nx, h1, ⟨h2, h3, h4⟩, h5⟩ := h
  refine ⟨nx, h1, ⟨(hf.1 64 4 fun z => (hp _ _ z).1 ⟨rfl, Or.inl rfl⟩).trans h2, (hf.1 64 5 fun z => (hp _ _ z).1 ⟨rfl, Or.inr rfl⟩).trans h3, h4⟩, fun j hj => ?_⟩
  obtain ⟨g1, g2, g3⟩ := h5 j hj
  have : (nx + 10 - U.length + j) % 10 < 10 := Nat.mod_lt _ (by omega)
  exact ⟨g1.fr hf g2.1.2.2.2 (fun a k z => by have := (hp a k z).2; omega) fun a k z => by have := hp2 a k z; omega, g2, g3⟩
theorem KRc.fr {K : Nat → Option (Nat → Nat)} {p p2 : Nat → Nat → Prop} {M M' : ZM} (h : KRc K M) (hf : fr p p2 M M') (hp : ∀ a k, p a k → ¬ (a = 64 ∧ k = 7) ∧ (a < 828 ∨ 865 < a)) (hp2 : ∀ a k, p2 a k → a < 828 ∨ 865 < a) : KRc K M' := by
  refine ⟨(hf.1 64 7 fun z => (hp _ _ z).1 ⟨rfl, rfl⟩).trans h.1, fun i hi r hr => ?_⟩
  obtain ⟨g1, g2, g3⟩ := h.2 i hi r hr
  exact ⟨g1.fr hf g2.1.2.2.2 (fun a k z => by have := (hp a k z).2; omega) fun a k z => by have := hp2 a k z; omega, g2, g3⟩
theorem zkP {i : Nat} (hi : i < 10) : zkd (638 + 19 * i) = (10, 0) := by
  have h := zl_1 (q := 124) (i := nI i) (by decide +kernel) ((n_zin (by omega)).mpr hi)
  rw [n_clamp (by omega), show 124 + 514 + 19 * i = 638 + 19 * i by omega] at h
  exact h
theorem zkS2 {i : Nat} (hi : i < 2) : zkd (828 + 19 * i) = (10, 0) := by
  have h := zl_2 (q := 125) (i := nI i) (by decide +kernel) ((n_zin (by omega)).mpr hi)
  rw [n_clamp (by omega), show 125 + 703 + 19 * i = 828 + 19 * i by omega] at h
  exact h
def pRm : Nat → Nat → Prop := fun a k => (a = 64 ∧ (k = 4 ∨ k = 5)) ∨ (638 ≤ a ∧ a ≤ 827)
theorem pushU_len {U : List (Nat → Nat)} {b : Nat → Nat} (h : U.length ≤ 10) : (pushU U b).length = if U.length = 10 then 10 else U.length + 1 := by
  unfold pushU
  rw [List.length_append, List.length_singleton]
  by_cases e : U.length = 10
  · rw [if_pos e, if_pos e, List.length_tail]; omega
  · rw [if_neg e, if_neg e]
theorem pushU_get {U : List (Nat → Nat)} {b : Nat → Nat} (h : U.length ≤ 10) {j : Nat} (hj : j < (pushU U b).length) : (pushU U b).getD j zR0 = if j + 1 = (pushU U b).length then b else if U.length = 10 then U.getD (j + 1) zR0 else U.getD j zR0 := by
  have hl := pushU_len (b := b) h
  unfold pushU
  by_cases e : U.length = 10
  · rw [if_pos e] at hl ⊢
    rw [List.getD_eq_getElem?_getD]
    have ht : U.tail.length = 9 := by rw [List.length_tail]; omega
    rw [List.length_append, List.length_singleton, ht]
    by_cases e2 : j + 1 = 10
    · rw [if_pos e2, List.getElem?_append_right (by omega), ht, show j - 9 = 0 by omega]
      rfl
    · rw [if_neg e2, if_pos e, List.getElem?_append_left (by omega), List.getElem?_tail, ← List.getD_eq_getElem?_getD]
  · rw [if_neg e] at hl ⊢
    rw [List.getD_eq_getElem?_getD, List.length_append, List.length_singleton]
    by_cases e2 : j + 1 = U.length + 1
    · rw [if_pos e2, List.getElem?_append_right (by omega), show j - U.length = 0 by omega]
      rfl
    · rw [if_neg e2, if_neg e, List.getElem?_append_left (by omega), ← List.getD_eq_getElem?_getD]
section QP
variable {d : Nat} {b : Nat → Nat} {M : ZM} {U : List (Nat → Nat)} {K : Nat → Option (Nat → Nat)}
theorem c_remember (hB : BRep b 86 M) (hW : Wf b) (hD : WfD b) (hP : PR U M) : ∃ M', zEv (d + 2) zmC_remember [.ref 64] M = some (none, M') ∧ PR (pushU U b) M' ∧ fr pRm pRm M M' := by
  obtain ⟨nx, h1, ⟨h2, h3, h4⟩, h5⟩ := hP
  obtain ⟨M1, a1, a2, a3⟩ := q_copyFrom (d := d) (zkP h1) zk86 (by omega) hB hW
  have f1 : fr pRm pRm M M1 := a3.mono (fun a k z => by unfold pBd at z; unfold pRm; omega) fun a k z => by unfold pBd at z; unfold pRm; omega
  have g4 : M1.1 64 4 = nI nx := (a3.1 64 4 (by unfold pBd; omega)).trans h2
  have g5 : M1.1 64 5 = nI U.length := (a3.1 64 5 (by unfold pBd; omega)).trans h3
  have hl := pushU_len (b := b) h4
  have f2 : frI (fun a k => a = 64 ∧ (k = 4 ∨ k = 5)) M1 (zpi (zpi M1 64 4 (nI ((nx + 1) % 10))) 64 5 (nI (pushU U b).length)) := (fr.refl.pi ⟨rfl, Or.inl rfl⟩).pi ⟨rfl, Or.inr rfl⟩
  refine ⟨zpi (zpi M1 64 4 (nI ((nx + 1) % 10))) 64 5 (nI (pushU U b).length), e_C_remember ?_, ⟨(nx + 1) % 10, Nat.mod_lt _ (by omega), ⟨by rw [m_pi, if_neg (by omega), m_pi, if_pos ⟨rfl, rfl⟩], by rw [m_pi, if_pos ⟨rfl, rfl⟩], by rw [hl]; split <;> omega⟩, fun j hj => ?_⟩, f1.trans (f2.mono (fun a k z => Or.inl z) fun _ _ z => z.elim)⟩
  · rw [h2, if_neg (by rw [n_lt (by omega) (by omega)]; omega), if_pos ((n_lt (by omega) (by omega)).mpr h1), if_pos ((n_zin (by omega)).mpr h1), n_clamp (by omega), a1, zC0_some, g4, n_add1, n_rem (by omega) (by omega), m_pi, if_neg (by omega), g5, n_add1, s_min (by omega) (by omega), zC1_some]
    have e : (if 10 < U.length + 1 then 10 else U.length + 1) = (pushU U b).length := by
      rw [hl]
      by_cases e : U.length = 10
      · rw [if_pos e, if_pos (by omega)]
      · rw [if_neg e, if_neg (by omega)]
    rw [e]
  · have hg := pushU_get (b := b) h4 hj
    rw [hg]
    by_cases e2 : j + 1 = (pushU U b).length
    · have hs : ((nx + 1) % 10 + 10 - (pushU U b).length + j) % 10 = nx := by
        rw [hl] at e2 ⊢
        by_cases e : U.length = 10
        · rw [if_pos e] at e2 ⊢; omega
        · rw [if_neg e] at e2 ⊢; omega
      rw [if_pos e2, hs]
      exact ⟨a2.fr f2 hW.1.2.2.2 (fun a k z => by omega) fun a k z => z.elim, hW, hD⟩
    · rw [if_neg e2]
      have keep : ∀ i, i < U.length → ((nx + 1) % 10 + 10 - (pushU U b).length + j) % 10 = (nx + 10 - U.length + i) % 10 → (nx + 10 - U.length + i) % 10 ≠ nx → BRep (U.getD i zR0) (638 + 19 * (((nx + 1) % 10 + 10 - (pushU U b).length + j) % 10)) (zpi (zpi M1 64 4 (nI ((nx + 1) % 10))) 64 5 (nI (pushU U b).length)) ∧ Wf (U.getD i zR0) ∧ WfD (U.getD i zR0) := fun i hi he hne => by
        obtain ⟨k1, k2, k3⟩ := h5 i hi
        have hlt : (nx + 10 - U.length + i) % 10 < 10 := Nat.mod_lt _ (by omega)
        rw [he]
        refine ⟨(k1.fr a3 k2.1.2.2.2 (fun a k z => by unfold pBd at z; omega) fun a k z => by unfold pBd at z; omega).fr f2 k2.1.2.2.2 (fun a k z => by omega) fun a k z => z.elim, k2, k3⟩
      by_cases e : U.length = 10
      · rw [if_pos e] at hl ⊢
        exact keep (j + 1) (by omega) (by rw [hl]; omega) (by omega)
      · rw [if_neg e] at hl ⊢
        exact keep j (by omega) (by rw [hl]; omega) (by omega)
theorem c_undo_0 (hP : PR [] M) : zEv (d + 2) zmC_undo [.ref 64] M = some (some (.int (-1)), M) := by
  obtain ⟨nx, h1, ⟨h2, h3, h4⟩, h5⟩ := hP
  refine e_C_undo ?_
  rw [h3, if_neg (by decide)]
def pUn : Nat → Nat → Prop := fun a k => (a = 64 ∧ (k = 4 ∨ k = 5)) ∨ pBd 86 a k
theorem c_undo {L : List (Nat → Nat)} {r : Nat → Nat} (hP : PR (L ++ [r]) M) : ∃ M', zEv (d + 2) zmC_undo [.ref 64] M = some (some (.int (nI L.length)), M') ∧ (BRep r 86 M' ∧ Wf r ∧ WfD r) ∧ PR L M' ∧ fr pUn pUn M M' := by
  obtain ⟨nx, h1, ⟨h2, h3, h4⟩, h5⟩ := hP
  rw [List.length_append, List.length_singleton] at h3 h4
  obtain ⟨y, y1, ⟨k, y2⟩, y3⟩ := q_floorMod (d := d) (M := M) ((nx : Int) - 1) (by omega) (by omega) (p := 10) (by omega) (by omega)
  have hy : y = (nx + 9) % 10 := by omega
  have eI : nI nx - nI 1 = Int32.ofInt ((nx : Int) - 1) := by
    rw [Int32.ofInt_sub, oI_nat]
    rfl
  rw [← eI] at y3
  have hlast := h5 L.length (by rw [List.length_append, List.length_singleton]; omega)
  have eg : (L ++ [r]).getD L.length zR0 = r := by
    rw [List.getD_eq_getElem?_getD, List.getElem?_append_right (Nat.le_refl _), Nat.sub_self]
    rfl
  rw [eg, List.length_append, List.length_singleton, show (nx + 10 - (L.length + 1) + L.length) % 10 = y by omega] at hlast
  obtain ⟨g1, g2, g3⟩ := hlast
  have f0 : frI (fun a k => a = 64 ∧ k = 4) M (zpi M 64 4 (nI y)) := fr.refl.pi ⟨rfl, rfl⟩
  obtain ⟨M1, a1, a2, a3⟩ := q_copyFrom (d := d) zk86 (zkP y1) (by omega) (g1.fr f0 g2.1.2.2.2 (fun a k z => by omega) fun a k z => z.elim) g2
  have f1 : frI (fun a k => a = 64 ∧ k = 5) M1 (zpi M1 64 5 (nI L.length)) := fr.refl.pi ⟨rfl, rfl⟩
  have v4 : M1.1 64 4 = nI y := by rw [a3.1 64 4 (by unfold pBd; omega), m_pi, if_pos ⟨rfl, rfl⟩]
  have v5 : M1.1 64 5 = nI (L.length + 1) := by rw [a3.1 64 5 (by unfold pBd; omega), m_pi, if_neg (by omega)]; exact h3
  refine ⟨zpi M1 64 5 (nI L.length), e_C_undo ?_, ⟨a2.fr f1 g2.1.2.2.2 (fun a k z => by omega) fun a k z => z.elim, g2, g3⟩, ⟨y, y1, ⟨by rw [m_pi, if_neg (by omega)]; exact v4, by rw [m_pi, if_pos ⟨rfl, rfl⟩], by omega⟩, fun j hj => ?_⟩, ((f0.mono (fun a k z => Or.inl ⟨z.1, Or.inl z.2⟩) fun _ _ z => z.elim).trans (a3.mono (fun a k z => Or.inr z) fun a k z => Or.inr z)).trans (f1.mono (fun a k z => Or.inl ⟨z.1, Or.inr z.2⟩) fun _ _ z => z.elim)⟩
  · rw [h3, if_pos ((n_lt (by omega) (by omega)).mpr (by omega)), h2, y3, zC1_some, show (zpi M 64 4 (nI y)).1 64 4 = nI y by rw [m_pi, if_pos ⟨rfl, rfl⟩], if_pos ((n_zin (by omega)).mpr y1), n_clamp (by omega), a1, zC0_some, v5, n_sub (by omega), show L.length + 1 - 1 = L.length by omega, m_pi, if_pos ⟨rfl, rfl⟩]
  · have hj' := h5 j (by rw [List.length_append, List.length_singleton]; omega)
    have eg' : (L ++ [r]).getD j zR0 = L.getD j zR0 := by
      rw [List.getD_eq_getElem?_getD, List.getD_eq_getElem?_getD, List.getElem?_append_left hj]
    rw [eg', List.length_append, List.length_singleton] at hj'
    obtain ⟨k1, k2, k3⟩ := hj'
    have hm : (nx + 10 - (L.length + 1) + j) % 10 = (y + 10 - L.length + j) % 10 := by omega
    rw [hm] at k1
    have hlt : (y + 10 - L.length + j) % 10 < 10 := Nat.mod_lt _ (by omega)
    exact ⟨((k1.fr f0 k2.1.2.2.2 (fun a k z => by omega) fun a k z => z.elim).fr a3 k2.1.2.2.2 (fun a k z => by unfold pBd at z; omega) fun a k z => by unfold pBd at z; omega).fr f1 k2.1.2.2.2 (fun a k z => by omega) fun a k z => z.elim, k2, k3⟩
theorem c_keep_no {x : Int32} (hx : iI x 2 = false) : zEv (d + 2) zmC_keep [.ref 64, .int x] M = some (some (.int (-1)), M) := by
  have hx' : ¬ iI x 2 = true := by rw [hx]; decide
  rw [iI_if] at hx'
  refine e_C_keep ?_
  by_cases h0 : x < nI 0
  · rw [if_pos h0]
  · rw [if_neg h0, if_neg]
    rw [Int32.lt_iff_toInt_lt, n_toInt (by omega)] at h0 ⊢
    omega
def pKp2 : Nat → Nat → Prop := fun a k => (a = 64 ∧ k = 7) ∨ (828 ≤ a ∧ a ≤ 865)
theorem c_keep (hB : BRep b 86 M) (hW : Wf b) (hD : WfD b) (hK : KRc K M) {i : Nat} (hi : i < 2) : ∃ M', zEv (d + 2) zmC_keep [.ref 64, .int (nI i)] M = some (some (.int (nI (b 3))), M') ∧ KRc (putK K i b) M' ∧ fr pKp2 pKp2 M M' := by
  obtain ⟨M1, a1, a2, a3⟩ := q_copyFrom (d := d) (zkS2 hi) zk86 (by omega) hB hW
  have v7 : M1.1 64 7 = M.1 64 7 := a3.1 64 7 (by unfold pBd; omega)
  have v3 : M1.1 86 3 = nI (b 3) := (a3.1 86 3 (by unfold pBd; omega)).trans hB.1.2.2
  have ebits : nI ((bif (K 0).isSome then 1 else 0) + (bif (K 1).isSome then 2 else 0)) ||| nI (2 ^ i) = nI ((bif (putK K i b 0).isSome then 1 else 0) + (bif (putK K i b 1).isSome then 2 else 0)) := by
    rw [n_or]
    have : i = 0 ∨ i = 1 := by omega
    unfold putK
    rcases this with rfl | rfl
    · rw [if_pos rfl, if_neg (by omega)]
      cases (K 0).isSome <;> cases (K 1).isSome <;> rfl
    · rw [if_neg (by omega), if_pos rfl]
      cases (K 0).isSome <;> cases (K 1).isSome <;> rfl
  have f1 : ∀ v, frI (fun a k => a = 64 ∧ k = 7) M1 (zpi M1 64 7 v) := fun v => fr.refl.pi ⟨rfl, rfl⟩
  refine ⟨zpi M1 64 7 (nI ((bif (putK K i b 0).isSome then 1 else 0) + (bif (putK K i b 1).isSome then 2 else 0))), e_C_keep ?_, ⟨by rw [m_pi, if_pos ⟨rfl, rfl⟩], fun i' hi' r hr => ?_⟩, (a3.mono (fun a k z => by unfold pBd at z; unfold pKp2; omega) fun a k z => by unfold pBd at z; unfold pKp2; omega).trans ((f1 _).mono (fun a k z => Or.inl z) fun _ _ z => z.elim)⟩
  · rw [if_neg (by rw [n_lt (by omega) (by omega)]; omega), if_pos ((n_lt (by omega) (by omega)).mpr hi), if_pos ((n_zin (by omega)).mpr hi), n_clamp (by omega), a1, zC0_some, v7, hK.1, n_one (by omega), ebits, m_pi, if_neg (by omega), v3]
  · unfold putK at hr
    by_cases e : i' = i
    · rw [if_pos e] at hr
      injection hr with hr
      rw [← hr, e]
      exact ⟨a2.fr (f1 _) hW.1.2.2.2 (fun a k z => by omega) fun a k z => z.elim, hW, hD⟩
    · rw [if_neg e] at hr
      obtain ⟨g1, g2, g3⟩ := hK.2 i' hi' r hr
      exact ⟨(g1.fr a3 g2.1.2.2.2 (fun a k z => by unfold pBd at z; omega) fun a k z => by unfold pBd at z; omega).fr (f1 _) g2.1.2.2.2 (fun a k z => by omega) fun a k z => z.elim, g2, g3⟩
theorem c_back_no {x : Int32} (hx : iI x 2 = false) : zEv (d + 2) zmC_back [.ref 64, .int x] M = some (some (.int (-1)), M) := by
  have hx' : ¬ iI x 2 = true := by rw [hx]; decide
  rw [iI_if] at hx'
  refine e_C_back ?_
  by_cases h0 : x < nI 0
  · rw [if_pos h0]
  · rw [if_neg h0, if_neg]
    rw [Int32.lt_iff_toInt_lt, n_toInt (by omega)] at h0 ⊢
    omega
theorem kb_bit {K : Nat → Option (Nat → Nat)} {i : Nat} (hi : i < 2) : ((bif (K 0).isSome then 1 else 0) + (bif (K 1).isSome then 2 else 0)).testBit i = (K i).isSome := by
  have : i = 0 ∨ i = 1 := by omega
  rcases this with rfl | rfl
  · cases (K 0).isSome <;> cases (K 1).isSome <;> rfl
  · cases (K 0).isSome <;> cases (K 1).isSome <;> rfl
theorem kb_lt {K : Nat → Option (Nat → Nat)} : ((bif (K 0).isSome then 1 else 0) + (bif (K 1).isSome then 2 else 0)) < 4 := by
  cases (K 0).isSome <;> cases (K 1).isSome <;> decide
theorem c_back_un (hK : KRc K M) {i : Nat} (hi : i < 2) (hn : K i = none) : zEv (d + 2) zmC_back [.ref 64, .int (nI i)] M = some (some (.int (-2)), M) := by
  have hb := n_bit0 (m := (bif (K 0).isSome then 1 else 0) + (bif (K 1).isSome then 2 else 0)) (d := i) (by have := kb_lt (K := K); omega) (by omega)
  rw [kb_bit hi, hn] at hb
  refine e_C_back ?_
  rw [if_neg (by rw [n_lt (by omega) (by omega)]; omega), if_pos ((n_lt (by omega) (by omega)).mpr hi), hK.1, if_pos (hb.mpr rfl)]
def pBk : Nat → Nat → Prop := fun a k => (a = 64 ∧ k = 5) ∨ pBd 86 a k
theorem c_back (hK : KRc K M) {i : Nat} (hi : i < 2) {r : Nat → Nat} (hn : K i = some r) : ∃ M', zEv (d + 2) zmC_back [.ref 64, .int (nI i)] M = some (some (.int (nI (r 3))), M') ∧ (BRep r 86 M' ∧ Wf r ∧ WfD r) ∧ M'.1 64 5 = nI 0 ∧ fr pBk pBk M M' := by
  have hb := n_bit0 (m := (bif (K 0).isSome then 1 else 0) + (bif (K 1).isSome then 2 else 0)) (d := i) (by have := kb_lt (K := K); omega) (by omega)
  rw [kb_bit hi, hn] at hb
  obtain ⟨g1, g2, g3⟩ := hK.2 i hi r hn
  obtain ⟨M1, a1, a2, a3⟩ := q_copyFrom (d := d) zk86 (zkS2 hi) (by omega) g1 g2
  have f1 : frI (fun a k => a = 64 ∧ k = 5) M1 (zpi M1 64 5 (nI 0)) := fr.refl.pi ⟨rfl, rfl⟩
  refine ⟨zpi M1 64 5 (nI 0), e_C_back ?_, ⟨a2.fr f1 g2.1.2.2.2 (fun a k z => by omega) fun a k z => z.elim, g2, g3⟩, by rw [m_pi, if_pos ⟨rfl, rfl⟩], (a3.mono (fun a k z => Or.inr z) fun a k z => Or.inr z).trans (f1.mono (fun a k z => Or.inl z) fun _ _ z => z.elim)⟩
  rw [if_neg (by rw [n_lt (by omega) (by omega)]; omega), if_pos ((n_lt (by omega) (by omega)).mpr hi), hK.1, if_neg (fun z => by cases hb.mp z), if_pos ((n_zin (by omega)).mpr hi), n_clamp (by omega), a1, zC0_some, m_pi, if_neg (by omega), a2.1.2.2]
theorem pr_none {M' : ZM} {p p2 : Nat → Nat → Prop} (h : PR U M) (hf : fr p p2 M M') (hp : ∀ a k, p a k → ¬ (a = 64 ∧ k = 4)) (h5 : M'.1 64 5 = nI 0) : PR [] M' := by
  obtain ⟨nx, h1, ⟨h2, h3, h4⟩, _⟩ := h
  exact ⟨nx, h1, ⟨(hf.1 64 4 fun z => hp _ _ z ⟨rfl, rfl⟩).trans h2, h5, Nat.zero_le _⟩, fun j hj => absurd hj (Nat.not_lt_zero j)⟩
end QP
