/-! THE MODEL, 43: blocks, a cage's first words -/
theorem Ps.wr {tp : List Nat} {s : Nat} {r : Nat → Nat} {M : ZM} (h : Ps tp s r M) (i v : Nat) : Ps tp s (upN r i v) (zpi M 883 i (nI v)) := by
  have f1 : frI (fun a _ => a = 883) M (zpi M 883 i (nI v)) := fr.refl.pi rfl
  refine ⟨⟨h.1.1.fr f1 (fun a k z => by omega), h.1.2.1, (f1.1 866 36 (by omega)).trans h.1.2.2⟩, fun k hk => ?_⟩
  rw [m_pi]
  unfold upN
  by_cases e : k = i
  · rw [if_pos ⟨rfl, e⟩, if_pos e]
  · rw [if_neg (fun z => e z.2), if_neg e]
    exact h.2 k hk
theorem fr_wr {M : ZM} {i v : Nat} : frI pRd M (zpi M 883 i (nI v)) := fr.refl.pi (Or.inr rfl)
theorem PB.up {r : Nat → Nat} (h : PB r) {i v : Nat} (h4 : 4 ≤ i) (hv : v < 10000000) (hn : ∀ k, k < 12 → i ≠ 151 + 10 * k) : PB (upN r i v) := by
  refine ⟨fun k => ?_, ?_, fun k hk => ?_⟩
  · unfold upN
    by_cases e : k = i
    · rw [if_pos e]; exact hv
    · rw [if_neg e]; exact h.1 k
  · rw [upN_ne (show 0 ≠ i by omega), upN_ne (show 1 ≠ i by omega), upN_ne (show 2 ≠ i by omega), upN_ne (show 3 ≠ i by omega)]
    exact h.2.1
  · rw [upN_ne (fun z => hn k hk z.symm)]
    exact h.2.2 k hk
def rdBl (tp : List Nat) : Nat → Nat → (Nat → Nat) → Except Nat (Nat × (Nat → Nat))
  | 0, _, _ => .error 0
  | f + 1, s, r => match rdC tp s r true with
    | .error e => .error e
    | .ok q => if inB tp (skp tp q.2.2) 97 122 = true then rdBl tp f (skp tp q.2.2) (upN r (4 + q.1) 1) else .ok (skp tp q.2.2, upN r (4 + q.1) 1)
def begI (r : Nat → Nat) (w i : Nat) : Nat → Nat := fun k => if w ≤ k ∧ k < w + i then 0 else r k
def rdT1 (tp : List Nat) (t s : Nat) : Except Nat (Nat × Nat × Nat) := match rdN tp s 0 (mostT t) with
  | .error e => .error e
  | .ok q => .ok (t, q.1, q.2)
def rdT (tp : List Nat) (s : Nat) : Except Nat (Nat × Nat × Nat) :=
  if isW tp s (wd 7) = true then .ok (3, 0, skp tp s + (wd 7).length) else
  if isW tp s (wd 15) = true then rdT1 tp 0 (skp tp s + (wd 15).length) else
  if isW tp s (wd 13) = true then rdT1 tp 1 (skp tp s + (wd 13).length) else
  if isW tp s (wd 14) = true then rdT1 tp 2 (skp tp s + (wd 14).length) else .error (8 * skp tp s + 1)
theorem isW_skp {tp : List Nat} {s : Nat} (h : s ≤ tp.length) (w : List Nat) : isW tp (skp tp s) w = isW tp s w := by
  unfold isW
  rw [skp_skp h]
theorem mostT_lt (t : Nat) : mostT t < 10000000 := by
  unfold mostT
  split
  · omega
  · split <;> omega
section MQ
variable {d : Nat} {M : ZM} {tp : List Nat} {s : Nat} {r : Nat → Nat}
theorem s_readsBlock_l : ∀ f s r (M : ZM), tp.length < s + f → Ps tp s r M → PB r → ∃ M', h_M_readsBlock_0 (d + 3) M = some (some (.int (nB (isK (rdBl tp f s r)))), M') ∧ frI pRd M M' ∧ PE (fun q => Ps tp q.1 q.2 M' ∧ PB q.2) M' (rdBl tp f s r) := by
  intro f
  induction f with
  | zero =>
    intro s r M h hP
    have := hP.1.2.1
    omega
  | succ f ih =>
    intro s r M h hP hB
    obtain ⟨M1, a1, a2, a3⟩ := s_readsCell (d := d) hP hB true
    cases hE : rdC tp s r true with
    | error e =>
      rw [hE] at a1 a3
      have eE : rdBl tp (f + 1) s r = .error e := by unfold rdBl; rw [hE]
      rw [eE]
      refine ⟨M1, e_M_readsBlock_0 ?_, frQ_Rd a2, a3⟩
      rw [show nI 1 = nB true from rfl, a1, zC1_some, if_pos (by rfl)]
      rfl
    | ok q =>
      rw [hE] at a1 a3
      rw [isK_ok] at a1
      have a3' : Ps tp q.2.2 r M1 ∧ M1.1 866 41 = nI q.1 ∧ M1.1 866 39 = nI q.2.1 := a3
      obtain ⟨g1, g2, g3, g4⟩ := rdC_ok hB hP.1.2.1 hE
      obtain ⟨M2, b1, b2, b3⟩ := s_isLetterNext (d := d) (a3'.1.wr (4 + q.1) 1)
      have hB2 : PB (upN r (4 + q.1) 1) := hB.up (by omega) (by omega) (fun k _ => by omega)
      have hle := skp_le g3.2
      have f2 : frI pRd M M2 := ((frQ_Rd a2).trans fr_wr).trans (frQ_Rd b3)
      cases hL : inB tp (skp tp q.2.2) 97 122 with
      | true =>
        rw [hL] at b1
        have eE : rdBl tp (f + 1) s r = rdBl tp f (skp tp q.2.2) (upN r (4 + q.1) 1) := by
          show (match rdC tp s r true with
            | Except.error e => Except.error e
            | Except.ok q => if inB tp (skp tp q.2.2) 97 122 = true then rdBl tp f (skp tp q.2.2) (upN r (4 + q.1) 1) else Except.ok (skp tp q.2.2, upN r (4 + q.1) 1)) = _
          rw [hE]
          dsimp only
          rw [hL, if_pos rfl]
        obtain ⟨M', c1, c2, c3⟩ := ih (skp tp q.2.2) (upN r (4 + q.1) 1) M2 (by omega) b2 hB2
        rw [eE]
        refine ⟨M', e_M_readsBlock_0 ?_, f2.trans c2, c3⟩
        rw [show nI 1 = nB true from rfl, a1, zC1_some, if_neg (by decide), a3'.2.1, n_add, if_pos ((n_zin (by omega)).mpr (by omega)), n_clamp (by omega)]
        rw [show nB true = nI 1 from rfl, b1, zC1_some, if_neg (by decide)]
        exact c1
      | false =>
        rw [hL] at b1
        have eE : rdBl tp (f + 1) s r = .ok (skp tp q.2.2, upN r (4 + q.1) 1) := by
          show (match rdC tp s r true with
            | Except.error e => Except.error e
            | Except.ok q => if inB tp (skp tp q.2.2) 97 122 = true then rdBl tp f (skp tp q.2.2) (upN r (4 + q.1) 1) else Except.ok (skp tp q.2.2, upN r (4 + q.1) 1)) = _
          rw [hE]
          dsimp only
          rw [hL, if_neg (by simp)]
        rw [eE]
        refine ⟨M2, e_M_readsBlock_0 ?_, f2, b2, hB2⟩
        rw [show nI 1 = nB true from rfl, a1, zC1_some, if_neg (by decide), a3'.2.1, n_add, if_pos ((n_zin (by omega)).mpr (by omega)), n_clamp (by omega)]
        rw [show nB true = nI 1 from rfl, b1, zC1_some, if_pos (show nB false = nI 0 from rfl)]
        rfl
theorem s_readsBlock (hP : Ps tp s r M) (hB : PB r) (hs : 0 < s) : ∃ M', zEv (d + 4) zmM_readsBlock [.ref 866] M = some (some (.int (nB (isK (rdBl tp 400 s r)))), M') ∧ frI pRd M M' ∧ PE (fun q => Ps tp q.1 q.2 M' ∧ PB q.2) M' (rdBl tp 400 s r) := by
  have hl := hP.1.1.1.2
  obtain ⟨M', a1, a2⟩ := s_readsBlock_l (d := d) 400 s r M (by omega) hP hB
  exact ⟨M', e_M_readsBlock a1, a2⟩
theorem s_begins_l {w : Nat} (hw : w + 10 ≤ 268) : ∀ j i (M : ZM), i + j = 10 → Ps tp s (begI r w i) M → ∃ M', h_M_begins_50 d (nI w) (nI i) M = some (some (.int (nI 1)), M') ∧ frI pRd M M' ∧ Ps tp s (begI r w 10) M' := by
  intro j
  induction j with
  | zero =>
    intro i M h hP
    obtain rfl : i = 10 := by omega
    refine ⟨M, e_M_begins_50 ?_, fr.refl, hP⟩
    rw [if_neg (by decide)]
  | succ j ih =>
    intro i M h hP
    have e : upN (begI r w i) (w + i) 0 = begI r w (i + 1) := funext fun k => by
      unfold upN begI
      by_cases e : k = w + i
      · rw [if_pos e, if_pos (by omega)]
      · rw [if_neg e]
        by_cases e2 : w ≤ k ∧ k < w + i
        · rw [if_pos e2, if_pos (by omega)]
        · rw [if_neg e2, if_neg (by omega)]
    have P1 := hP.wr (w + i) 0
    rw [e] at P1
    obtain ⟨M', a1, a2, a3⟩ := ih (i + 1) _ (by omega) P1
    refine ⟨M', e_M_begins_50 ?_, fr_wr.trans a2, a3⟩
    rw [if_pos ((n_lt (by omega) (by omega)).mpr (by omega)), n_add, if_pos ((n_zin (by omega)).mpr (by omega)), n_clamp (by omega), n_add1]
    exact a1
theorem PB.beg {r : Nat → Nat} (h : PB r) {w i : Nat} (hw : 148 ≤ w) : PB (begI r w i) := by
  have hle : ∀ k, begI r w i k ≤ r k := fun k => by
    unfold begI
    split
    · exact Nat.zero_le _
    · exact Nat.le_refl _
  refine ⟨fun k => Nat.lt_of_le_of_lt (hle k) (h.1 k), ⟨Nat.le_trans (hle 0) h.2.1.1, Nat.le_trans (hle 1) h.2.1.2.1, Nat.le_trans (hle 2) h.2.1.2.2.1, Nat.le_trans (hle 3) h.2.1.2.2.2⟩, fun k hk => Nat.le_trans (hle _) (h.2.2 k hk)⟩
theorem begI_ne {r : Nat → Nat} {w i k : Nat} (h : k < w ∨ w + i ≤ k) : begI r w i k = r k := if_neg (by omega)
theorem s_begins (hP : Ps tp s r M) (hB : PB r) {j : Nat} (hj : j < 17) (hs : s + (wd j).length ≤ tp.length) : ∃ M', zEv (d + 3) zmM_begins [.ref 866, .ref (j + 1)] M = some (some (.int (nB (!decide (r 3 = 12)))), M') ∧ frI pRd M M' ∧ PE (fun (_ : Nat) => Ps tp (s + (wd j).length) (begI r (148 + 10 * r 3) 10) M') M' (if r 3 = 12 then .error (8 * s + 3) else .ok 0) := by
  have hl := hP.1.1.1.2
  have h12 := hB.2.1.2.2.2
  by_cases e : r 3 = 12
  · rw [if_pos e]
    refine ⟨zpi M 866 37 (nI (8 * s + 3)), e_M_begins (zkS j hj).1 ?_, fr.refl.pi (Or.inl ⟨rfl, by omega, by omega⟩), by show _ = _; rw [m_pi, if_pos ⟨rfl, rfl⟩]⟩
    rw [hP.2 3 (by omega), if_pos (by rw [e]), hP.1.2.2, s_fails (d := d + 1), zC1_some, if_pos (Or.inl rfl), decide_eq_true e]
    rfl
  · rw [if_neg e]
    obtain ⟨m1, m2⟩ := hP.mv hs
    obtain ⟨M', a1, a2, a3⟩ := s_begins_l (d := d + 2) (tp := tp) (s := s + (wd j).length) (r := r) (w := 148 + 10 * r 3) (by omega) 10 0 _ (by omega) (by
      have : begI r (148 + 10 * r 3) 0 = r := funext fun k => if_neg (by omega)
      rw [this]; exact m1)
    refine ⟨M', e_M_begins (zkS j hj).1 ?_, (frQ_Rd m2).trans a2, a3⟩
    rw [hP.2 3 (by omega), if_neg (by rw [n_eq (by omega) (by omega)]; exact e), s_length (d := d) hj, zC1_some, hP.1.2.2, n_add, m1.2 3 (by omega), n_mul, n_add, zLr, decide_eq_false e]
    exact a1
end MQ
