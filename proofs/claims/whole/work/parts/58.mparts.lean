/-! THE MODEL, 47: a text's parts read -/
def rdCg (tp : List Nat) (s : Nat) (r : Nat → Nat) : Except Nat (Nat × (Nat → Nat)) :=
  if r 3 = 12 then .error (8 * s + 3) else
  match rdT tp (s + 4) with
  | .error e => .error e
  | .ok q => match rdMem tp (cagR r (148 + 10 * r 3) q.1 q.2.1 (alk tp q.2.2)) 400 (tkW tp q.2.2 (wd 6)) (fun _ => false) with
    | .error e => .error e
    | .ok p => .ok (p.1, finR (cagR r (148 + 10 * r 3) q.1 q.2.1 (alk tp q.2.2)) (148 + 10 * r 3) p.2)
def lnS (r : Nat → Nat) (st en : Nat) : Nat → Nat → (Nat → Bool) → Nat → Bool
  | 0, _, S => S
  | f + 1, k, S => if k < en ∧ r (4 + k) = 0 then lnS r st en f (k + st) (upB S k) else S
def lnST (r : Nat → Nat) (down : Bool) : Nat := bif down then r 0 else 1
def lnEN (r : Nat → Nat) (down : Bool) (c : Nat) : Nat := bif down then r 0 * r 1 else c - c % r 0 + r 0
def rdLn (tp : List Nat) (s : Nat) (r : Nat → Nat) (down : Bool) (len : Nat) : Except Nat (Nat × (Nat → Nat)) :=
  if r 3 = 12 then .error (8 * s + 3) else
  match rdC tp (s + len) r false with
  | .error e => .error e
  | .ok c => match rdT tp c.2.2 with
    | .error e => .error e
    | .ok q => .ok (tkW tp q.2.2 (wd 6), finR (cagR r (148 + 10 * r 3) q.1 q.2.1 (alk tp q.2.2)) (148 + 10 * r 3) (lnS r (lnST r down) (lnEN r down c.1) 6 c.1 (fun _ => false)))
def rdGv (tp : List Nat) (s : Nat) (r : Nat → Nat) : Except Nat (Nat × (Nat → Nat)) :=
  match rdC tp (s + 5) r false with
  | .error e => .error e
  | .ok c => if r (76 + c.1) = 1 then .error (8 * c.2.1 + 2) else match rdN tp c.2.2 1 (r 2) with
    | .error e => .error e
    | .ok q => .ok (q.2, upN (upN r (40 + c.1) q.1) (76 + c.1) 1)
def rdPt (tp : List Nat) (s : Nat) (r : Nat → Nat) : Except Nat (Nat × (Nat → Nat)) :=
  if isW tp s (wd 8) = true then rdBl tp 400 (skp tp s + 5) r else
  if isW tp s (wd 10) = true then rdCg tp (skp tp s) r else
  if isW tp s (wd 5) = true then rdLn tp (skp tp s) r false 6 else
  if isW tp s (wd 11) = true then rdLn tp (skp tp s) r true 4 else
  if isW tp s (wd 12) = true then rdGv tp (skp tp s) r else .error (8 * skp tp s + 1)
theorem cagR_ne {r : Nat → Nat} {w t n u k : Nat} (h : k < w ∨ w + 10 ≤ k) : cagR r w t n u k = r k := by
  unfold cagR
  rw [upN_ne (by omega), upN_ne (by omega), upN_ne (by omega), begI_ne h]
theorem cagR_z {r : Nat → Nat} {w t n u k : Nat} (h : w + 3 ≤ k) (h2 : k < w + 10) : cagR r w t n u k = 0 := by
  unfold cagR
  rw [upN_ne (by omega), upN_ne (by omega), upN_ne (by omega)]
  exact if_pos (by omega)
theorem mem_nil {r : Nat → Nat} {w : Nat} (h : r (w + 3) = 0) : memR r w [] = r := funext fun k => by
  unfold memR
  by_cases e : k = w + 3
  · rw [if_pos e, e, h]; rfl
  · rw [if_neg e, if_neg (by show ¬ (w + 4 ≤ k ∧ k < w + 4 + 0); omega)]
theorem PB.cag {r : Nat → Nat} (h : PB r) {k0 t n u : Nat} (ht : t < 10000000) (hn : n < 10000000) (hu : u < 10000000) : PB (cagR r (148 + 10 * k0) t n u) := by
  unfold cagR
  exact (((h.beg (by omega)).up (by omega) ht (fun k _ => by omega)).up (by omega) hn (fun k _ => by omega)).up (by omega) hu (fun k _ => by omega)
theorem cOf_no : cOf (fun _ => false) = [] := by
  unfold cOf
  exact List.filter_eq_nil_iff.mpr fun _ _ => by simp
theorem alk_le (tp : List Nat) (s : Nat) : alk tp s ≤ 1 := by
  unfold alk
  split <;> omega
theorem wd_l4 : (wd 10).length = 4 ∧ (wd 8).length = 5 ∧ (wd 5).length = 6 ∧ (wd 11).length = 4 ∧ (wd 12).length = 5 := by decide +kernel
section MU
variable {d : Nat} {M : ZM} {tp : List Nat} {s : Nat} {r : Nat → Nat}
theorem PB.fin {r : Nat → Nat} (h : PB r) {k0 : Nat} {S : Nat → Bool} (h6 : (cOf S).length ≤ 6) (h3 : r 3 < 12) : PB (finR r (148 + 10 * k0) S) := by
  have hm := h.mem (k0 := k0) h6
  refine ⟨fun k => ?_, ?_, fun k hk => ?_⟩
  · unfold finR upN
    split
    · omega
    · exact hm.1 k
  · unfold finR
    rw [upN_ne (by omega), upN_ne (by omega), upN_ne (by omega), upN_at]
    exact ⟨hm.2.1.1, hm.2.1.2.1, hm.2.1.2.2.1, by omega⟩
  · unfold finR
    rw [upN_ne (by omega)]
    exact hm.2.2 k hk
theorem s_readsCage (hP : Ps tp s r M) (hB : PB r) (h0 : 0 < s) (hs : s + 4 ≤ tp.length) : ∃ M', zEv (d + 8) zmM_readsCage [.ref 866] M = some (some (.int (nB (isK (rdCg tp s r)))), M') ∧ frI pRd M M' ∧ PE (fun q => Ps tp q.1 q.2 M' ∧ PB q.2) M' (rdCg tp s r) := by
  have hl := hP.1.1.1.2
  have h12 := hB.2.1.2.2.2
  obtain ⟨M1, a1, a2, a3⟩ := s_begins (d := d + 4) hP hB (j := 10) (by omega) (by rw [wd_l4.1]; exact hs)
  rw [wd_l4.1] at a3
  unfold rdCg
  by_cases e12 : r 3 = 12
  · rw [if_pos e12] at a3 ⊢
    rw [decide_eq_true e12] at a1
    refine ⟨M1, e_M_readsCage ?_, a2, a3⟩
    rw [a1, zC1_some, if_pos (by rfl)]
    rfl
  · rw [if_neg e12] at a3 ⊢
    rw [decide_eq_false e12] at a1
    have a3' : Ps tp (s + 4) (begI r (148 + 10 * r 3) 10) M1 := a3
    have e3 : begI r (148 + 10 * r 3) 10 3 = r 3 := begI_ne (by omega)
    obtain ⟨M2, b1, b2, b3⟩ := s_readsTotal (d := d) a3' (w := 148 + 10 * r 3) (by omega) (if_pos (by omega))
    cases hT : rdT tp (s + 4) with
    | error e =>
      rw [hT] at b1 b3
      refine ⟨M2, e_M_readsCage ?_, a2.trans b2, b3⟩
      rw [a1, zC1_some, if_neg (by decide), a3'.2 3 (by omega), e3, n_mul, n_add, b1, zC1_some, if_pos (by rfl)]
      rfl
    | ok q =>
      rw [hT] at b1 b3
      rw [isK_ok] at b1
      dsimp only
      obtain ⟨t1, t2, t3⟩ := rdT_ok hs hT
      have b3' : Ps tp q.2.2 (upN (upN (begI r (148 + 10 * r 3) 10) (148 + 10 * r 3) q.1) (148 + 10 * r 3 + 1) q.2.1) M2 := b3
      obtain ⟨M3, c1, c2, c3⟩ := s_readsAlike (d := d) b3' (w := 148 + 10 * r 3) (by omega)
      have c3' : Ps tp (tkW tp q.2.2 (wd 6)) (cagR r (148 + 10 * r 3) q.1 q.2.1 (alk tp q.2.2)) M3 := c3
      have hm := mostT_lt q.1
      have ha := alk_le tp q.2.2
      have hBc : PB (cagR r (148 + 10 * r 3) q.1 q.2.1 (alk tp q.2.2)) := hB.cag (by omega) (by omega) (by omega)
      have htk := tkW_le t3 (show 6 < 17 by omega)
      have hsk := skp_le t3
      have ec3 : cagR r (148 + 10 * r 3) q.1 q.2.1 (alk tp q.2.2) 3 = r 3 := cagR_ne (by omega)
      have hp0 : memR (cagR r (148 + 10 * r 3) q.1 q.2.1 (alk tp q.2.2)) (148 + 10 * r 3) (cOf fun _ => false) = cagR r (148 + 10 * r 3) q.1 q.2.1 (alk tp q.2.2) := by
        rw [cOf_no]
        exact mem_nil (cagR_z (by omega) (by omega))
      obtain ⟨M', k1, k2, k3⟩   := s_readsCage_41 (tp := tp) (d := d + 4) (show r 3 < 12 by omega) hBc ec3 400 (tkW tp q.2.2 (wd 6)) (fun _ => false) M3 (by omega) (by rw [hp0]; exact c3') (by rw [cOf_no]; exact Nat.zero_le _)
      refine ⟨M', e_M_readsCage ?_, ((a2.trans b2).trans c2).trans k2, ?_⟩
      · rw [a1, zC1_some, if_neg (by decide), a3'.2 3 (by omega), e3, n_mul, n_add, b1, zC1_some, if_neg (by decide), c1, zC0_some, k1]
        cases rdMem tp (cagR r (148 + 10 * r 3) q.1 q.2.1 (alk tp q.2.2)) 400 (tkW tp q.2.2 (wd 6)) (fun _ => false) <;> rfl
      · cases hM : rdMem tp (cagR r (148 + 10 * r 3) q.1 q.2.1 (alk tp q.2.2)) 400 (tkW tp q.2.2 (wd 6)) (fun _ => false) with
        | error e => rw [hM] at k3; exact k3
        | ok p =>
          rw [hM] at k3
          have k3' : Ps tp p.1 (finR (cagR r (148 + 10 * r 3) q.1 q.2.1 (alk tp q.2.2)) (148 + 10 * r 3) p.2) M' ∧ (cOf p.2).length ≤ 6 := k3
          exact ⟨k3'.1, hBc.fin k3'.2 (by omega)⟩
theorem s_readsLine_100 {k0 : Nat} (hk : k0 < 12) {st en : Nat} {down : Bool} (hB : PB r) (h3 : r 3 = k0) (hen : en ≤ 36) (hst : 0 < st) (hst2 : st = lnST r down) : ∀ f k S (M : ZM), en ≤ k + f * st → k ≤ 36 + 36 → (cOf S).length + f ≤ 6 → (∀ x, k ≤ x → S x = false) → Ps tp s (memR r (148 + 10 * k0) (cOf S)) M →
    ∃ M', h_M_readsLine_100 (d + 1) (nB down) (nI (148 + 10 * k0)) (nI en) (nI k) M = some (some (.int (nI 1)), M') ∧ frI pRd M M' ∧ Ps tp s (finR r (148 + 10 * k0) (lnS r st en f k S)) M' ∧ (cOf (lnS r st en f k S)).length ≤ 6 := by
  have h06 := hB.2.1.1
  have stop : ∀ k S (M : ZM), ¬ (k < en ∧ r (4 + k) = 0) → k ≤ 72 → (cOf S).length ≤ 6 → Ps tp s (memR r (148 + 10 * k0) (cOf S)) M → ∃ M', h_M_readsLine_100 (d + 1) (nB down) (nI (148 + 10 * k0)) (nI en) (nI k) M = some (some (.int (nI 1)), M') ∧ frI pRd M M' ∧ Ps tp s (finR r (148 + 10 * k0) S) M' ∧ (cOf S).length ≤ 6 := by
    intro k S M hx hk72 h6 hP
    have e3 : memR r (148 + 10 * k0) (cOf S) 3 = r 3 := memR_low (by omega) h6
    refine ⟨zpi M 883 3 (nI (r 3 + 1)), e_M_readsLine_100 ?_, fr_wr, hP.wr 3 (r 3 + 1), h6⟩
    by_cases e : k < en
    · have hr := hB.1 (4 + k)
      rw [if_pos ((n_lt (by omega) (by omega)).mpr e), n_add, if_pos ((n_zin (by omega)).mpr (by omega)), n_clamp (by omega), hP.2 _ (by omega), memR_low (by omega) h6, if_neg (by rw [n_eq (by omega) (by omega)]; exact fun z => hx ⟨e, z⟩), hP.2 3 (by omega), e3, n_add1]
    · rw [if_neg (by rw [n_lt (by omega) (by omega)]; exact e), hP.2 3 (by omega), e3, n_add1]
  intro f
  induction f with
  | zero =>
    intro k S M h1 h2 h6 hS hP
    rw [Nat.zero_mul, Nat.add_zero] at h1
    exact stop k S M (by omega) (by omega) (by omega) hP
  | succ f ih =>
    intro k S M h1 h2 h6 hS hP
    by_cases hx : k < en ∧ r (4 + k) = 0
    · have eL : lnS r st en (f + 1) k S = lnS r st en f (k + st) (upB S k) := if_pos hx
      rw [eL]
      have h7 := cOf_up (S := S) (show k < 36 by omega) (hS k (Nat.le_refl k))
      obtain ⟨M1, a1, a2, a3⟩ := s_comesInto (d := d) (show 148 + 10 * k0 + 10 ≤ 268 by omega) (show k < 36 by omega) (hS k (Nat.le_refl k)) (by omega) hP
      rw [Nat.succ_mul] at h1
      have hst6 : st ≤ 6 := by
        rw [hst2]
        unfold lnST
        cases down with
        | true => exact h06
        | false => show 1 ≤ 6; omega
      obtain ⟨M', b1, b2, b3⟩ := ih (k + st) (upB S k) M1 (by omega) (by omega) (by omega) (fun x hx2 => by
        unfold upB
        rw [hS x (by omega), decide_eq_false (by omega), Bool.or_false]) a3
      refine ⟨M', e_M_readsLine_100 ?_, a2.trans b2, b3⟩
      rw [if_pos ((n_lt (by omega) (by omega)).mpr hx.1), n_add, if_pos ((n_zin (by omega)).mpr (by omega)), n_clamp (by omega), hP.2 _ (by omega), memR_low (by omega) (by omega), hx.2, if_pos rfl, a1, zC0_some]
      have e0 : memR r (148 + 10 * k0) (cOf (upB S k)) 0 = r 0 := memR_low (by omega) (by omega)
      cases down with
      | true =>
        rw [if_neg (by decide), a3.2 0 (by omega), e0, n_add]
        have : st = r 0 := hst2
        rw [← this]
        exact b1
      | false =>
        rw [if_pos (show nB false = nI 0 from rfl), n_add]
        have : st = 1 := hst2
        rw [show nI (k + 1) = nI (k + st) from by rw [this]]
        exact b1
    · have eL : lnS r st en (f + 1) k S = S := if_neg hx
      rw [eL]
      exact stop k S M hx (by omega) (by omega) hP
end MU
