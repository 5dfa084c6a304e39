/-! THE CLASS, 39: settling -/
/-- cages that bind -/
def bdC (b : Nat → Nat) (k : Nat) : Bool := !(decide (b (148 + 10 * k) = 3) && !cgU b k)
def abM (b : Nat → Nat) : Nat := msk (b 3) (bdC b)
def bnM (b : Nat → Nat) (c : Nat) : Nat := msk (b 3) fun k => inC b k c && bdC b k
/-- the binding of each cell is laid out, rules are ready -/
def SBd (b : Nat → Nat) (M : ZM) : Prop := ∀ c, c < 36 → M.1 545 c = nI (bnM b c)
def SRl (b : Nat → Nat) (M : ZM) : Prop := ∀ k, k < b 3 → RCk b k (424 + 10 * k) M
/-- marks at a depth -/
def SRw (dp : Nat) (ms : Nat → Nat) (M : ZM) : Prop := ∀ c, c < 36 → M.1 (547 + dp) c = nI (ms c)
def pRw (dp : Nat) : Nat → Nat → Prop := fun a _ => a = 547 + dp
def pRl : Nat → Nat → Prop := fun a _ => 424 ≤ a ∧ a ≤ 543
def pRs : Nat → Nat → Prop := fun a k => ∃ j, j < 12 ∧ pWg (424 + 10 * j) a k
theorem msk_lt12 {b : Nat → Nat} (h : b 3 ≤ 12) (p : Nat → Bool) : msk (b 3) p < 4096 := Nat.lt_of_lt_of_le (msk_lt (b 3) p) (show 2 ^ b 3 ≤ 2 ^ 12 from Nat.pow_le_pow_right (by omega) h)
def muN (ms : Nat → Nat) : Nat := sumF (fun c => popc (ms c)) 36
theorem popc_sub {m m' : Nat} (h : ∀ x, m'.testBit x = true → m.testBit x = true) : popc m' ≤ popc m := by
  unfold popc
  exact List.countP_mono_left fun x _ hx => h x hx
theorem popc_sub_lt {m m' : Nat} (hm : m < 2 ^ 32) (h : ∀ x, m'.testBit x = true → m.testBit x = true) (hne : m' ≠ m) : popc m' < popc m := by
  obtain ⟨x, hx1, hx2⟩ : ∃ x, m.testBit x = true ∧ m'.testBit x = false := by
    by_cases hh : ∃ x, m.testBit x = true ∧ m'.testBit x = false
    · exact hh
    · exfalso
      apply hne
      apply Nat.eq_of_testBit_eq
      intro i
      cases h1 : m'.testBit i with
      | true => rw [h i h1]
      | false =>
        cases h2 : m.testBit i with
        | false => rfl
        | true => exact absurd ⟨i, h2, h1⟩ hh
  have hx32 : x < 32 := by
    have := Nat.ge_two_pow_of_testBit hx1
    exact (Nat.pow_lt_pow_iff_right (show 1 < 2 by omega)).mp (Nat.lt_of_le_of_lt this hm)
  have e : popc m = popc m' + (List.range 32).countP fun i => m.testBit i && !m'.testBit i := by
    unfold popc
    generalize List.range 32 = L
    induction L with
    | nil => rfl
    | cons a L ih =>
      rw [List.countP_cons, List.countP_cons, List.countP_cons, ih]
      cases h1 : m'.testBit a with
      | true => rw [h a h1]; simp; omega
      | false => cases m.testBit a <;> simp <;> omega
  have hp : 0 < (List.range 32).countP fun i => m.testBit i && !m'.testBit i := List.countP_pos_iff.mpr ⟨x, List.mem_range.mpr hx32, by rw [hx1, hx2]; rfl⟩
  omega
theorem mu_le {b ms ms' : Nat → Nat} (h : Le b ms' ms) : muN ms' ≤ muN ms := sumF_le fun c _ => popc_sub fun x hx => h.2 c x hx
theorem mu_lt {b ms ms' : Nat → Nat} (h : Le b ms' ms) (hM : MV b ms) (hb : b 2 ≤ 7) {c : Nat} (hc : c < 36) (hne : ms' c ≠ ms c) : muN ms' < muN ms := by
  have hm : ms c < 2 ^ 32 := Nat.lt_of_lt_of_le (hM c hc).1.1 (Nat.pow_le_pow_right (by omega) (by omega))
  exact sumF_lt (fun y _ => popc_sub fun x hx => h.2 y x hx) ⟨c, hc, popc_sub_lt hm (fun x hx => h.2 c x hx) hne⟩
theorem mv_lt {b ms : Nat → Nat} (hM : MV b ms) (hb : b 2 ≤ 7) {c : Nat} (hc : c < 36) : ms c < 256 := Nat.lt_of_lt_of_le (hM c hc).1.1 (show 2 ^ (b 2 + 1) ≤ 2 ^ 8 from Nat.pow_le_pow_right (by omega) (by omega))
theorem sumF_cnt7 {p : Nat → Bool} {f : Nat → Nat} (hf : ∀ c, f c ≤ 7) : ∀ n, sumF (fun c => if p c = true then f c else 0) n ≤ 7 * ((List.range n).filter p).length
  | 0 => Nat.le_refl 0
  | n + 1 => by
    have ih := sumF_cnt7 (p := p) hf n
    show sumF (fun c => if p c = true then f c else 0) n + (if p n = true then f n else 0) ≤ _
    rw [List.range_succ, List.filter_append, List.length_append]
    have := hf n
    by_cases h : p n = true
    · rw [if_pos h, List.filter_cons_of_pos (p := p) h, List.filter_nil, List.length_singleton]
      omega
    · rw [if_neg h, List.filter_cons_of_neg (p := p) h, List.filter_nil, List.length_nil]
      omega
theorem mu_112 {b ms : Nat → Nat} (hW : Wf b) (hM : MV b ms) : muN ms ≤ 112 := by
  have h16 := hW.2.2.2.2.1
  have h := sumF_cnt7 (p := isO b) (f := fun c => if c < 36 then popc (ms c) else 0) (fun c => by
    by_cases hc : c < 36
    · rw [if_pos hc]
      exact popc_7 _ (mv_lt hM hW.1.2.2.1 hc) (hM c hc).1.2
    · rw [if_neg hc]; omega) 36
  have e : muN ms = sumF (fun c => if isO b c = true then (if c < 36 then popc (ms c) else 0) else 0) 36 := by
    unfold muN
    refine sumF_congr fun c hc => ?_
    cases hO : isO b c with
    | true => rw [if_pos rfl, if_pos hc]
    | false => rw [if_neg (by simp), (hM c hc).2 hO]; decide +kernel
  rw [e]
  have e2 : ((List.range 36).filter (isO b)).length = openN b := rfl
  rw [e2] at h
  omega
section QS2
variable {d : Nat} {b : Nat → Nat} {q : Nat}
theorem RCk.fr {p p2 : Nat → Nat → Prop} {M M' : ZM} {k r : Nat} (h : RCk b k r M) (hf : fr p p2 M M') (h1 : ∀ a x, p a x → a < r ∨ r + 9 < a) (h2 : ∀ a x, r ≤ a → a ≤ r + 4 → (a = r → x ≤ 10) → ¬ p2 a x) : RCk b k r M' := by
  have e1 : ∀ a x, r ≤ a → a ≤ r + 9 → M'.1 a x = M.1 a x := fun a x u v => hf.1 a x fun w => by have := h1 a x w; omega
  have e2 : ∀ a x, r ≤ a → a ≤ r + 4 → (a = r → x ≤ 10) → M'.2 a x = M.2 a x := fun a x u v w => hf.2 a x (h2 a x u v w)
  obtain ⟨hF, hR⟩ := h
  refine ⟨?_, ?_⟩
  · unfold HF
    rw [e1 r 0 (by omega) (by omega), e1 r 1 (by omega) (by omega), e1 r 2 (by omega) (by omega), e1 r 3 (by omega) (by omega)]
    exact hF
  · unfold RRep
    rw [e1 r 3 (by omega) (by omega), e2 r 9 (by omega) (by omega) (by omega), e2 r 10 (by omega) (by omega) (by omega)]
    refine ⟨hR.1, hR.2.1, fun g g1 g7 => ?_⟩
    rw [e1 (r + 5) g (by omega) (by omega), e2 (r + 1) g (by omega) (by omega) (by omega), e2 (r + 2) g (by omega) (by omega) (by omega), e2 (r + 3) g (by omega) (by omega) (by omega), e2 (r + 4) g (by omega) (by omega) (by omega)]
    exact hR.2.2 g g1 g7
theorem SRl.fr {p : Nat → Nat → Prop} {M M' : ZM} (h : SRl b M) (h12 : b 3 ≤ 12) (hf : fr p pRs M M') (h1 : ∀ a x, p a x → a < 424 ∨ 543 < a) : SRl b M' := fun k hk => (h k hk).fr hf (fun a x z => by have := h1 a x z; omega) fun a x u v w z => by
  obtain ⟨j, hj, z⟩ := z
  unfold pWg at z
  omega
theorem pWg_rs {j : Nat} (hj : j < 12) {a x : Nat} (h : pWg (424 + 10 * j) a x) : pRs a x := ⟨j, hj, h⟩
theorem prs_B {a x : Nat} (h : pRs a x) : 424 ≤ a ∧ a ≤ 543 := by
  obtain ⟨j, hj, z⟩ := h
  unfold pWg at z
  omega
/-- after one cage's cells: the mask of those that are not settled has more, if a mark was struck -/
theorem q_settle_96 (hq : zkd q = (10, 0)) (hq2 : q + 18 < 126) (hW : Wf b) {dp : Nat} (hdp : dp < 17) {ms : Nat → Nat} (hM : MV b ms) {k r : Nat} (hk : k < b 3) : ∀ n i U (M : ZM), i + n = cgN b k → BRep b q M → SBd b M → SRw dp (stI b k ms i) M → RRep (cgD b k) (cgN b k) (424 + 10 * k) M → WgR (cgD b k) (fun i => ms (cgC b k i)) (cgN b k) (424 + 10 * k) M → U < 4096 → ∃ M' U', (∀ rr, h_S_settle_29 (d + 3) q (547 + dp) (nI U') (nI r) (nI (k + 1)) M' = some rr → h_S_settle_96 (d + 3) q (547 + dp) (nI U) (nI r) (nI k) (424 + 10 * k) (nI i) M = some rr) ∧ (SRw dp (stI b k ms (cgN b k)) M' ∧ U' < 4096) ∧ ((∀ j, U.testBit j = true → U'.testBit j = true) ∧ (∀ j, U'.testBit j = true → U.testBit j = true ∨ ((∃ i', i ≤ i' ∧ i' < cgN b k ∧ stI b k ms (cgN b k) (cgC b k i') ≠ ms (cgC b k i')) ∧ j ≠ k ∧ j < b 3)) ∧ ∀ j i', j < b 3 → j ≠ k → bdC b j = true → i ≤ i' → i' < cgN b k → inC b j (cgC b k i') = true → stI b k ms (cgN b k) (cgC b k i') ≠ ms (cgC b k i') → U'.testBit j = true) ∧ fr (pRw dp) (pWg (424 + 10 * k)) M M' := by
  have h12 := cg_12 hW hk
  have h6 := cgN_le hW hk
  have hb7 := hW.1.2.2.1
  have hrk := rsk_S.2 k h12
  rw [show 412 + 12 + 10 * k = 424 + 10 * k by omega] at hrk
  have zl := zl_4 (q := 546) (i := nI dp) (by decide +kernel) ((n_zin (by omega)).mpr hdp)
  rw [n_clamp (by omega), show 546 + 1 + dp = 547 + dp by omega] at zl
  intro n
  induction n with
  | zero =>
    intro i U M h hB hS hRw hR hG hU
    obtain rfl : i = cgN b k := by omega
    refine ⟨M, U, fun rr hrr => e_S_settle_96 hq zl hrk ?_, ⟨hRw, hU⟩, ⟨fun j hj => hj, fun j hj => Or.inl hj, fun j i' _ _ _ h1 h2 => by omega⟩, fr.refl⟩
    rw [if_pos ((n_zin (by omega)).mpr h12), n_clamp (by omega), (hB.2.2.2 k hk).1.2.1, if_neg (by rw [n_lt (by omega) (by omega)]; omega), n_add1]
    exact hrr
  | succ n ih =>
    intro i U M h hB hS hRw hR hG hU
    have hi : i < cgN b k := by omega
    have hc := cgC_lt hW hk hi
    have hO := (hW.2.2.2.2.2 k hk).2.2.1 i hi
    have hms : stI b k ms i (cgC b k i) = ms (cgC b k i) := stI_out fun j hj => cgC_ne hW hk (by omega) (by omega) (by omega)
    have hml := mv_lt hM hb7 hc
    have hfin : stI b k ms (cgN b k) (cgC b k i) = couldD (ways (rowM b ms) k) i := stI_in hW hk hi (Nat.le_refl _)
    have hcl : couldD (ways (rowM b ms) k) i < 256 := by
      rw [← hfin]
      exact mv_lt (stI_le hW hM hk (Nat.le_refl _)).2 hb7 hc
    obtain ⟨M1, a1, a2, a3, a4⟩ := q_digitsAt (d := d + 1) (m := ms (cgC b k i)) hrk (cgD_ok b k) hR hG hi hml
    have hW' := wf_rowM hW hM
    have hk' : k < rowM b ms 3 := by rw [rowM_ne (by omega)]; exact hk
    have hdc : dgM (cgD b k) (fun i => ms (cgC b k i)) (cgN b k) i (ms (cgC b k i)) = couldD (ways (rowM b ms) k) i := by
      have h1 := dcg_digits (cgD_ok (rowM b ms) k) hW' hk' (i := i) (by rw [rowM_N]; exact hi) (cgD_cg hW' hk')
      rw [rowM_D, rowM_N, rowM_M hW hk hi] at h1
      rw [← h1]
      unfold dgM
      refine msk_congr fun g _ => ?_
      have e1 : dgB (cgD b k) (fun i => ms (cgC b k i)) (cgN b k) i g = dgB (cgD b k) (cgMs (rowM b ms) k) (cgN b k) i g ∨ g = 0 ∨ (ms (cgC b k i)).testBit g = false := by
        by_cases hg0 : g = 0
        · exact Or.inr (Or.inl hg0)
        · cases hbt : (ms (cgC b k i)).testBit g with
          | false => exact Or.inr (Or.inr rfl)
          | true =>
            left
            have hg8 : g ≤ 7 := by
              have := mv_bit hM hc hbt
              omega
            have hwo : ∀ w : List Nat, w.length = cgN b k → (Wo (fun i => ms (cgC b k i)) 0 w ↔ Wo (cgMs (rowM b ms) k) 0 w) := fun w hw => by
              rw [wo_get, wo_get]
              constructor
              · intro hh j hj
                have := hh j hj
                rw [Nat.zero_add] at this ⊢
                rw [rowM_M hW hk (by omega)]
                exact this
              · intro hh j hj
                have := hh j hj
                rw [Nat.zero_add] at this ⊢
                rw [rowM_M hW hk (by omega)] at this
                exact this
            rw [Bool.eq_iff_iff, dgB_iff (cgD_ok b k) hi ⟨by omega, hg8⟩ hbt, dgB_iff (cgD_ok b k) hi ⟨by omega, hg8⟩ (by rw [rowM_M hW hk hi]; exact hbt)]
            constructor
            · rintro ⟨w, ⟨w1, w2, w3⟩, w4⟩
              exact ⟨w, ⟨w1, (hwo w w1).mp w2, w3⟩, w4⟩
            · rintro ⟨w, ⟨w1, w2, w3⟩, w4⟩
              exact ⟨w, ⟨w1, (hwo w w1).mpr w2, w3⟩, w4⟩
      rcases e1 with e | e | e
      · rw [e]
      · rw [e]; rfl
      · rw [e, Bool.false_and, Bool.false_and]
    rw [hdc] at a1
    have fLd : fr (pRw dp) (pWg (424 + 10 * k)) M M1 := a2.mono (fun _ _ z => z.elim) fun a x z => Or.inl z
    have hB1 := hB.fr fLd hW.1.2.2.2 (fun a x z => by unfold pRw at z; omega) fun a x z => by unfold pWg at z; omega
    have hRw1 : SRw dp (stI b k ms i) M1 := fun c hc => (a2.1 (547 + dp) c fun z => z).trans (hRw c hc)
    have hS1 : SBd b M1 := fun c hc => (a2.1 545 c fun z => z).trans (hS c hc)
    by_cases hsame : couldD (ways (rowM b ms) k) i = ms (cgC b k i)
    · have hst : stI b k ms (i + 1) = stI b k ms i := um_same (by rw [hms, hsame])
      obtain ⟨M', U', b1, b2, ⟨b3, b4, b5⟩, b6⟩ := ih (i + 1) U M1 (by omega) hB1 hS1 (by rw [hst]; exact hRw1) a3 a4 hU
      refine ⟨M', U', fun rr hrr => e_S_settle_96 hq zl hrk ?_, b2, ⟨b3, fun j hj => ?_, fun j i' u1 u2 u3 u4 u5 u6 u7 => ?_⟩, fLd.trans b6⟩
      · rw [if_pos ((n_zin (by omega)).mpr h12), n_clamp (by omega), (hB.2.2.2 k hk).1.2.1, if_pos ((n_lt (by omega) (by omega)).mpr hi), if_pos ((n_zin (by omega)).mpr (by omega)), n_clamp (by omega), zLr, (hB.2.2.2 k hk).2 i hi, if_pos ((n_zin (by omega)).mpr hc), n_clamp (by omega), hRw _ hc, hms, a1, zC1_some, hRw1 _ hc, hms, if_pos (by rw [hsame]), n_add1]
        exact b1 rr hrr
      · rcases b4 j hj with z | ⟨⟨i', z1, z2⟩, z3⟩
        · exact Or.inl z
        · exact Or.inr ⟨⟨i', by omega, z2⟩, z3⟩
      · by_cases e : i' = i
        · rw [e, hfin, hsame] at u7; exact absurd rfl u7
        · exact b5 j i' u1 u2 u3 (by omega) u5 u6 u7
    · have f2 : fr (pRw dp) (fun _ _ => False) M1 (zpi M1 (547 + dp) (cgC b k i) (nI (couldD (ways (rowM b ms) k) i))) := fr.refl.pi rfl
      have hkb : bnM b (cgC b k i) < 4096 := msk_lt12 hW.1.2.2.2 _
      have hor : nI U ||| (nI (bnM b (cgC b k i)) &&& (nI 1 <<< (nI k &&& 31) ^^^ (-1 : Int32))) = nI (U ||| (bnM b (cgC b k i) ^^^ (bnM b (cgC b k i) &&& 2 ^ k))) := by
        rw [n_one (by omega), n_clr, n_or]
      have hbit : ∀ j, (U ||| (bnM b (cgC b k i) ^^^ (bnM b (cgC b k i) &&& 2 ^ k))).testBit j = (U.testBit j || ((decide (j < b 3) && (inC b j (cgC b k i) && bdC b j)) && !decide (j = k))) := fun j => by
        rw [Nat.testBit_or, Nat.testBit_xor, Nat.testBit_and, Nat.testBit_two_pow]
        unfold bnM
        rw [msk_bit]
        congr 1
        by_cases e : j = k
        · rw [decide_eq_true e.symm, decide_eq_true e, Bool.and_true, Bool.not_true, Bool.and_false, Bool.xor_self]
        · rw [decide_eq_false (show ¬ k = j from fun z => e z.symm), decide_eq_false (show ¬ j = k from e), Bool.and_false, Bool.not_false, Bool.and_true, Bool.xor_false]
      have hUl : (U ||| (bnM b (cgC b k i) ^^^ (bnM b (cgC b k i) &&& 2 ^ k))) < 4096 := Nat.or_lt_two_pow (n := 12) hU (Nat.xor_lt_two_pow (n := 12) hkb (Nat.lt_of_le_of_lt Nat.and_le_left hkb))
      obtain ⟨M', U', b1, b2, ⟨b3, b4, b5⟩, b6⟩ := ih (i + 1) _ (zpi M1 (547 + dp) (cgC b k i) (nI (couldD (ways (rowM b ms) k) i))) (by omega) (hB1.fr f2 hW.1.2.2.2 (fun a x z => by unfold pRw at z; omega) fun a x z => z.elim) (fun c hc' => by rw [m_pi, if_neg (by omega)]; exact hS1 c hc') (fun c hc' => by
        rw [m_pi]
        show _ = nI (um (stI b k ms i) (cgC b k i) (couldD (ways (rowM b ms) k) i) c)
        by_cases e : c = cgC b k i
        · rw [if_pos ⟨rfl, e⟩, e, um_at]
        · rw [if_neg fun w => e w.2, um_ne e]
          exact hRw1 c hc') (rrep_fy a3 f2 fun a x z => by unfold pRw at z; omega) (wgr_fy a4 f2) hUl
      refine ⟨M', U', fun rr hrr => e_S_settle_96 hq zl hrk ?_, b2, ⟨fun j hj => b3 j (by rw [hbit, hj]; rfl), fun j hj => ?_, fun j i' u1 u2 u3 u4 u5 u6 u7 => ?_⟩, fLd.trans ((f2.mono (fun _ _ z => z) fun _ _ z => z.elim).trans b6)⟩
      · rw [if_pos ((n_zin (by omega)).mpr h12), n_clamp (by omega), (hB.2.2.2 k hk).1.2.1, if_pos ((n_lt (by omega) (by omega)).mpr hi), if_pos ((n_zin (by omega)).mpr (by omega)), n_clamp (by omega), zLr, (hB.2.2.2 k hk).2 i hi, if_pos ((n_zin (by omega)).mpr hc), n_clamp (by omega), hRw _ hc, hms, a1, zC1_some, hRw1 _ hc, hms, if_neg (by rw [n_eq (by omega) (by omega)]; exact hsame), zLr, m_pi, if_neg (by omega), hS1 _ hc, hor, n_add1]
        exact b1 rr hrr
      · rcases b4 j hj with z | ⟨⟨i', z1, z2⟩, z3⟩
        · rw [hbit, Bool.or_eq_true] at z
          rcases z with z | z
          · exact Or.inl z
          · rw [Bool.and_eq_true] at z
            exact Or.inr ⟨⟨i, Nat.le_refl _, hi, by rw [hfin]; exact hsame⟩, (fun e => by rw [decide_eq_true e] at z; cases z.2), by have z1 := z.1; rw [Bool.and_eq_true] at z1; exact of_decide_eq_true z1.1⟩
        · exact Or.inr ⟨⟨i', by omega, z2⟩, z3⟩
      · by_cases e : i' = i
        · refine b3 j ?_
          rw [e] at u6
          rw [hbit, decide_eq_true u1, u6, u3, decide_eq_false u2, Bool.not_false, Bool.and_true, Bool.and_true, Bool.and_true, Bool.or_true]
        · exact b5 j i' u1 u2 u3 (by omega) u5 u6 u7
end QS2
