/-! THE CLASS, 12: totals, blocks, digits given are read -/
theorem isW_diff {tp : List Nat} {s : Nat} {w w' : List Nat} {i : Nat} (hi : i < w.length) (hi' : i < w'.length) (hne : w.getD i 0 ≠ w'.getD i 0) (h : isW tp s w = true) : isW tp s w' = false := by
  cases h' : isW tp s w' with
  | false => rfl
  | true =>
    exfalso
    unfold isW at h h'
    rw [Bool.and_eq_true, List.all_eq_true] at h h'
    have a := h.1 i (List.mem_range.mpr hi)
    have b := h'.1 i (List.mem_range.mpr hi')
    rw [Bool.and_eq_true] at a b
    have a2 := of_decide_eq_true a.2
    have b2 := of_decide_eq_true b.2
    exact hne (a2.symm.trans b2)
theorem wd_diffB : ∀ j, j < 17 → ∀ j', j' < 17 → 5 ≤ j → 5 ≤ j' → j ≠ j' → ((List.range 7).any fun i => (decide (i < (wd j).length) && decide (i < (wd j').length)) && decide ((wd j).getD i 0 ≠ (wd j').getD i 0)) = true := by decide +kernel
theorem wd_diff (j : Nat) (hj : j < 17) (j' : Nat) (hj' : j' < 17) (h5 : 5 ≤ j) (h5' : 5 ≤ j') (hne : j ≠ j') : ∃ i, i < 7 ∧ i < (wd j).length ∧ i < (wd j').length ∧ (wd j).getD i 0 ≠ (wd j').getD i 0 := by
  have h := wd_diffB j hj j' hj' h5 h5' hne
  rw [List.any_eq_true] at h
  obtain ⟨i, h1, h2⟩ := h
  rw [Bool.and_eq_true, Bool.and_eq_true] at h2
  exact ⟨i, List.mem_range.mp h1, of_decide_eq_true h2.1.1, of_decide_eq_true h2.1.2, of_decide_eq_true h2.2⟩
theorem isW_ne {tp : List Nat} {s j j' : Nat} (hj : j < 17) (hj' : j' < 17) (h5 : 5 ≤ j) (h5' : 5 ≤ j') (hne : j ≠ j') (h : isW tp s (wd j) = true) : isW tp s (wd j') = false := by
  obtain ⟨i, _, h1, h2, h3⟩ := wd_diff j hj j' hj' h5 h5' hne
  exact isW_diff h1 h2 h3 h
section QM
variable {d : Nat} {M : ZM} {tp : List Nat} {s e : Nat} {r : Nat → Nat}
theorem q_mostTotal (x : Int32) : ∃ v, zEv (d + 1) zmC_mostTotal [.int x] M = some (some (.int v), M) := by
  by_cases h0 : x = nI 0
  · exact ⟨nI 99, e_C_mostTotal (by rw [if_pos h0])⟩
  · by_cases h1 : x = nI 1
    · exact ⟨nI 999999, e_C_mostTotal (by rw [if_neg h0, if_pos h1])⟩
    · by_cases h2 : x = nI 2
      · exact ⟨nI 6, e_C_mostTotal (by rw [if_neg h0, if_neg h1, if_pos h2])⟩
      · exact ⟨nI 0, e_C_mostTotal (by rw [if_neg h0, if_neg h1, if_neg h2])⟩
theorem q_mostTotal_n {t : Nat} (ht : t < 3) : zEv (d + 1) zmC_mostTotal [.int (nI t)] M = some (some (.int (nI (mostT t))), M) := by
  refine e_C_mostTotal ?_
  rcases (show t = 0 ∨ t = 1 ∨ t = 2 by omega) with rfl | rfl | rfl <;> rfl
theorem q_rdT_80 (h : CK tp s r M) (hV : PV r) {t : Nat} (ht : t < 3) : ∃ M', h_T_readTotal_80 (d + 3) (zpi M 65 6 (nI t)) = some (none, M') ∧ frI pTd M M' ∧ CE tp (fun q => CK tp q.2.2 r M' ∧ M'.1 65 6 = nI q.1 ∧ M'.1 65 7 = nI q.2.1) M' (rdT1 tp t s) := by
  have h1 := h.up (k := 6) (v := nI t) hV (by omega)
  have e6 : (zpi M 65 6 (nI t)).1 65 6 = nI t := by rw [m_pi, if_pos ⟨rfl, rfl⟩]
  have f1 : frI pTd M (zpi M 65 6 (nI t)) := fr.refl.pi ⟨rfl, by omega⟩
  generalize zpi M 65 6 (nI t) = M1 at *
  obtain ⟨v, M2, a1, a2, a3⟩ := q_readNumber_k (d := d) h1 hV.1.2.2.2 hV.n36 (lo := 0) (hi := mostT t) (by omega) (mostT_lt t)
  have go : h_T_readTotal_80 (d + 3) M1 = some (none, zpi M2 65 7 v) := e_T_readTotal_80 (by rw [e6, q_mostTotal_n (d := d + 2) ht, zC1_some, a1, zC1_some])
  have e62 : M2.1 65 6 = nI t := (a2.1 65 6 (fun z => by unfold pTc at z; omega)).trans e6
  refine ⟨zpi M2 65 7 v, go, (f1.trans (frT_D a2)).pi ⟨rfl, by omega⟩, ?_⟩
  unfold rdT1
  cases hE : rdN tp s 0 (mostT t) with
  | error e1 => rw [hE] at a3; exact CF.up a3 (by omega)
  | ok q =>
    rw [hE] at a3
    have a3' : v = nI q.1 ∧ CK tp q.2 r M2 := a3
    exact ⟨a3'.2.up hV (by omega), by rw [m_pi, if_neg (by omega)]; exact e62, by rw [m_pi, if_pos ⟨rfl, rfl⟩]; exact a3'.1⟩
theorem q_rdT_80f (h : CF tp e M) : ∃ M', h_T_readTotal_80 (d + 3) M = some (none, M') ∧ frI pTd M M' ∧ CF tp e M' := by
  obtain ⟨w, hw⟩ := q_mostTotal (d := d + 2) (M := M) (M.1 65 6)
  obtain ⟨v, M2, a1, a2, a3⟩ := q_readNumber_f (d := d) h (nI 0) w
  exact ⟨zpi M2 65 7 v, e_T_readTotal_80 (by rw [hw, zC1_some, a1, zC1_some]), (frT_D a2).pi ⟨rfl, by omega⟩, a3.up (by omega)⟩
theorem q_readTotal (h : CK tp s r M) (hV : PV r) : ∃ M', zEv (d + 6) zmT_readTotal [.ref 65] M = some (none, M') ∧ frI pTd M M' ∧ CE tp (fun q => CK tp q.2.2 r M' ∧ M'.1 65 6 = nI q.1 ∧ M'.1 65 7 = nI q.2.1) M' (rdT tp s) := by
  have hs := h.1.2
  have h36 := hV.n36
  have h12 := hV.1.2.2.2
  have h0 := h.up (k := 7) (v := nI 0) hV (by omega)
  have e70 : (zpi M 65 7 (nI 0)).1 65 7 = nI 0 := by rw [m_pi, if_pos ⟨rfl, rfl⟩]
  have f0 : frI pTd M (zpi M 65 7 (nI 0)) := fr.refl.pi ⟨rfl, by omega⟩
  generalize hM0 : zpi M 65 7 (nI 0) = M0 at *
  unfold rdT
  obtain ⟨M1, a1, a2, a3⟩ := q_takeWord_k (d := d) h0 h12 h36 (j := 15) (by omega)
  cases e15 : isW tp s (wd 15) with
  | true =>
    rw [e15] at a1
    rw [tkW_t e15] at a3
    rw [isW_ne (j' := 7) (by omega) (by omega) (by omega) (by omega) (by omega) e15, if_neg (by simp), if_pos rfl]
    obtain ⟨M', c1, c2, c3⟩ := q_rdT_80 (d := d + 2) a3 hV (t := 0) (by omega)
    refine ⟨M', e_T_readTotal ?_, (f0.trans (frT_D a2)).trans c2, c3⟩
    rw [hM0, a1, zC1_some, if_neg (by decide)]
    exact c1
  | false =>
    rw [e15] at a1
    rw [tkW_f e15] at a3
    obtain ⟨M2, b1, b2, b3⟩ := q_takeWord_k (d := d) a3 h12 h36 (j := 13) (by omega)
    rw [isW_skp hs] at b1
    cases e13 : isW tp s (wd 13) with
    | true =>
      rw [e13] at b1
      rw [tkW_t (by rw [isW_skp hs]; exact e13), skp_skp hs] at b3
      rw [isW_ne (j' := 7) (by omega) (by omega) (by omega) (by omega) (by omega) e13, if_neg (by simp), if_neg (by simp), if_pos rfl]
      obtain ⟨M', c1, c2, c3⟩ := q_rdT_80 (d := d + 2) b3 hV (t := 1) (by omega)
      refine ⟨M', e_T_readTotal ?_, ((f0.trans (frT_D a2)).trans (frT_D b2)).trans c2, c3⟩
      rw [hM0, a1, zC1_some, if_pos (show nB false = nI 0 from rfl), b1, zC1_some, if_neg (by decide)]
      exact c1
    | false =>
      rw [e13] at b1
      rw [tkW_f (by rw [isW_skp hs]; exact e13), skp_skp hs] at b3
      obtain ⟨M3, c1, c2, c3⟩ := q_takeWord_k (d := d) b3 h12 h36 (j := 14) (by omega)
      rw [isW_skp hs] at c1
      cases e14 : isW tp s (wd 14) with
      | true =>
        rw [e14] at c1
        rw [tkW_t (by rw [isW_skp hs]; exact e14), skp_skp hs] at c3
        rw [isW_ne (j' := 7) (by omega) (by omega) (by omega) (by omega) (by omega) e14, if_neg (by simp), if_neg (by simp), if_neg (by simp), if_pos rfl]
        obtain ⟨M', p1, p2, p3⟩ := q_rdT_80 (d := d + 2) c3 hV (t := 2) (by omega)
        refine ⟨M', e_T_readTotal ?_, (((f0.trans (frT_D a2)).trans (frT_D b2)).trans (frT_D c2)).trans p2, p3⟩
        rw [hM0, a1, zC1_some, if_pos (show nB false = nI 0 from rfl), b1, zC1_some, if_pos (show nB false = nI 0 from rfl), c1, zC1_some, if_neg (by decide)]
        exact p1
      | false =>
        rw [e14] at c1
        rw [tkW_f (by rw [isW_skp hs]; exact e14), skp_skp hs] at c3
        obtain ⟨M4, p1, p2, p3⟩ := q_takeWord_k (d := d) c3 h12 h36 (j := 7) (by omega)
        rw [isW_skp hs] at p1
        have f4 := (((f0.trans (frT_D a2)).trans (frT_D b2)).trans (frT_D c2)).trans (frT_D p2)
        have e74 : M4.1 65 7 = nI 0 := by
          have nn : ∀ {M M' : ZM}, frI pTc M M' → M'.1 65 7 = M.1 65 7 := fun hf => hf.1 65 7 (fun z => by unfold pTc at z; omega)
          rw [nn p2, nn c2, nn b2, nn a2]
          exact e70
        cases e7 : isW tp s (wd 7) with
        | true =>
          rw [e7] at p1
          rw [tkW_t (by rw [isW_skp hs]; exact e7), skp_skp hs] at p3
          rw [if_pos rfl]
          refine ⟨zpi M4 65 6 (nI 3), e_T_readTotal ?_, f4.pi ⟨rfl, by omega⟩, p3.up hV (by omega), by rw [m_pi, if_pos ⟨rfl, rfl⟩], by rw [m_pi, if_neg (by omega)]; exact e74⟩
          rw [hM0, a1, zC1_some, if_pos (show nB false = nI 0 from rfl), b1, zC1_some, if_pos (show nB false = nI 0 from rfl), c1, zC1_some, if_pos (show nB false = nI 0 from rfl), p1, zC1_some, if_neg (by decide)]
        | false =>
          rw [e7] at p1
          rw [tkW_f (by rw [isW_skp hs]; exact e7), skp_skp hs] at p3
          rw [if_neg (by simp), if_neg (by simp), if_neg (by simp), if_neg (by simp)]
          have hle := skp_le hs
          have hl := p3.1.1.1.2
          obtain ⟨M5, q1, q2, q3⟩ := q_fail_k (d := d + 4) p3 (p := skp tp s) (k := 1) (by omega) (by omega)
          obtain ⟨M', k1, k2, k3⟩ := q_rdT_80f (d := d + 2) q2
          refine ⟨M', e_T_readTotal ?_, (f4.trans (frT_D q3)).trans k2, k3⟩
          rw [hM0, a1, zC1_some, if_pos (show nB false = nI 0 from rfl), b1, zC1_some, if_pos (show nB false = nI 0 from rfl), c1, zC1_some, if_pos (show nB false = nI 0 from rfl), p1, zC1_some, if_pos (show nB false = nI 0 from rfl), p3.2.1.1, q1, zC0_some]
          exact k1
theorem q_readTotal_f (h : CF tp e M) : ∃ M', zEv (d + 6) zmT_readTotal [.ref 65] M = some (none, M') ∧ frI pTd M M' ∧ CF tp e M' := by
  have h0 := h.up (k := 7) (v := nI 0) (by omega)
  have f0 : frI pTd M (zpi M 65 7 (nI 0)) := fr.refl.pi ⟨rfl, by omega⟩
  obtain ⟨M1, a1, a2, a3⟩ := q_takeWord_f (d := d) h0 (j := 15) (by omega)
  obtain ⟨M2, b1, b2, b3⟩ := q_takeWord_f (d := d) a3 (j := 13) (by omega)
  obtain ⟨M3, c1, c2, c3⟩ := q_takeWord_f (d := d) b3 (j := 14) (by omega)
  obtain ⟨M4, p1, p2, p3⟩ := q_takeWord_f (d := d) c3 (j := 7) (by omega)
  obtain ⟨M', k1, k2, k3⟩ := q_rdT_80f (d := d + 2) p3
  refine ⟨M', e_T_readTotal ?_, ((((f0.trans (frT_D a2)).trans (frT_D b2)).trans (frT_D c2)).trans (frT_D p2)).trans k2, k3⟩
  rw [a1, zC1_some, if_pos rfl, b1, zC1_some, if_pos rfl, c1, zC1_some, if_pos rfl, p1, zC1_some, if_pos rfl, q_fail_f (d := d + 4) p3, zC0_some]
  exact k1
/-- what the class leaves of a part: where more letters are no part's end, it fails at once -/
def CPt (tp : List Nat) (M' : ZM) : Except Nat (Nat × (Nat → Nat)) → Prop
  | .ok q => CK tp q.1 q.2 M' ∨ (CF tp (8 * skp tp q.1 + 1) M' ∧ skp tp q.1 < tp.length ∧ tq tp (skp tp q.1) ≠ 59)
  | .error e => CF tp e M'
def pTB : Nat → Nat → Prop := fun a k => (a = 65 ∧ 3 ≤ k) ∨ pBd 67 a k
theorem frD_B {M M' : ZM} (h : frI pTd M M') : fr pTB (pBd 67) M M' := h.mono (fun a k z => Or.inl z) (fun _ _ z => z.elim)
theorem fr67_B {M M' : ZM} (h : fr (pBd 67) (pBd 67) M M') : fr pTB (pBd 67) M M' := h.mono (fun a k z => Or.inr z) (fun _ _ z => z)
theorem cagesM_0 {b : Nat → Nat} {c : Nat} : cagesM b c = 0 ↔ (∀ k, k < b 3 → inC b k c = false) := by
  constructor
  · intro h k hk
    have : (cagesM b c).testBit k = (0 : Nat).testBit k := by rw [h]
    unfold cagesM at this
    rw [msk_bit, decide_eq_true hk, Bool.true_and, Nat.zero_testBit] at this
    exact this
  · intro h
    unfold cagesM
    rw [← msk0 (b 3)]
    exact msk_congr fun k hk => h k hk
theorem inK_iff {c : Nat} (hV : PV r) : inK r c = true ↔ cagesM (mkR r) c ≠ 0 := by
  have h36 := hV.n36
  have h12 := hV.1.2.2.2
  have e3 : mkR r 3 = r 3 := mkR_low h36 (by omega)
  have eN : ∀ k, cgN (mkR r) k = r (151 + 10 * k) := fun k => mkR_low h36 (by omega)
  have eC : ∀ k i, cgC (mkR r) k i = r (152 + 10 * k + i) := fun k i => mkR_low h36 (by omega)
  have key : inK r c = true ↔ ∃ k, k < r 3 ∧ inC (mkR r) k c = true := by
    unfold inK
    rw [List.any_eq_true]
    constructor
    · rintro ⟨k, h1, h2⟩
      rw [List.any_eq_true] at h2
      obtain ⟨i, h3, h4⟩ := h2
      exact ⟨k, List.mem_range.mp h1, inC_iff2.mpr ⟨i, by rw [eN]; exact List.mem_range.mp h3, by rw [eC]; exact of_decide_eq_true h4⟩⟩
    · rintro ⟨k, h1, h2⟩
      obtain ⟨i, h3, h4⟩ := inC_iff2.mp h2
      rw [eN] at h3
      rw [eC] at h4
      exact ⟨k, List.mem_range.mpr h1, List.any_eq_true.mpr ⟨i, List.mem_range.mpr h3, decide_eq_true h4⟩⟩
  rw [key]
  constructor
  · rintro ⟨k, h1, h2⟩ h0
    have := cagesM_0.mp h0 k (by rw [e3]; exact h1)
    rw [h2] at this
    cases this
  · intro h
    rcases Classical.em (∃ k, k < r 3 ∧ inC (mkR r) k c = true) with g | g
    · exact g
    · exact absurd (cagesM_0.mpr fun k hk => by
        cases hi : inC (mkR r) k c with
        | false => rfl
        | true => exact absurd ⟨k, by rw [← e3]; exact hk, hi⟩ g) h
end QM
