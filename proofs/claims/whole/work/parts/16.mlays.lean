/-! THE MODEL, 5: ways laid; what is asked of ways -/
theorem tb_out {m x : Nat} (hm : m < 256) (hx : 8 ≤ x) : m.testBit x = false := Nat.testBit_lt_two_pow (Nat.lt_of_lt_of_le hm (show 2 ^ 8 ≤ 2 ^ x from Nat.pow_le_pow_right (by omega) hx))
theorem popc_small (m : Nat) (hm : m < 256) : popc m = (List.range 8).countP fun i => m.testBit i := by
  unfold popc
  rw [show List.range 32 = List.range 8 ++ (List.range' 8 24) from by decide, List.countP_append]
  have : (List.range' 8 24).countP (fun i => m.testBit i) = 0 := by
    rw [List.countP_eq_zero]
    intro x hx
    have := List.mem_range'_1.mp hx
    rw [tb_out hm (by omega)]
    simp
  rw [this, Nat.add_zero]
section MY
variable {d : Nat} {M : ZM} {b : Nat → Nat}
theorem s_lays_57 {k : Nat} {r : ZR} (hr : zC0 (zEv d zmM_goesOn [.ref 866, .int (nI k), .int (nI 0)] (wy0 256 M 875)) (fun M4 => if M4.1 866 7 = nI 0 then some (none, zpi M4 866 10 (nI 0)) else some (none, M4)) = some r) : ∀ j i, i + j = 256 → h_M_laysWays_57 d (nI k) (nI i) (wy0 i M 875) = some r := by
  intro j
  induction j with
  | zero =>
    intro i h
    refine e_M_laysWays_57 ?_
    obtain rfl : i = 256 := by omega
    rw [if_neg (by rw [n_lt (by omega) (by omega)]; omega)]
    exact hr
  | succ j ih =>
    intro i h
    refine e_M_laysWays_57 ?_
    rw [if_pos (by rw [n_lt (by omega) (by omega)]; omega), if_pos (by rw [n_zin (by omega)]; omega), n_clamp (by omega), n_add1]
    exact ih (i + 1) (by omega)
theorem s_lays_36 {k : Nat} {r : ZR} (hr : h_M_laysWays_57 d (nI k) (nI 0) (wy0 6 M 874) = some r) : ∀ j i, i + j = 6 → h_M_laysWays_36 d (nI k) (nI i) (wy0 i M 874) = some r := by
  intro j
  induction j with
  | zero =>
    intro i h
    refine e_M_laysWays_36 ?_
    obtain rfl : i = 6 := by omega
    rw [if_neg (by rw [n_lt (by omega) (by omega)]; omega)]
    exact hr
  | succ j ih =>
    intro i h
    refine e_M_laysWays_36 ?_
    rw [if_pos (by rw [n_lt (by omega) (by omega)]; omega), if_pos (by rw [n_zin (by omega)]; omega), n_clamp (by omega), n_add1]
    exact ih (i + 1) (by omega)
theorem s_lays_15 {k : Nat} {r : ZR} (hr : h_M_laysWays_36 d (nI k) (nI 0) (wy0 8 M 873) = some r) : ∀ j i, i + j = 8 → h_M_laysWays_15 d (nI k) (nI i) (wy0 i M 873) = some r := by
  intro j
  induction j with
  | zero =>
    intro i h
    refine e_M_laysWays_15 ?_
    obtain rfl : i = 8 := by omega
    rw [if_neg (by rw [n_lt (by omega) (by omega)]; omega)]
    exact hr
  | succ j ih =>
    intro i h
    refine e_M_laysWays_15 ?_
    rw [if_pos (by rw [n_lt (by omega) (by omega)]; omega), if_pos (by rw [n_zin (by omega)]; omega), n_clamp (by omega), n_add1]
    exact ih (i + 1) (by omega)
theorem allM_lt (hW : Wf b) : allM b < 256 := by
  unfold allM
  have : 2 ^ (b 2 + 1) ≤ 2 ^ 8 := Nat.pow_le_pow_right (by omega) (by have := hW.1.2.2.1; omega)
  omega
def mustD (b : Nat → Nat) (Wl : List (List Nat)) : Nat := bif Wl.isEmpty then 0 else msk 8 fun x => (allM b).testBit x && Wl.all fun w => w.contains x
def hasD (Wl : List (List Nat)) (x : Nat) : Nat := if x = 0 then 0 else Wl.countP fun w => w.contains x
def couldD (Wl : List (List Nat)) (i : Nat) : Nat := msk 8 fun x => Wl.any fun w => decide (i < w.length) && (w.getD i 0 == x)
/-- the fields, when all is laid -/
def WE (b : Nat → Nat) (M : ZM) (Wl : List (List Nat)) : Prop :=
  M.1 866 7 = nI Wl.length ∧ (∀ x, x < 8 → M.1 873 x = nI (hasD Wl x)) ∧ (∀ i, i < 6 → M.1 874 i = nI (couldD Wl i)) ∧ M.1 866 10 = nI (mustD b Wl) ∧ ∀ s, s < 256 → M.1 875 s = nB (Wl.any fun w => setOf w == s)
theorem ways_len (hW : Wf b) {k : Nat} (hk : k < b 3) : (ways b k).length ≤ 117649 := by
  have h6 := cgN_le hW hk
  have htop := hW.1.2.2.1
  have key : ∀ (ms pre : List Nat), (ext (b 2) (cgU b k) ms pre).length ≤ 7 ^ ms.length := by
    intro ms
    induction ms with
    | nil => intro pre; simp [ext]
    | cons m ms ih =>
      intro pre
      simp only [ext, List.length_flatMap]
      have : ∀ (l : List Nat) (f : Nat → Nat) (c : Nat), (∀ x ∈ l, f x ≤ c) → (l.map f).sum ≤ l.length * c := by
        intro l f c
        induction l with
        | nil => intro _; simp
        | cons x l ihl =>
          intro h
          have h1 := ihl fun y hy => h y (List.mem_cons_of_mem _ hy)
          have h2 := h x List.mem_cons_self
          rw [List.map_cons, List.sum_cons, List.length_cons, Nat.succ_mul]
          omega
      refine Nat.le_trans (this _ _ (7 ^ ms.length) fun x _ => ?_) ?_
      · split
        · exact ih _
        · simp
      · rw [List.length_range', List.length_cons, Nat.pow_succ, Nat.mul_comm (7 ^ ms.length) 7]
        exact Nat.mul_le_mul_right _ htop
  have h1 := key (cgM b k) []
  have h2 : (cgM b k).length = cgN b k := by unfold cgM; simp
  rw [h2] at h1
  have h3 : 7 ^ cgN b k ≤ 7 ^ 6 := Nat.pow_le_pow_right (by omega) h6
  unfold ways
  have h4 := List.length_filter_le (rgt b k) (ext (b 2) (cgU b k) (cgM b k) [])
  omega
theorem s_laysWays (hR : MR b M) (hW : Wf b) {k : Nat} (hk : k < b 3) : ∃ M', zEv (d + 11) zmM_laysWays [.ref 866, .int (nI k)] M = some (none, M') ∧ WE b M' (ways b k) ∧ frI (pW 0) M M' := by
  have h6 := cgN_le hW hk
  have hal := allM_lt hW
  obtain ⟨Ms, hMs⟩ : ∃ Ms, Ms = wy0 256 (wy0 6 (wy0 8 (zpi (zpi M 866 7 (nI 0)) 866 10 (nI (allM b))) 873) 874) 875 := ⟨_, rfl⟩
  have hread : ∀ a x, Ms.1 a x = if a = 875 ∧ x < 256 then nI 0 else if a = 874 ∧ x < 6 then nI 0 else if a = 873 ∧ x < 8 then nI 0 else if a = 866 ∧ x = 10 then nI (allM b) else if a = 866 ∧ x = 7 then nI 0 else M.1 a x := by
    intro a x
    rw [hMs, wy0_1, wy0_1, wy0_1, m_pi, m_pi]
  have f0 : frI (pW 0) M Ms := by
    refine ⟨fun a x h => ?_, fun a x _ => ?_⟩
    · rw [hread]
      unfold pW at h
      rw [if_neg (by omega), if_neg (by omega), if_neg (by omega), if_neg (by omega), if_neg (by omega)]
    · rw [hMs, wy0_2, wy0_2, wy0_2]
      rfl
  have hRs : MR b Ms := hR.frW f0
  have hS : WS b Ms [] := by
    refine ⟨?_, fun x hx => ?_, fun i hi => ?_, ?_, fun s hs => ?_⟩
    · rw [hread]; simp
    · rw [hread, if_neg (by omega), if_neg (by omega), if_pos (by omega)]
      simp
    · rw [hread, if_neg (by omega), if_pos (by omega)]
      congr 1
      apply Nat.eq_of_testBit_eq
      intro x
      rw [msk_bit]
      simp
    · rw [hread, if_neg (by omega), if_neg (by omega), if_neg (by omega), if_pos (by omega)]
      congr 1
      apply Nat.eq_of_testBit_eq
      intro x
      rw [msk_bit]
      by_cases h : x < 8
      · rw [decide_eq_true h]; simp
      · rw [tb_out hal (by omega)]
        simp
    · rw [hread, if_pos (by omega)]
      rfl
  obtain ⟨M1, h1, h2, h3⟩ := s_goesOn (d := d + 6 - cgN b k) hW hk (cgN b k) 0 [] Ms [] (by omega) rfl (fun _ z => by cases z) hRs (fun i hi => by cases hi) hS
  rw [show cgN b k + (d + 6 - cgN b k + 4) = d + 10 by omega] at h1
  rw [List.drop_zero, List.nil_append] at h2
  have hwl := ways_len hW hk
  have h2' : WS b M1 (ways b k) := h2
  obtain ⟨g1, g2, g3, g4, g5⟩ := h2'
  by_cases hz : (ways b k).length = 0
  · have hnil : ways b k = [] := List.length_eq_zero_iff.mp hz
    refine ⟨zpi M1 866 10 (nI 0), ?_, ?_, ?_⟩
    · refine e_M_laysWays ?_
      have := s_allMarks (d := d + 8) (hR.fr (M' := zpi M 866 7 (nI 0)) (p := pW 0) (q := fun _ _ => False) (fr.refl.pi (by unfold pW; omega)) fun k _ z => by unfold pW at z; omega) hW
      simp only [this, zC1_some]
      refine s_lays_15 (M := zpi (zpi M 866 7 (nI 0)) 866 10 (nI (allM b))) ?_ 8 0 (by omega)
      refine s_lays_36 (M := wy0 8 (zpi (zpi M 866 7 (nI 0)) 866 10 (nI (allM b))) 873) ?_ 6 0 (by omega)
      refine s_lays_57 (M := wy0 6 (wy0 8 (zpi (zpi M 866 7 (nI 0)) 866 10 (nI (allM b))) 873) 874) ?_ 256 0 (by omega)
      rw [← hMs, h1, zC0_some, g1, hz, if_pos rfl]
    · refine ⟨?_, fun x hx => ?_, fun i hi => ?_, ?_, fun s hs => ?_⟩
      · rw [m_pi, if_neg (by omega), g1]
      · rw [m_pi, if_neg (by omega), g2 x hx]; rfl
      · rw [m_pi, if_neg (by omega), g3 i hi]; rfl
      · rw [m_pi, if_pos (by omega), hnil]; rfl
      · rw [m_pi, if_neg (by omega), g5 s hs]
    · exact (f0.trans h3).pi (by unfold pW; omega)
  · refine ⟨M1, ?_, ?_, f0.trans h3⟩
    · refine e_M_laysWays ?_
      have := s_allMarks (d := d + 8) (hR.fr (M' := zpi M 866 7 (nI 0)) (p := pW 0) (q := fun _ _ => False) (fr.refl.pi (by unfold pW; omega)) fun k _ z => by unfold pW at z; omega) hW
      simp only [this, zC1_some]
      refine s_lays_15 (M := zpi (zpi M 866 7 (nI 0)) 866 10 (nI (allM b))) ?_ 8 0 (by omega)
      refine s_lays_36 (M := wy0 8 (zpi (zpi M 866 7 (nI 0)) 866 10 (nI (allM b))) 873) ?_ 6 0 (by omega)
      refine s_lays_57 (M := wy0 6 (wy0 8 (zpi (zpi M 866 7 (nI 0)) 866 10 (nI (allM b))) 873) 874) ?_ 256 0 (by omega)
      rw [← hMs, h1, zC0_some, g1, if_neg (by rw [n_eq (by omega) (by omega)]; exact hz)]
    · refine ⟨g1, g2, g3, ?_, g5⟩
      rw [g4]
      unfold mustD
      have : (ways b k).isEmpty = false := by
        cases hq : ways b k with
        | nil => rw [hq] at hz; exact absurd rfl hz
        | cons x l => rfl
      rw [this]
      rfl
end MY
