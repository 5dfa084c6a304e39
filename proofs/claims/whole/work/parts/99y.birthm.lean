/-! THE BEGINNING, 8: the numbers at the beginning -/
theorem zweq_ok : ∀ {a b : List (Nat × Nat × Int)}, zweq a b = true → a = b := by
  intro a
  induction a with
  | nil =>
    intro b h
    cases b with
    | nil => rfl
    | cons x l => cases h
  | cons x l ih =>
    intro b h
    cases b with
    | nil => cases h
    | cons y r =>
      obtain ⟨x1, x2, x3⟩ := x
      obtain ⟨y1, y2, y3⟩ := y
      have h' : (Nat.beq x1 y1 && Nat.beq x2 y2 && decide (x3 = y3) && zweq l r) = true := h
      simp only [Bool.and_eq_true] at h'
      rw [Nat.eq_of_beq_eq_true h'.1.1.1, Nat.eq_of_beq_eq_true h'.1.1.2, of_decide_eq_true h'.1.2, ih h'.2]
theorem z_run : zbi (zbv 6) zmX_law 10 (0, [(0, .ref 0)], [], (0, [])) = some (18, [(0, .ref 0), (1, .ref 64), (2, .ref 866), (3, .int (nI 0))], [], (820, zwF)) := by
  have h := z_birth
  generalize zbi (zbv 6) zmX_law 10 (0, [(0, .ref 0)], [], (0, [])) = r at h
  split at h
  · rename_i pc ls st n w
    simp only [Bool.and_eq_true] at h
    obtain ⟨⟨⟨h1, h2⟩, h3⟩, h4⟩ := h
    split at h4
    · rename_i z
      rw [Nat.eq_of_beq_eq_true h1, Nat.eq_of_beq_eq_true h2, zweq_ok h3, of_decide_eq_true h4]
      rfl
    · cases h4
  · cases h
theorem zall_at {f : Nat → Bool} : ∀ {n : Nat}, zall f n = true → ∀ i, i < n → f i = true := by
  intro n
  induction n with
  | zero => intro _ i hi; omega
  | succ n ih =>
    intro h i hi
    have h' : (f n && zall f n) = true := h
    rw [Bool.and_eq_true] at h'
    by_cases e : i = n
    · rw [e]; exact h'.1
    · exact ih h'.2 i (by omega)
theorem zkd_in : ∀ n, n < 820 → ((zkd (64 + n)).1 = 1 ∨ (zkd (64 + n)).1 = 2 ∨ (zkd (64 + n)).1 = 3 ∨ (zkd (64 + n)).1 = 4) ∨ ((zkd (64 + n)).1 = 5 ∧ (zkd (64 + n)).2 < 7) ∨ (10 ≤ (zkd (64 + n)).1 ∧ (zkd (64 + n)).1 < 21 ∧ (zkd (64 + n)).2 = 0) := by decide +kernel
def zM0 (X : ZX) : ZM := (fun q k => if q = 0 then X.1 k else if q = 63 then X.2 k else if 10 ≤ (zkd q).1 then (match zwl zwF q k with | some z => Int32.ofInt z | none => 0) else 0, fun _ _ => 0)
section QBM
variable {X : ZX} {ad : Nat → Nat} {Bz : Nat} {cA : Nat → ClassId} {D : va_G} {H : Heap}
theorem zM0_arr {q : Nat} (h : 64 ≤ q) (hk : (zkd q).1 < 10) : (zM0 X).1 q = fun _ => 0 := by
  funext k
  show (if q = 0 then _ else if q = 63 then _ else if 10 ≤ (zkd q).1 then _ else (0 : Int32)) = 0
  rw [if_neg (by omega), if_neg (by omega), if_neg (by omega)]
theorem zM0_obj {q k : Nat} (h : 64 ≤ q) (hk : 10 ≤ (zkd q).1) : (zM0 X).1 q k = match zwl zwF q k with | some z => Int32.ofInt z | none => 0 := by
  show (if q = 0 then _ else if q = 63 then _ else if 10 ≤ (zkd q).1 then _ else (0 : Int32)) = _
  rw [if_neg (by omega), if_neg (by omega), if_pos hk]
theorem arrV_congr {c : ClassId} {n : Nat} {f g : Nat → Value} (h : ∀ j, j < n → f j = g j) : arrV c n f = arrV c n g := by
  unfold arrV
  congr 2
  funext j
  exact h j.val j.isLt
theorem zb_zWd (hAd : zAd ad Bz) (hW : zcW ad Bz cA D (820, zwF) H) : zWd ad Bz cA D X (zM0 X) H := by
  have hlen : ∀ k (q : Nat × va_E), (zWs ad cA (zM0 X))[k]? = some q → k < 820 ∧ q = (ad (64 + k), zE ad cA (zM0 X) (64 + k)) := by
    intro k q hk
    unfold zWs at hk
    rw [List.getElem?_map] at hk
    by_cases hl : k < 820
    · rw [List.getElem?_range (show k < zN - 64 from hl)] at hk
      simp only [Option.map_some, Option.some.injEq] at hk
      rw [Nat.add_comm k 64] at hk
      exact ⟨hl, hk.symm⟩
    · rw [List.getElem?_eq_none (by rw [List.length_range]; show 884 - 64 ≤ k; omega)] at hk
      cases hk
  refine ⟨fun k q hk => ?_, ⟨fun i j p q hi hj e => ?_, fun k q hk => ?_⟩, rfl, rfl⟩
  · obtain ⟨hl, rfl⟩ := hlen k q hk
    have g := hW.1 k _ (zWb_at (b := (820, zwF)) hl)
    dsimp only at g
    rcases zkd_in k hl with (h | h | h | h) | ⟨h, h7⟩ | ⟨h, h2, h3⟩
    · rw [zeW_1 h] at g
      rw [zE_1 h, zM0_arr (by omega) (by omega)]
      exact g
    · rw [zeW_2 h] at g
      rw [zE_2 h]
      exact g
    · rw [zeW_3 h] at g
      rw [zE_3 h, zM0_arr (by omega) (by omega)]
      exact g
    · rw [zeW_4 h] at g
      rw [zE_4 h, zM0_arr (by omega) (by omega)]
      exact g
    · rw [zeW_5 h] at g
      rw [zE_5 h]
      have g : H[ad (64 + k)]? = some (vp_cell (cA (zrc (zkd (64 + k)).2)) ((zra (zkd (64 + k)).2).1, .inr (.inr (.inr (.inr (zeA ad zwF (64 + k) (zkd (64 + k)).2)))))) := g
      show H[ad (64 + k)]? = some (vp_cell (cA (zrc (zkd (64 + k)).2)) _)
      rw [g, vp_cell_q, vp_cell_q]
      refine congrArg some (arrV_congr fun j hj => ?_)
      unfold zeA
      by_cases h5 : zrc (zkd (64 + k)).2 = 5
      · rw [if_pos h5]
      · rw [if_neg h5]
        have hg := zall_at z_good k hl
        try dsimp only at hg
        have ek : zkd (64 + k) = (5, (zkd (64 + k)).2) := by rw [← h]
        generalize (zkd (64 + k)).2 = jj at *
        rw [ek] at hg
        have hg : (bif Nat.beq (zrc jj) 5 then true else zgoodA zwF (64 + k) jj) = true := hg
        rw [znb h5] at hg
        have hi := zall_at hg j hj
        try dsimp only at hi
        split at hi
        · rename_i z hz
          have := of_decide_eq_true hi
          rw [hz, this]
          rfl
        · cases hi
    · obtain ⟨ci, hci⟩ : ∃ ci, (zkd (64 + k)).1 = 10 + ci := ⟨(zkd (64 + k)).1 - 10, by omega⟩
      have ek : zkd (64 + k) = (10 + ci, 0) := by
        rw [← hci, ← h3]
      have hc11 : ci < 11 := by omega
      rw [zeW_o ek] at g
      rw [zE_o ek]
      have el : zfsW ad zwF (64 + k) ci = zfs ad (zM0 X) (64 + k) ci := by
        unfold zfsW zfs
        refine List.map_congr_left fun f hf => ?_
        have hf := List.mem_range.mp hf
        have hg := zall_at z_good k hl
        try dsimp only at hg
        rw [ek] at hg
        have hne : 10 + ci ≠ 5 := by omega
        have hg : zgoodO zwF (64 + k) ci = true := by
          split at hg
          · rename_i j e
            have e1 : 10 + ci = 5 := congrArg Prod.fst e
            omega
          · rename_i a _ _ e
            have e1 : 10 + ci = a := congrArg Prod.fst e
            rw [← e1, show Nat.ble 10 (10 + ci) = true from Nat.ble_eq.mpr (by omega), show 10 + ci - 10 = ci by omega] at hg
            exact hg
        have hi := zall_at hg f hf
        try dsimp only at hi
        generalize (zft ci).getD f 0 = t at hi
        refine congrArg (zcv ad) ?_
        rcases (show t = 0 ∨ t = 1 ∨ t = 2 ∨ 3 ≤ t by omega) with rfl | rfl | rfl | ht
        · show Value.int _ = Value.int ((zM0 X).1 (64 + k) f)
          rw [zM0_obj (by omega) h]
          rfl
        · rfl
        · show Value.int 0 = Value.int ((zM0 X).1 (64 + k) f)
          rw [zM0_obj (by omega) h]
          try dsimp only at hi
          split at hi
          · rename_i hz
            rw [hz]
          · cases hi
        · obtain ⟨t', rfl⟩ : ∃ t', t = t' + 3 := ⟨t - 3, by omega⟩
          try dsimp only at hi
          show (match zwl zwF (64 + k) f with | some z => Value.ref z.toNat | none => .null) = Value.ref (64 + k + t')
          split at hi
          · rename_i z hz
            rw [hz, of_decide_eq_true hi]
            rfl
          · cases hi
      rw [el] at g
      exact g
  · obtain ⟨_, rfl⟩ := hlen i p hi
    obtain ⟨_, rfl⟩ := hlen j q hj
    dsimp only at e
    rw [hAd, hAd] at e
    omega
  · obtain ⟨_, rfl⟩ := hlen k q hk
    show Bz ≤ ad (64 + k)
    rw [hAd]
    exact Nat.le_add_right _ _
end QBM
