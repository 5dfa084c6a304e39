/-! THE BEGINNING, 3: the cells made so far, in the heap -/
def zfW (w : List (Nat × Nat × Int)) (q k t : Nat) : Value := match t with
  | 0 => .int (match zwl w q k with | some z => Int32.ofInt z | none => 0)
  | 1 => .long 0
  | 2 => .int 0
  | _ => match zwl w q k with | some z => .ref z.toNat | none => .null
def zfsW (ad : Nat → Nat) (w : List (Nat × Nat × Int)) (q ci : Nat) : List Value := (List.range (zNf ci)).map fun k => zcv ad (zfW w q k ((zft ci).getD k 0))
def zeA (ad : Nat → Nat) (w : List (Nat × Nat × Int)) (q j : Nat) : Nat → Option Nat := if zrc j = 5 then fun i => some (ad (q + (zra j).2.1 + (zra j).2.2 * i)) else fun i => (zwl w q i).map fun z => ad z.toNat
def zeW (ad : Nat → Nat) (cA : Nat → ClassId) (w : List (Nat × Nat × Int)) (q : Nat) : va_E :=
  if (zkd q).1 = 1 then .inl (cA 1, (zkd q).2, .inl (fun _ => 0))
  else if (zkd q).1 = 2 then .inl (cA 2, (zkd q).2, .inr (.inl fun _ => 0))
  else if (zkd q).1 = 3 then .inl (cA 3, (zkd q).2, .inl (fun _ => 0))
  else if (zkd q).1 = 4 then .inl (cA 4, (zkd q).2, .inl (fun _ => 0))
  else if (zkd q).1 = 5 then .inl (cA (zrc (zkd q).2), (zra (zkd q).2).1, .inr (.inr (.inr (.inr (zeA ad w q (zkd q).2)))))
  else .inr ((zkd q).1 - 10, zfsW ad w q ((zkd q).1 - 10))
def zWb (ad : Nat → Nat) (cA : Nat → ClassId) (b : ZB) : va_W := (List.range b.1).map fun i => (ad (64 + i), zeW ad cA b.2 (64 + i))
def zcW (ad : Nat → Nat) (Bz : Nat) (cA : Nat → ClassId) (D : va_G) (b : ZB) (H : Heap) : Prop := va_P D zcls (zWb ad cA b) H ∧ H.size = Bz + b.1 ∧ ∀ q k, 64 + b.1 ≤ q → zwl b.2 q k = none
def zAd (ad : Nat → Nat) (Bz : Nat) : Prop := ∀ i, ad (64 + i) = Bz + i
/-- how many slots cells take -/
def zsz (q : Nat) : Nat := match zkd q with
  | (5, j) => (zra j).1
  | (k, n) => if k < 10 then n else zNf (k - 10)
def zss : Nat → Nat
  | 0 => 0
  | n + 1 => zss n + zsz (64 + n)
theorem zss_le : ∀ {a b : Nat}, a ≤ b → zss a ≤ zss b := by
  intro a b h
  induction b with
  | zero => rw [Nat.le_zero.mp h]; exact Nat.le_refl _
  | succ b ih =>
    by_cases e : a = b + 1
    · rw [e]; exact Nat.le_refl _
    · exact Nat.le_trans (ih (by omega)) (Nat.le_add_right _ _)
theorem znb {a b : Nat} (h : a ≠ b) : Nat.beq a b = false := by
  cases hb : Nat.beq a b with
  | false => rfl
  | true => exact absurd (Nat.eq_of_beq_eq_true hb) h
theorem zwl_ne {w : List (Nat × Nat × Int)} {q k a j : Nat} {z : Int} (h : a ≠ q) : zwl ((q, k, z) :: w) a j = zwl w a j := by
  show (bif Nat.beq q a && Nat.beq k j then some z else zwl w a j) = _
  rw [show Nat.beq q a = false from znb (Ne.symm h)]
  rfl
theorem zwl_nk {w : List (Nat × Nat × Int)} {q k j : Nat} {z : Int} (h : j ≠ k) : zwl ((q, k, z) :: w) q j = zwl w q j := by
  show (bif Nat.beq q q && Nat.beq k j then some z else zwl w q j) = _
  rw [show Nat.beq k j = false from znb (Ne.symm h), Bool.and_false]
  rfl
theorem zwl_eq {w : List (Nat × Nat × Int)} {q k : Nat} {z : Int} : zwl ((q, k, z) :: w) q k = some z := by
  show (bif Nat.beq q q && Nat.beq k k then some z else zwl w q k) = _
  rw [Nat.beq_refl, Nat.beq_refl]
  rfl
section QBW
variable {ad : Nat → Nat} {Bz : Nat} {cA : Nat → ClassId} {D : va_G} {b : ZB} {H : Heap} {s : State} {locs : List Loc}
theorem zb_D (h : zAd ad Bz) : va_D (zAf Bz) (zWb ad cA b) := by
  have hg : ∀ (k : Nat) (q : Nat × va_E), (zWb ad cA b)[k]? = some q → q.1 = Bz + k := by
    intro k q hk
    unfold zWb at hk
    rw [List.getElem?_map] at hk
    by_cases hl : k < b.1
    · rw [List.getElem?_range hl] at hk
      cases hk
      exact h k
    · rw [List.getElem?_eq_none (by simp; omega)] at hk
      cases hk
  refine ⟨fun i j p q hi hj e => ?_, fun k q hk => ?_⟩
  · have h1 := hg i p hi
    have h2 := hg j q hj
    omega
  · show Bz ≤ q.1
    rw [hg k q hk]
    exact Nat.le_add_right _ _
theorem zWb_at {k : Nat} (h : k < b.1) : (zWb ad cA b)[k]? = some (ad (64 + k), zeW ad cA b.2 (64 + k)) := by
  unfold zWb
  rw [List.getElem?_map, List.getElem?_range h]
  rfl
theorem zWb_get {q : Nat} (h : 64 ≤ q ∧ q < 64 + b.1) : (zWb ad cA b)[q - 64]? = some (ad q, zeW ad cA b.2 q) := by
  rw [zWb_at (by omega), show 64 + (q - 64) = q by omega]
theorem zeW_ne {w : List (Nat × Nat × Int)} {q k a : Nat} {z : Int} (h : a ≠ q) : zeW ad cA ((q, k, z) :: w) a = zeW ad cA w a := by
  unfold zeW zfsW zeA zfW
  simp only [zwl_ne h]
theorem zWb_set {n : Nat} {w : List (Nat × Nat × Int)} {q k : Nat} {z : Int} {e : va_E} (hq : 64 ≤ q ∧ q < 64 + n) (he : zeW ad cA ((q, k, z) :: w) q = e) : (zWb ad cA (n, w)).set (q - 64) (ad q, e) = zWb ad cA (n, (q, k, z) :: w) := by
  apply List.ext_getElem?
  intro i
  by_cases hi : i < n
  · by_cases h : i = q - 64
    · subst h
      rw [List.getElem?_set_self (by simp [zWb]; exact hi), zWb_at (b := (n, (q, k, z) :: w)) hi, show 64 + (q - 64) = q by omega, he]
    · rw [List.getElem?_set_ne (Ne.symm h), zWb_at (b := (n, w)) hi, zWb_at (b := (n, (q, k, z) :: w)) hi, zeW_ne (show 64 + i ≠ q by omega)]
  · rw [List.getElem?_eq_none (by simp [zWb]; omega), List.getElem?_eq_none (by simp [zWb]; omega)]
theorem zb_grow (hAd : zAd ad Bz) (hW : zcW ad Bz cA D b H) (hS : va_S (zAf Bz) s.heap H locs) {H1 : Heap} {N : Nat} (z1 : H1.size = H.size + N) (o1 : ∀ q, q < H.size → H1[q]? = H[q]?) (e1 : ∀ i, i < N → va_at D zcls (Bz + (b.1 + i), zeW ad cA b.2 (64 + (b.1 + i))) H1) : zcW ad Bz cA D (b.1 + N, b.2) H1 ∧ va_S (zAf Bz) s.heap H1 locs := by
  obtain ⟨h1, h2, h3⟩ := hW
  refine ⟨⟨fun k q hk => ?_, by rw [z1, h2]; show Bz + b.1 + N = Bz + (b.1 + N); omega, fun q k hq => h3 q k (by have : 64 + (b.1 + N) ≤ q := hq; omega)⟩, ⟨Nat.le_trans hS.1 (by omega), fun x g1 g2 => (o1 x (Nat.lt_of_lt_of_le g1 hS.1)).trans (hS.2.1 x g1 g2), hS.2.2⟩⟩
  have hl : k < b.1 + N := by
    have := (List.getElem?_eq_some_iff.mp hk).1
    simpa [zWb] using this
  rw [zWb_at (b := (b.1 + N, b.2)) hl] at hk
  cases hk
  by_cases hb : k < b.1
  · have g := h1 k _ (zWb_at hb)
    exact g.kept (o1 _ g.lt)
  · have g := e1 (k - b.1) (by omega)
    rw [show b.1 + (k - b.1) = k by omega] at g
    rw [← hAd k] at g
    exact g
/-- a number or a reference put -/
theorem zb_put {n : Nat} {w : List (Nat × Nat × Int)} {q k : Nat} {z : Int} {H1 : Heap} (hq : 64 ≤ q ∧ q < 64 + n) (hW : zcW ad Bz cA D (n, w) H) (hP : va_P D zcls (zWb ad cA (n, (q, k, z) :: w)) H1) (hz : H1.size = H.size) : zcW ad Bz cA D (n, (q, k, z) :: w) H1 := by
  refine ⟨hP, by rw [hz]; exact hW.2.1, fun a j ha => ?_⟩
  have ha : 64 + n ≤ a := ha
  show zwl ((q, k, z) :: w) a j = none
  rw [zwl_ne (by omega)]
  exact hW.2.2 a j ha
end QBW
section QBR
variable {ad : Nat → Nat} {cA : Nat → ClassId} {w : List (Nat × Nat × Int)} {q ci : Nat}
theorem zeW_1 (h : (zkd q).1 = 1) : zeW ad cA w q = .inl (cA 1, (zkd q).2, .inl (fun _ => 0)) := if_pos h
theorem zeW_2 (h : (zkd q).1 = 2) : zeW ad cA w q = .inl (cA 2, (zkd q).2, .inr (.inl fun _ => 0)) := by
  unfold zeW
  rw [h]
  rfl
theorem zeW_3 (h : (zkd q).1 = 3) : zeW ad cA w q = .inl (cA 3, (zkd q).2, .inl (fun _ => 0)) := by
  unfold zeW
  rw [h]
  rfl
theorem zeW_4 (h : (zkd q).1 = 4) : zeW ad cA w q = .inl (cA 4, (zkd q).2, .inl (fun _ => 0)) := by
  unfold zeW
  rw [h]
  rfl
theorem zeW_5 (h : (zkd q).1 = 5) : zeW ad cA w q = .inl (cA (zrc (zkd q).2), (zra (zkd q).2).1, .inr (.inr (.inr (.inr (zeA ad w q (zkd q).2))))) := by
  unfold zeW
  rw [h]
  rfl
theorem zeW_o (h : zkd q = (10 + ci, 0)) : zeW ad cA w q = .inr (ci, zfsW ad w q ci) := by
  unfold zeW
  have h1 : (zkd q).1 = 10 + ci := by rw [h]
  rw [if_neg (by omega), if_neg (by omega), if_neg (by omega), if_neg (by omega), if_neg (by omega), h1, show 10 + ci - 10 = ci by omega]
theorem zfsW_len : (zfsW ad w q ci).length = zNf ci := by simp [zfsW]
theorem zfsW_get {f t : Nat} (hf : f < zNf ci) (h : (zft ci)[f]? = some t) : (zfsW ad w q ci)[f]? = some (zcv ad (zfW w q f t)) := by
  unfold zfsW
  rw [List.getElem?_map, List.getElem?_range hf]
  simp only [Option.map_some, List.getD_eq_getElem?_getD, h, Option.getD_some]
theorem zfW_nk {k j t : Nat} {z : Int} (h : j ≠ k) : zfW ((q, k, z) :: w) q j t = zfW w q j t := by
  unfold zfW
  simp only [zwl_nk h]
theorem zfsW_set {f t : Nat} {z : Int} {v : Value} (hf : f < zNf ci) (h : (zft ci)[f]? = some t) (hv : zfW ((q, f, z) :: w) q f t = v) : zfsW ad ((q, f, z) :: w) q ci = (zfsW ad w q ci).set f (zcv ad v) := by
  apply List.ext_getElem?
  intro i
  unfold zfsW
  by_cases hi : i < zNf ci
  · by_cases e : i = f
    · subst e
      rw [List.getElem?_set_self (by simp; exact hi), List.getElem?_map, List.getElem?_range hi]
      simp only [Option.map_some, List.getD_eq_getElem?_getD, h, Option.getD_some]
      rw [hv]
    · rw [List.getElem?_set_ne (Ne.symm e), List.getElem?_map, List.getElem?_map, List.getElem?_range hi]
      simp only [Option.map_some]
      rw [zfW_nk e]
  · rw [List.getElem?_eq_none (by simp; omega), List.getElem?_eq_none (by simp; omega)]
theorem zft_ok : ∀ ci, ci < 11 → ∀ k, k < zNf ci → (zft ci)[k]? = some ((zft ci).getD k 0) := by decide +kernel
theorem zyr_ok : ∀ ci, ci < 11 → ∀ k, k < zNf ci → 3 ≤ (zft ci).getD k 0 → (zyy ci k).isReference = true := by decide +kernel
theorem ref_dv {ty : FieldType} (h : ty.isReference = true) : defaultValue ty = .null := by
  cases ty <;> first | rfl | cases h
theorem ref_nf {ty : FieldType} {a : Nat} (h : ty.isReference = true) : narrow ty (.ref a) = .ref a ∧ fits ty (.ref a) = true := by
  cases ty <;> first | exact ⟨rfl, rfl⟩ | cases h
/-- a new object's fields -/
theorem zfsW_new (hci : ci < 11) (hw : ∀ k, zwl w q k = none) {j : Nat} (hj : j < zNf ci) : defaultValue (zyy ci j) = vp_V (zfsW ad w q ci) j := by
  have h5 := zft_ok ci hci j hj
  have hy := zyt_ok ci hci j hj
  have hr := zyr_ok ci hci j hj
  unfold vp_V
  rw [List.getD_eq_getElem?_getD, zfsW_get hj h5, Option.getD_some]
  generalize (zft ci).getD j 0 = t at h5 hr
  unfold zfW
  rw [hw j]
  rcases (show t = 0 ∨ t = 1 ∨ t = 2 ∨ 3 ≤ t by omega) with rfl | rfl | rfl | h
  · rw [hy.1.1 h5]
    rfl
  · rw [hy.1.2 h5]
    rfl
  · rw [hy.2 h5]
    rfl
  · rw [ref_dv (hr h)]
    obtain ⟨t', rfl⟩ : ∃ t', t = t' + 3 := ⟨t - 3, by omega⟩
    rfl
end QBR
