/-! THE CLASS, 37: what a search seeks -/
/-- a row with other marks -/
def rowM (b ms : Nat → Nat) : Nat → Nat := fun k => if 112 ≤ k ∧ k < 148 then ms (k - 112) else b k
def um (ms : Nat → Nat) (c v : Nat) : Nat → Nat := fun y => if y = c then v else ms y
theorem rowM_ne {b ms : Nat → Nat} {k : Nat} (h : k < 112 ∨ 148 ≤ k) : rowM b ms k = b k := if_neg (by omega)
theorem rowM_at {b ms : Nat → Nat} {c : Nat} (h : c < 36) : rowM b ms (112 + c) = ms c := by
  unfold rowM
  rw [if_pos (by omega), Nat.add_sub_cancel_left]
theorem rowM_self {b : Nat → Nat} : rowM b (fun c => b (112 + c)) = b := funext fun k => by
  by_cases h : k < 112 ∨ 148 ≤ k
  · exact rowM_ne h
  · have := rowM_at (b := b) (ms := fun c => b (112 + c)) (c := k - 112) (by omega)
    rw [show 112 + (k - 112) = k by omega] at this
    exact this
theorem rowM_O {b ms : Nat → Nat} (hN : b 0 * b 1 ≤ 36) : isO (rowM b ms) = isO b := funext fun x => by
  unfold isO
  rw [rowM_ne (by omega), rowM_ne (by omega)]
  by_cases h : x < b 0 * b 1
  · rw [rowM_ne (by omega)]
  · rw [decide_eq_false h, Bool.false_and, Bool.false_and]
theorem rowM_N {b ms : Nat → Nat} : cgN (rowM b ms) = cgN b := funext fun k => rowM_ne (by omega)
theorem rowM_C {b ms : Nat → Nat} : cgC (rowM b ms) = cgC b := funext fun k => funext fun i => rowM_ne (by omega)
theorem rowM_U {b ms : Nat → Nat} : cgU (rowM b ms) = cgU b := funext fun k => by unfold cgU; rw [rowM_ne (by omega)]
theorem rowM_D {b ms : Nat → Nat} : cgD (rowM b ms) = cgD b := funext fun k => by
  unfold cgD
  rw [rowM_ne (by omega), rowM_ne (by omega), rowM_U, rowM_N]
theorem rowM_M {b ms : Nat → Nat} (hW : Wf b) {k i : Nat} (hk : k < b 3) (hi : i < cgN b k) : cgMs (rowM b ms) k i = ms (cgC b k i) := by
  unfold cgMs
  rw [rowM_C, rowM_at (cgC_lt hW hk hi)]
/-- marks that a board may have -/
def MV (b ms : Nat → Nat) : Prop := ∀ c, c < 36 → (ms c < 2 ^ (b 2 + 1) ∧ (ms c).testBit 0 = false) ∧ (isO b c = false → ms c = 0)
theorem wf_rowM {b ms : Nat → Nat} (hW : Wf b) (hM : MV b ms) : Wf (rowM b fun c => ms c) := by
  have e0 : ∀ k, k < 112 ∨ 148 ≤ k → rowM b (fun c => ms c) k = b k := fun k h => rowM_ne h
  have eO : isO (rowM b fun c => ms c) = isO b := rowM_O hW.n36
  have eU : openN (rowM b fun c => ms c) = openN b := by unfold openN; rw [eO]
  refine ⟨?_, ?_, ?_, fun c hc => ?_, ?_, fun k hk => ?_⟩
  · rw [e0 0 (by omega), e0 1 (by omega), e0 2 (by omega), e0 3 (by omega)]; exact hW.1
  · rw [e0 0 (by omega), e0 1 (by omega), e0 2 (by omega), e0 3 (by omega)]; exact hW.2.1
  · rw [e0 0 (by omega), e0 1 (by omega), e0 2 (by omega)]; exact hW.2.2.1
  · have h := hW.2.2.2.1 c hc
    have hm := hM c hc
    unfold WfC
    rw [e0 (4 + c) (by omega), e0 (76 + c) (by omega), e0 (40 + c) (by omega), e0 2 (by omega), eO, rowM_at hc]
    exact ⟨h.1, ⟨h.2.1.1, hm.1.1, hm.1.2⟩, fun z => ⟨hm.2 z, (h.2.2 z).2⟩⟩
  · rw [eU]; exact hW.2.2.2.2.1
  · rw [e0 3 (by omega)] at hk
    have h := hW.2.2.2.2.2 k hk
    unfold WfG
    rw [e0 (148 + 10 * k) (by omega), e0 (149 + 10 * k) (by omega), e0 (150 + 10 * k) (by omega), rowM_N, rowM_C, eO]
    exact h
/-- all choices of digits by these marks, cell by cell, the least first -/
def enF (b : Nat → Nat) : Nat → (Nat → Nat) → Nat → List (Nat → Nat)
  | 0, ms, _ => [ms]
  | n + 1, ms, c => if isO b c = true then (List.range' 1 7).flatMap fun x => if (ms c).testBit x then enF b n (um ms c (2 ^ x)) (c + 1) else [] else enF b n ms (c + 1)
def okA (b g : Nat → Nat) : Bool := (List.range (b 3)).all fun k => hasW (rowM b g) k
def SL (b ms : Nat → Nat) : List (Nat → Nat) := (enF b (b 0 * b 1) ms 0).filter (okA b)
theorem um_same {ms : Nat → Nat} {c v : Nat} (h : ms c = v) : um ms c v = ms := funext fun y => by
  unfold um
  by_cases e : y = c
  · rw [if_pos e, e, h]
  · rw [if_neg e]
theorem um_upd {ms : Nat → Nat} {c v w : Nat} : um (um ms c v) c w = um ms c w := funext fun y => by
  unfold um
  by_cases e : y = c
  · rw [if_pos e, if_pos e]
  · rw [if_neg e, if_neg e, if_neg e]
theorem um_at {ms : Nat → Nat} {c v : Nat} : um ms c v c = v := if_pos rfl
theorem um_ne {ms : Nat → Nat} {c v y : Nat} (h : y ≠ c) : um ms c v y = ms y := if_neg h
/-- who is in it -/
theorem enF_mem {b : Nat → Nat} : ∀ (n c : Nat) (ms g : Nat → Nat), g ∈ enF b n ms c ↔ (∀ y, ¬ ((c ≤ y ∧ y < c + n) ∧ isO b y = true) → g y = ms y) ∧ ∀ y, c ≤ y → y < c + n → isO b y = true → ∃ x, (1 ≤ x ∧ x ≤ 7) ∧ (ms y).testBit x = true ∧ g y = 2 ^ x
  | 0, c, ms, g => by
    show g ∈ [ms] ↔ _
    rw [List.mem_singleton]
    constructor
    · rintro rfl
      exact ⟨fun _ _ => rfl, fun y h1 h2 => by omega⟩
    · rintro ⟨h, -⟩
      exact funext fun y => h y (by omega)
  | n + 1, c, ms, g => by
    unfold enF
    by_cases hO : isO b c = true
    · rw [if_pos hO, List.mem_flatMap]
      constructor
      · rintro ⟨x, hx, hg⟩
        have hx2 := List.mem_range'_1.mp hx
        by_cases hb : (ms c).testBit x = true
        · rw [if_pos hb] at hg
          obtain ⟨h1, h2⟩ := (enF_mem n (c + 1) _ g).mp hg
          refine ⟨fun y hy => ?_, fun y u1 u2 u3 => ?_⟩
          · have hyc : y ≠ c := fun e => hy ⟨by omega, e ▸ hO⟩
            rw [h1 y fun w => hy ⟨by omega, w.2⟩, um_ne hyc]
          · by_cases e : y = c
            · rw [e]
              exact ⟨x, by omega, hb, by rw [h1 c (by omega), um_at]⟩
            · obtain ⟨x', v1, v2, v3⟩ := h2 y (by omega) (by omega) u3
              rw [um_ne e] at v2
              exact ⟨x', v1, v2, v3⟩
        · rw [if_neg hb] at hg; cases hg
      · rintro ⟨h1, h2⟩
        obtain ⟨x, v1, v2, v3⟩ := h2 c (by omega) (by omega) hO
        refine ⟨x, List.mem_range'_1.mpr (by omega), ?_⟩
        rw [if_pos v2]
        refine (enF_mem n (c + 1) _ g).mpr ⟨fun y hy => ?_, fun y u1 u2 u3 => ?_⟩
        · by_cases e : y = c
          · rw [e, um_at, v3]
          · rw [um_ne e]
            exact h1 y fun w => hy ⟨by omega, w.2⟩
        · rw [um_ne (by omega)]
          exact h2 y (by omega) (by omega) u3
    · rw [if_neg hO]
      rw [enF_mem n (c + 1) ms g]
      constructor
      · rintro ⟨h1, h2⟩
        refine ⟨fun y hy => h1 y fun w => hy ⟨by omega, w.2⟩, fun y u1 u2 u3 => ?_⟩
        by_cases e : y = c
        · rw [e] at u3; exact absurd u3 hO
        · exact h2 y (by omega) (by omega) u3
      · rintro ⟨h1, h2⟩
        refine ⟨fun y hy => h1 y fun w => ?_, fun y u1 u2 u3 => h2 y (by omega) (by omega) u3⟩
        by_cases e : y = c
        · rw [e] at w; exact hO w.2
        · exact hy ⟨by omega, w.2⟩
/-- its digits are these marks -/
def sub' (b ms : Nat → Nat) (c n : Nat) (g : Nat → Nat) : Bool := (List.range' c n).all fun y => !isO b y || (ms y).testBit (lst (g y))
theorem sub_iff {b ms g : Nat → Nat} {c n : Nat} : sub' b ms c n g = true ↔ ∀ y, c ≤ y → y < c + n → isO b y = true → (ms y).testBit (lst (g y)) = true := by
  unfold sub'
  rw [List.all_eq_true]
  constructor
  · intro h y h1 h2 h3
    have := h y (List.mem_range'_1.mpr ⟨h1, h2⟩)
    rw [h3] at this
    exact this
  · intro h y hy
    have hy := List.mem_range'_1.mp hy
    cases hO : isO b y with
    | false => rfl
    | true => exact h y hy.1 hy.2 hO
theorem enF_sub {b : Nat → Nat} : ∀ (n c : Nat) (ms ms' : Nat → Nat), (∀ y, ¬ ((c ≤ y ∧ y < c + n) ∧ isO b y = true) → ms' y = ms y) → (∀ y x, (ms' y).testBit x = true → (ms y).testBit x = true) → enF b n ms' c = (enF b n ms c).filter (sub' b ms' c n)
  | 0, c, ms, ms', h1, _ => by
    have : ms' = ms := funext fun y => h1 y (by omega)
    rw [this]
    rfl
  | n + 1, c, ms, ms', h1, h2 => by
    unfold enF
    by_cases hO : isO b c = true
    · rw [if_pos hO, if_pos hO, List.filter_flatMap]
      refine flatMap_congr2 fun x hx => ?_
      have hx2 := List.mem_range'_1.mp hx
      by_cases hb : (ms c).testBit x = true
      · rw [if_pos hb]
        have hu1 : ∀ y, ¬ ((c + 1 ≤ y ∧ y < c + 1 + n) ∧ isO b y = true) → um ms' c (2 ^ x) y = um ms c (2 ^ x) y := fun y hy => by
          by_cases e : y = c
          · rw [e, um_at, um_at]
          · rw [um_ne e, um_ne e]
            exact h1 y fun w => hy ⟨by omega, w.2⟩
        have hu2 : ∀ y z, (um ms' c (2 ^ x) y).testBit z = true → (um ms c (2 ^ x) y).testBit z = true := fun y z hz => by
          by_cases e : y = c
          · rw [e, um_at] at hz ⊢; exact hz
          · rw [um_ne e] at hz ⊢; exact h2 y z hz
        have hat : ∀ g ∈ enF b n (um ms c (2 ^ x)) (c + 1), sub' b ms' c (n + 1) g = ((ms' c).testBit x && sub' b (um ms' c (2 ^ x)) (c + 1) n g) := fun g hg => by
          have hgc : g c = 2 ^ x := by
            rw [((enF_mem n (c + 1) _ g).mp hg).1 c (by omega), um_at]
          rw [Bool.eq_iff_iff, Bool.and_eq_true, sub_iff, sub_iff]
          constructor
          · intro h
            refine ⟨by have := h c (by omega) (by omega) hO; rw [hgc, lst_pow x (by omega) (by omega)] at this; exact this, fun y u1 u2 u3 => ?_⟩
            rw [um_ne (by omega)]
            exact h y (by omega) (by omega) u3
          · rintro ⟨h3, h4⟩ y u1 u2 u3
            by_cases e : y = c
            · rw [e, hgc, lst_pow x (by omega) (by omega)]; exact h3
            · have := h4 y (by omega) (by omega) u3
              rw [um_ne e] at this
              exact this
        by_cases hb' : (ms' c).testBit x = true
        · rw [if_pos hb', enF_sub n (c + 1) (um ms c (2 ^ x)) (um ms' c (2 ^ x)) hu1 hu2]
          refine (List.filter_congr fun g hg => ?_).symm
          rw [hat g hg, hb', Bool.true_and]
        · rw [if_neg hb']
          symm
          rw [List.filter_eq_nil_iff]
          intro g hg h
          rw [hat g hg] at h
          rw [Bool.not_eq_true] at hb'
          rw [hb'] at h
          cases h
      · rw [if_neg hb, if_neg fun w => hb (h2 c x w)]
        rfl
    · rw [if_neg hO, if_neg hO, enF_sub n (c + 1) ms ms' (fun y hy => ?_) h2]
      · refine List.filter_congr fun g _ => ?_
        rw [Bool.eq_iff_iff, sub_iff, sub_iff]
        constructor
        · intro h y u1 u2 u3
          by_cases e : y = c
          · rw [e] at u3; exact absurd u3 hO
          · exact h y (by omega) (by omega) u3
        · intro h y u1 u2 u3
          exact h y (by omega) (by omega) u3
      · refine h1 y fun w => ?_
        by_cases e : y = c
        · rw [e] at w; exact hO w.2
        · exact hy ⟨by omega, w.2⟩
/-- fewer marks -/
def Le (b ms' ms : Nat → Nat) : Prop := (∀ y, isO b y = false → ms' y = ms y) ∧ ∀ y x, (ms' y).testBit x = true → (ms y).testBit x = true
theorem Le.refl {b ms : Nat → Nat} : Le b ms ms := ⟨fun _ _ => rfl, fun _ _ h => h⟩
theorem Le.trans {b m1 m2 m3 : Nat → Nat} (h1 : Le b m1 m2) (h2 : Le b m2 m3) : Le b m1 m3 := ⟨fun y hy => (h1.1 y hy).trans (h2.1 y hy), fun y x h => h2.2 y x (h1.2 y x h)⟩
theorem sl_sub {b ms ms' : Nat → Nat} (h : Le b ms' ms) : SL b ms' = (SL b ms).filter (sub' b ms' 0 (b 0 * b 1)) := by
  unfold SL
  rw [enF_sub (b 0 * b 1) 0 ms ms' (fun y hy => h.1 y (by
    cases hO : isO b y with
    | false => rfl
    | true => exact absurd ⟨⟨Nat.zero_le y, by have := isO_cell hO; omega⟩, hO⟩ hy)) h.2, List.filter_filter, List.filter_filter]
  exact List.filter_congr fun g _ => Bool.and_comm _ _
theorem sl_same {b ms ms' : Nat → Nat} (h : Le b ms' ms) (hg : ∀ g ∈ SL b ms, sub' b ms' 0 (b 0 * b 1) g = true) : SL b ms' = SL b ms := by
  rw [sl_sub h, List.filter_eq_self]
  exact hg
theorem sl_mem {b ms g : Nat → Nat} : g ∈ SL b ms ↔ ((∀ y, isO b y = false → g y = ms y) ∧ ∀ y, isO b y = true → ∃ x, (1 ≤ x ∧ x ≤ 7) ∧ (ms y).testBit x = true ∧ g y = 2 ^ x) ∧ ∀ k, k < b 3 → hasW (rowM b g) k = true := by
  unfold SL okA
  rw [List.mem_filter, enF_mem, List.all_eq_true]
  constructor
  · rintro ⟨⟨h1, h2⟩, h3⟩
    refine ⟨⟨fun y hy => h1 y fun w => ?_, fun y hy => h2 y (by omega) ?_ hy⟩, fun k hk => h3 k (List.mem_range.mpr hk)⟩
    · rw [w.2] at hy; cases hy
    · have := isO_cell hy; omega
  · rintro ⟨⟨h1, h2⟩, h3⟩
    refine ⟨⟨fun y hy => h1 y ?_, fun y _ _ hy => h2 y hy⟩, fun k hk => h3 k (List.mem_range.mp hk)⟩
    cases hO : isO b y with
    | false => rfl
    | true => exact absurd ⟨⟨Nat.zero_le y, by have := isO_cell hO; omega⟩, hO⟩ hy
/-- digit by digit in a cell, when those before it are sure -/
theorem flat_one {α : Type} {f : Nat → List α} {x : Nat} (hx : 1 ≤ x ∧ x ≤ 7) : ((List.range' 1 7).flatMap fun y => if (2 ^ x).testBit y then f y else []) = f x := by
  have hsp : List.range' 1 7 = List.range' 1 (x - 1) ++ (x :: List.range' (x + 1) (7 - x)) := by
    have h1 : List.range' x (7 - x + 1) = x :: List.range' (x + 1) (7 - x) := List.range'_succ
    rw [← h1]
    have h2 := List.range'_append_1 (s := 1) (m := x - 1) (n := 7 - x + 1)
    rw [show 1 + (x - 1) = x by omega, show x - 1 + (7 - x + 1) = 7 by omega] at h2
    exact h2.symm
  have hne : ∀ y, y ≠ x → (2 ^ x).testBit y = false := fun y hy => by
    rw [Nat.testBit_two_pow]
    exact decide_eq_false fun e => hy e.symm
  rw [hsp, List.flatMap_append, List.flatMap_cons, flatMap_nil2 fun y hy => by
    have := List.mem_range'_1.mp hy
    rw [hne y (by omega)]; rfl, flatMap_nil2 (l := List.range' (x + 1) (7 - x)) fun y hy => by
    have := List.mem_range'_1.mp hy
    rw [hne y (by omega)]; rfl, List.nil_append, List.append_nil, Nat.testBit_two_pow, decide_eq_true rfl]
  rfl
theorem enF_split {b : Nat → Nat} {c : Nat} (hO : isO b c = true) : ∀ (n c0 : Nat) (ms : Nat → Nat), c0 ≤ c → c < c0 + n → (∀ y, c0 ≤ y → y < c → isO b y = true → ∃ x, (1 ≤ x ∧ x ≤ 7) ∧ ms y = 2 ^ x) → enF b n ms c0 = (List.range' 1 7).flatMap fun x => if (ms c).testBit x then enF b n (um ms c (2 ^ x)) c0 else []
  | 0, c0, ms, h1, h2, _ => by omega
  | n + 1, c0, ms, h1, h2, h3 => by
    by_cases e : c0 = c
    · subst e
      have hL : enF b (n + 1) ms c0 = (List.range' 1 7).flatMap fun x => if (ms c0).testBit x then enF b n (um ms c0 (2 ^ x)) (c0 + 1) else [] := if_pos hO
      rw [hL]
      refine flatMap_congr2 fun x hx => ?_
      have hx2 := List.mem_range'_1.mp hx
      by_cases hb : (ms c0).testBit x = true
      · rw [if_pos hb, if_pos hb]
        have hR : enF b (n + 1) (um ms c0 (2 ^ x)) c0 = (List.range' 1 7).flatMap fun y => if (um ms c0 (2 ^ x) c0).testBit y then enF b n (um (um ms c0 (2 ^ x)) c0 (2 ^ y)) (c0 + 1) else [] := if_pos hO
        rw [hR, um_at, flat_one (f := fun y => enF b n (um (um ms c0 (2 ^ x)) c0 (2 ^ y)) (c0 + 1)) (x := x) (by omega), um_upd]
      · rw [if_neg hb, if_neg hb]
    · by_cases hO0 : isO b c0 = true
      · obtain ⟨x0, u1, u2⟩ := h3 c0 (Nat.le_refl _) (by omega) hO0
        have hL : ∀ ms' : Nat → Nat, ms' c0 = 2 ^ x0 → enF b (n + 1) ms' c0 = enF b n ms' (c0 + 1) := fun ms' hm => by
          have : enF b (n + 1) ms' c0 = (List.range' 1 7).flatMap fun y => if (ms' c0).testBit y then enF b n (um ms' c0 (2 ^ y)) (c0 + 1) else [] := if_pos hO0
          rw [this, hm, flat_one (f := fun y => enF b n (um ms' c0 (2 ^ y)) (c0 + 1)) u1, um_same hm]
        rw [hL ms u2, enF_split hO n (c0 + 1) ms (by omega) (by omega) fun y v1 v2 v3 => h3 y (by omega) v2 v3]
        refine flatMap_congr2 fun x _ => ?_
        by_cases hb : (ms c).testBit x = true
        · rw [if_pos hb, if_pos hb, hL (um ms c (2 ^ x)) (by rw [um_ne (by omega)]; exact u2)]
        · rw [if_neg hb, if_neg hb]
      · have hL : ∀ ms' : Nat → Nat, enF b (n + 1) ms' c0 = enF b n ms' (c0 + 1) := fun ms' => if_neg hO0
        rw [hL, enF_split hO n (c0 + 1) ms (by omega) (by omega) fun y v1 v2 v3 => h3 y (by omega) v2 v3]
        refine flatMap_congr2 fun x _ => ?_
        rw [hL]
theorem sl_split {b : Nat → Nat} {c : Nat} (hO : isO b c = true) {ms : Nat → Nat} (h3 : ∀ y, y < c → isO b y = true → ∃ x, (1 ≤ x ∧ x ≤ 7) ∧ ms y = 2 ^ x) : SL b ms = (List.range' 1 7).flatMap fun x => if (ms c).testBit x then SL b (um ms c (2 ^ x)) else [] := by
  unfold SL
  rw [enF_split hO (b 0 * b 1) 0 ms (by omega) (by have := isO_cell hO; omega) fun y _ h1 h2 => h3 y h1 h2, List.filter_flatMap]
  refine flatMap_congr2 fun x _ => ?_
  by_cases hb : (ms c).testBit x = true
  · rw [if_pos hb, if_pos hb]
  · rw [if_neg hb, if_neg hb]; rfl
