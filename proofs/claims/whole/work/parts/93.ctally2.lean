/-! THE CLASS, 30: ways counted by their sets: unlike digits -/
theorem rnO_snoc {D : DF} : ∀ (w : List Nat) (g s : Nat), rnO D (w ++ [g]) s = match rnO D w s with | some s1 => aft D s1 g | none => none
  | [], g, s => by
    show (match aft D s g with | some s1 => some s1 | none => none) = aft D s g
    cases aft D s g <;> rfl
  | x :: w, g, s => by
    show (match aft D s x with | some s1 => rnO D (w ++ [g]) s1 | none => none) = match (match aft D s x with | some s1 => rnO D w s1 | none => none) with | some s1 => aft D s1 g | none => none
    cases aft D s x with
    | none => rfl
    | some s1 => exact rnO_snoc w g s1
theorem rnO_lt {D : DF} (hD : DOk D) : ∀ (w : List Nat) (s s' : Nat), (∀ x ∈ w, 1 ≤ x ∧ x ≤ 7) → s < 128 → rnO D w s = some s' → s' < 128
  | [], s, s', _, hs, h => by have h : some s = some s' := h; injection h with h; omega
  | g :: w, s, s', hd, hs, h => by
    have h : (match aft D s g with | some s1 => rnO D w s1 | none => none) = some s' := h
    have hg := hd g List.mem_cons_self
    cases ha : aft D s g with
    | none => rw [ha] at h; cases h
    | some s1 =>
      rw [ha] at h
      exact rnO_lt hD w s1 s' (fun x hx => hd x (List.mem_cons_of_mem _ hx)) (aft_lt hD hs hg.1 hg.2 ha) h
/-- sums over what words come to -/
theorem sumF_0 : ∀ n, sumF (fun _ => 0) n = 0
  | 0 => rfl
  | n + 1 => by show sumF (fun _ => 0) n + 0 = 0; rw [sumF_0 n]
theorem sumF_add {f g : Nat → Nat} : ∀ n, sumF (fun x => f x + g x) n = sumF f n + sumF g n
  | 0 => rfl
  | n + 1 => by
    show sumF (fun x => f x + g x) n + (f n + g n) = (sumF f n + f n) + (sumF g n + g n)
    rw [sumF_add n]
    omega
theorem sumF_congr {f g : Nat → Nat} : ∀ {n : Nat}, (∀ x, x < n → f x = g x) → sumF f n = sumF g n
  | 0, _ => rfl
  | n + 1, h => by
    show sumF f n + f n = sumF g n + g n
    rw [sumF_congr fun x hx => h x (by omega), h n (by omega)]
theorem sumF_one {f : Nat → Nat} {y : Nat} : ∀ {n : Nat}, y < n → sumF (fun x => if x = y then f x else 0) n = f y
  | 0, h => absurd h (Nat.not_lt_zero y)
  | n + 1, h => by
    show sumF (fun x => if x = y then f x else 0) n + (if n = y then f n else 0) = f y
    by_cases e : n = y
    · rw [if_pos e, sumF_congr (g := fun _ => 0) fun x hx => if_neg (by omega), sumF_0, Nat.zero_add, e]
    · rw [if_neg e, Nat.add_zero]
      exact sumF_one (by omega)
/-- over words by what they come to -/
theorem sumF_fib {κ : List Nat → Option Nat} {φ : Nat → Nat} : ∀ {W : List (List Nat)}, (∀ w ∈ W, ∀ s, κ w = some s → s < 128) → sumF (fun s => W.countP (fun w => κ w == some s) * φ s) 128 = W.foldr (fun w a => (match κ w with | some s => φ s | none => 0) + a) 0
  | [], _ => by
    rw [sumF_congr (g := fun _ => 0) fun s _ => by rw [List.countP_nil, Nat.zero_mul], sumF_0]
    rfl
  | w :: W, h => by
    rw [List.foldr_cons, ← sumF_fib fun w' hw' => h w' (List.mem_cons_of_mem _ hw')]
    have e : ∀ s, s < 128 → List.countP (fun w => κ w == some s) (w :: W) * φ s = (if κ w = some s then φ s else 0) + List.countP (fun w => κ w == some s) W * φ s := fun s _ => by
      rw [List.countP_cons, Nat.add_mul, Nat.add_comm]
      congr 1
      by_cases c : κ w = some s
      · rw [if_pos c, if_pos (beq_iff_eq.mpr c), Nat.one_mul]
      · rw [if_neg c, if_neg (fun z => c (beq_iff_eq.mp z)), Nat.zero_mul]
    rw [sumF_congr e, sumF_add]
    congr 1
    cases hk : κ w with
    | none =>
      rw [sumF_congr (g := fun _ => 0) fun s _ => if_neg (by simp), sumF_0]
    | some s0 =>
      rw [sumF_congr (g := fun s => if s = s0 then φ s else 0) fun s _ => by
        by_cases c : s = s0
        · rw [if_pos (by rw [c]), if_pos c]
        · rw [if_neg (fun z => by injection z with z; exact c z.symm), if_neg c]]
      exact sumF_one (h w List.mem_cons_self s0 hk)
theorem countP_flat {α β : Type} {f : α → List β} {p : β → Bool} : ∀ {l : List α}, (l.flatMap f).countP p = l.foldr (fun x a => (f x).countP p + a) 0
  | [] => rfl
  | a :: l => by rw [List.flatMap_cons, List.countP_append, List.foldr_cons, countP_flat]
/-- how many words of a length come to a state -/
def cI (D : DF) (ms : Nat → Nat) (i s : Nat) : Nat := (wds ((List.range i).map ms)).countP fun w => rnO D w 0 == some s
/-- how many digits lead from one state to another -/
def hop (D : DF) (m s s' g n : Nat) : Nat := (List.range' g n).countP fun g => m.testBit g && (aft D s g == some s')
theorem cI_succ {D : DF} (hD : DOk D) {ms : Nat → Nat} {i s' : Nat} : cI D ms (i + 1) s' = sumF (fun s => cI D ms i s * hop D (ms i) s s' 1 7) 128 := by
  unfold cI
  rw [List.range_succ, List.map_append, List.map_cons, List.map_nil, wds_snoc, countP_flat, sumF_fib (κ := fun w => rnO D w 0) (φ := fun s => hop D (ms i) s s' 1 7) fun w hw s hs => rnO_lt hD w 0 s (wds_dig hw) (by omega) hs]
  generalize wds ((List.range i).map ms) = W
  induction W with
  | nil => rfl
  | cons w W ih =>
    rw [List.foldr_cons, List.foldr_cons, ih]
    congr 1
    unfold hop
    generalize List.range' 1 7 = L
    cases hr : rnO D w 0 with
    | none =>
      dsimp only
      rw [List.countP_eq_zero]
      intro v hv
      obtain ⟨g, _, hg⟩ := List.mem_flatMap.mp hv
      by_cases c : (ms i).testBit g = true
      · rw [if_pos c, List.mem_singleton] at hg
        rw [hg, rnO_snoc, hr]
        simp
      · rw [if_neg c] at hg; cases hg
    | some s1 =>
      dsimp only
      induction L with
      | nil => rfl
      | cons g L ihL =>
        rw [List.flatMap_cons, List.countP_append, ihL, List.countP_cons, Nat.add_comm]
        congr 1
        by_cases c : (ms i).testBit g = true
        · rw [if_pos c, c, Bool.true_and, List.countP_cons, List.countP_nil, Nat.zero_add, rnO_snoc, hr]
        · rw [if_neg c]
          rw [Bool.not_eq_true] at c
          rw [c, Bool.false_and, List.countP_nil, if_neg (by simp)]
theorem cI_le {D : DF} {ms : Nat → Nat} {i s : Nat} (hi : i ≤ 6) : cI D ms i s ≤ 117649 := by
  have h1 := List.countP_le_length (p := fun w => rnO D w 0 == some s) (l := wds ((List.range i).map ms))
  have h2 := wds_len ((List.range i).map ms)
  rw [List.length_map, List.length_range] at h2
  have h3 : 7 ^ i ≤ 7 ^ 6 := Nat.pow_le_pow_right (by omega) hi
  have h4 : (7 : Nat) ^ 6 = 117649 := by decide
  unfold cI
  omega
section QY2
variable {d : Nat} {M : ZM} {D : DF} {z q e cz y : Nat} {ms : Nat → Nat}
def NX (y : Nat) (c : Nat → Nat) (M : ZM) : Prop := ∀ s, s < 128 → M.1 (y + 2) s = nI (c s)
def pY2 (y : Nat) : Nat → Nat → Prop := fun a _ => a = y + 2
def pY12 (y : Nat) : Nat → Nat → Prop := fun a _ => a = y + 1 ∨ a = y + 2
theorem rrep_fy {p : Nat → Nat → Prop} {M M' : ZM} (hR : RRep D z q M) (h : fr p (fun _ _ => False) M M') (hp : ∀ a k, p a k → a < q ∨ q + 9 < a) : RRep D z q M' := by
  have e1 : ∀ a k, q ≤ a → a ≤ q + 9 → M'.1 a k = M.1 a k := fun a k x y' => h.1 a k fun w => by have := hp a k w; omega
  have e2 : ∀ a k, M'.2 a k = M.2 a k := fun a k => h.2 a k (fun w => w)
  unfold RRep
  rw [e1 q 3 (by omega) (by omega), e2, e2]
  refine ⟨hR.1, hR.2.1, fun g g1 g7 => ?_⟩
  rw [e2, e2, e2, e2, e1 (q + 5) g (by omega) (by omega)]
  exact hR.2.2 g g1 g7
theorem wgr_fy {p : Nat → Nat → Prop} {M M' : ZM} (hW : WgR D ms z q M) (h : fr p (fun _ _ => False) M M') : WgR D ms z q M' := fun i hi => by
  have e2 : ∀ a k, M'.2 a k = M.2 a k := fun a k => h.2 a k (fun w => w)
  rw [e2, e2, e2, e2]
  exact hW i hi
theorem msr_fy {p p2 : Nat → Nat → Prop} {M M' : ZM} (hM : MsR e cz z ms M) (h : fr p p2 M M') (hp : ∀ a k, p a k → a ≠ e ∧ a ≠ cz) : MsR e cz z ms M' := fun i hi => by
  obtain ⟨c, u1, u2, u3, u4⟩ := hM i hi
  exact ⟨c, u1, (h.1 cz i fun w => (hp _ _ w).2 rfl).trans u2, (h.1 e c fun w => (hp _ _ w).1 rfl).trans u3, u4⟩
theorem q_tbs_75 (hy : zkd y = (17, 0)) (hq : zkd q = (13, 0)) (he : zkd e = (1, 36)) (hz : zkd cz = (1, 6)) (hD : DOk D) (hyq : y + 2 < q ∨ q + 9 < y) {i s m : Nat} {c : Nat → Nat} (hs : s < 128) (hm : m < 256) (hc : c s < 2147483648) : ∀ n g (a : Nat → Nat) (M : ZM), g + n = 8 → 1 ≤ g → RRep D z q M → BY y c M → NX y a M → ∃ M', (∀ r, h_Y_tallyBySets_64 (d + 1) y q e cz (nI i) (nI m) (nI (s + 1)) M' = some r → h_Y_tallyBySets_75 (d + 1) y q e cz (nI i) (nI m) (nI s) (nI g) M = some r) ∧ NX y (fun x => a x + c s * hop D m s x g n) M' ∧ fr (pY2 y) (fun _ _ => False) M M' := by
  intro n
  induction n with
  | zero =>
    intro g a M h h1 hR hB hN
    refine ⟨M, fun r hr => e_Y_tallyBySets_75 hy hq he hz ?_, fun x hx => (hN x hx).trans (by unfold hop; dsimp only; rw [List.range'_zero, List.countP_nil, Nat.mul_zero, Nat.add_zero]), fr.refl⟩
    rw [if_pos ((n_lt (by omega) (by omega)).mpr (by omega)), n_add1]
    exact hr
  | succ n ih =>
    intro g a M h h1 hR hB hN
    have hbt := n_bit (m := m) (d := g) (by omega) (by omega)
    have hh : ∀ x, hop D m s x g (n + 1) = (if (m.testBit g && (aft D s g == some x)) = true then 1 else 0) + hop D m s x (g + 1) n := fun x => by
      unfold hop
      rw [List.range'_succ, List.countP_cons, Nat.add_comm]
    by_cases hc0 : 0 < c s
    · have skip : (∀ x, hop D m s x g (n + 1) = hop D m s x (g + 1) n) → ∃ M', (∀ r, h_Y_tallyBySets_64 (d + 1) y q e cz (nI i) (nI m) (nI (s + 1)) M' = some r → h_Y_tallyBySets_75 (d + 1) y q e cz (nI i) (nI m) (nI s) (nI (g + 1)) M = some r) ∧ NX y (fun x => a x + c s * hop D m s x g (n + 1)) M' ∧ fr (pY2 y) (fun _ _ => False) M M' := fun hx => by
        obtain ⟨M', a1, a2, a3⟩ := ih (g + 1) a M (by omega) (by omega) hR hB hN
        exact ⟨M', a1, fun x h => (a2 x h).trans (by dsimp only; rw [hx]), a3⟩
      by_cases hb : m.testBit g = true
      · cases ha : aft D s g with
        | none =>
          obtain ⟨M', a1, a2⟩ := skip fun x => by rw [hh, ha, if_neg (by simp), Nat.zero_add]
          refine ⟨M', fun r hr => e_Y_tallyBySets_75 hy hq he hz ?_, a2⟩
          rw [if_neg (by rw [n_lt (by omega) (by omega)]; omega), if_pos ((n_zin (by omega)).mpr hs), n_clamp (by omega), hB s hs, if_pos ((n_lt (by omega) hc).mpr hc0), if_pos (hbt.mpr hb), q_after hq hR hs h1 (by omega), zC1_some, ha, show pI none = (-1 : Int32) from rfl, if_pos (by decide), n_add1]
          exact a1 r hr
        | some s1 =>
          have hs1 := aft_lt hD hs h1 (by omega) ha
          have f1 : fr (pY2 y) (fun _ _ => False) M (zpi M (y + 2) s1 (nI (a s1 + c s))) := fr.refl.pi rfl
          obtain ⟨M', a1, a2, a3⟩ := ih (g + 1) (fun x => a x + if x = s1 then c s else 0) (zpi M (y + 2) s1 (nI (a s1 + c s))) (by omega) (by omega) (rrep_fy hR f1 fun a k w => by unfold pY2 at w; omega) (fun x hx => by rw [m_pi, if_neg (by omega)]; exact hB x hx) (fun x hx => by
            rw [m_pi]
            by_cases ex : x = s1
            · dsimp only
              rw [if_pos ⟨rfl, ex⟩, if_pos ex, ex]
            · dsimp only
              rw [if_neg (fun w => ex w.2), if_neg ex]; exact hN x hx)
          refine ⟨M', fun r hr => e_Y_tallyBySets_75 hy hq he hz ?_, fun x hx => (a2 x hx).trans ?_, f1.trans a3⟩
          · rw [if_neg (by rw [n_lt (by omega) (by omega)]; omega), if_pos ((n_zin (by omega)).mpr hs), n_clamp (by omega), hB s hs, if_pos ((n_lt (by omega) hc).mpr hc0), if_pos (hbt.mpr hb), q_after hq hR hs h1 (by omega), zC1_some, ha, pI_some, if_neg (by rw [n_lt (by omega) (by omega)]; omega), if_pos ((n_lt (by omega) (by omega)).mpr hs1), if_pos ((n_zin (by omega)).mpr hs1), n_clamp (by omega), hN s1 hs1, hB s hs, n_add1, n_add]
            exact a1 r hr
          · dsimp only
            rw [hh, ha, hb, Bool.true_and, Nat.mul_add, ← Nat.add_assoc]
            congr 2
            by_cases ex : x = s1
            · rw [if_pos ex, if_pos (by rw [ex]; exact beq_self_eq_true _), Nat.mul_one]
            · rw [if_neg ex, if_neg (fun w => ex (by have := beq_iff_eq.mp w; injection this with this; exact this.symm)), Nat.mul_zero]
      · obtain ⟨M', a1, a2⟩ := skip fun x => by rw [hh, if_neg (by simp [hb]), Nat.zero_add]
        refine ⟨M', fun r hr => e_Y_tallyBySets_75 hy hq he hz ?_, a2⟩
        rw [if_neg (by rw [n_lt (by omega) (by omega)]; omega), if_pos ((n_zin (by omega)).mpr hs), n_clamp (by omega), hB s hs, if_pos ((n_lt (by omega) hc).mpr hc0), if_neg (fun w => hb (hbt.mp w)), n_add1]
        exact a1 r hr
    · refine ⟨M, fun r hr => e_Y_tallyBySets_75 hy hq he hz ?_, fun x hx => (hN x hx).trans (by dsimp only; rw [show c s = 0 by omega, Nat.zero_mul, Nat.add_zero]), fr.refl⟩
      rw [if_neg (by rw [n_lt (by omega) (by omega)]; omega), if_pos ((n_zin (by omega)).mpr hs), n_clamp (by omega), hB s hs, if_neg (by rw [n_lt (by omega) hc]; exact hc0), n_add1]
      exact hr
theorem q_tbs_64 (hy : zkd y = (17, 0)) (hq : zkd q = (13, 0)) (he : zkd e = (1, 36)) (hz : zkd cz = (1, 6)) (hD : DOk D) (hyq : y + 2 < q ∨ q + 9 < y) {i m : Nat} {c : Nat → Nat} (hm : m < 256) (hc : ∀ s, s < 128 → c s < 2147483648) : ∀ n s (M : ZM), s + n = 128 → RRep D z q M → BY y c M → NX y (fun x => sumF (fun t => c t * hop D m t x 1 7) s) M → ∃ M', (∀ r, h_Y_tallyBySets_10 (d + 1) y q e cz (nI (i + 1)) M' = some r → h_Y_tallyBySets_64 (d + 1) y q e cz (nI i) (nI m) (nI s) M = some r) ∧ BY y (fun x => sumF (fun t => c t * hop D m t x 1 7) 128) M' ∧ fr (pY12 y) (fun _ _ => False) M M' := by
  intro n
  induction n with
  | zero =>
    intro s M h hR hB hN
    obtain rfl : s = 128 := by omega
    refine ⟨zsi M (y + 1) (va_cpy (M.1 (y + 2)) (M.1 (y + 1)) 0 0 128), fun r hr => e_Y_tallyBySets_64 hy hq he hz ?_, fun x hx => ?_, fr.refl.si fun k => Or.inl rfl⟩
    · rw [if_neg (by rw [n_lt (by omega) (by omega)]; omega), if_pos (by omega), n_add1]
      exact hr
    · rw [m_si, if_pos rfl, cpy0, if_pos hx]
      exact hN x hx
  | succ n ih =>
    intro s M h hR hB hN
    obtain ⟨M1, b1, b2, b3⟩ := q_tbs_75 (d := d) (i := i) hy hq he hz hD hyq (show s < 128 by omega) hm (hc s (by omega)) 7 1 _ M (by omega) (by omega) hR hB hN
    obtain ⟨M', a1, a2, a3⟩ := ih (s + 1) M1 (by omega) (rrep_fy hR b3 fun a k w => by unfold pY2 at w; omega) (fun x hx => (b3.1 (y + 1) x (by unfold pY2; omega)).trans (hB x hx)) b2
    refine ⟨M', fun r hr => e_Y_tallyBySets_64 hy hq he hz ?_, a2, (b3.mono (fun a k w => Or.inr w) fun _ _ w => w).trans a3⟩
    rw [if_pos ((n_lt (by omega) (by omega)).mpr (by omega))]
    exact b1 r (a1 r hr)
theorem q_tbs_39 (hy : zkd y = (17, 0)) (hq : zkd q = (13, 0)) (he : zkd e = (1, 36)) (hz : zkd cz = (1, 6)) {i m : Nat} : ∀ n s (M : ZM), s + n = 128 → (∀ x, x < s → M.1 (y + 2) x = nI 0) → ∃ M', (∀ r, h_Y_tallyBySets_64 (d + 1) y q e cz (nI i) (nI m) (nI 0) M' = some r → h_Y_tallyBySets_39 (d + 1) y q e cz (nI i) (nI m) (nI s) M = some r) ∧ NX y (fun _ => 0) M' ∧ fr (pY2 y) (fun _ _ => False) M M' := by
  intro n
  induction n with
  | zero =>
    intro s M h hN
    refine ⟨M, fun r hr => e_Y_tallyBySets_39 hy hq he hz ?_, fun x hx => hN x (by omega), fr.refl⟩
    rw [if_neg (by rw [n_lt (by omega) (by omega)]; omega)]
    exact hr
  | succ n ih =>
    intro s M h hN
    obtain ⟨M', a1, a2, a3⟩ := ih (s + 1) (zpi M (y + 2) s (nI 0)) (by omega) fun x hx => by
      rw [m_pi]
      by_cases ex : x = s
      · rw [if_pos ⟨rfl, ex⟩]
      · rw [if_neg (fun w => ex w.2)]; exact hN x (by omega)
    refine ⟨M', fun r hr => e_Y_tallyBySets_39 hy hq he hz ?_, a2, fr.trans (fr.refl.pi rfl) a3⟩
    rw [if_pos ((n_lt (by omega) (by omega)).mpr (by omega)), if_pos ((n_zin (by omega)).mpr (by omega)), n_clamp (by omega), n_add1]
    exact a1 r hr
theorem q_tbs_10 (hy : zkd y = (17, 0)) (hq : zkd q = (13, 0)) (he : zkd e = (1, 36)) (hz : zkd cz = (1, 6)) (hD : DOk D) (hyq : y + 2 < q ∨ q + 9 < y) (hye : y + 2 < e ∨ e < y) (hyz : y + 2 < cz ∨ cz < y) : ∀ n i (M : ZM), i + n = z → RRep D z q M → MsR e cz z ms M → BY y (cI D ms i) M → ∃ M', (∀ r, h_Y_tallyBySets_184 (d + 1) y q (nI 0) M' = some r → h_Y_tallyBySets_10 (d + 1) y q e cz (nI i) M = some r) ∧ BY y (cI D ms z) M' ∧ fr (pY12 y) (fun _ _ => False) M M' := by
  intro n
  induction n with
  | zero =>
    intro i M h hR hM hB
    obtain rfl : i = z := by omega
    have h6 := hR.1.2
    refine ⟨M, fun r hr => e_Y_tallyBySets_10 hy hq he hz ?_, hB, fr.refl⟩
    rw [e_R_size hq rfl, zC1_some, hR.1.1, if_neg (by rw [n_lt (by omega) (by omega)]; omega)]
    exact hr
  | succ n ih =>
    intro i M h hR hM hB
    have h6 := hR.1.2
    obtain ⟨ci, c1, c2, c3, c4⟩ := hM i (by omega)
    obtain ⟨M1, b1, b2, b3⟩ := q_tbs_39 (d := d) (i := i) (m := ms i) hy hq he hz 128 0 M (by omega) fun x hx => absurd hx (Nat.not_lt_zero x)
    have hR1 : RRep D z q M1 := rrep_fy hR b3 fun a k w => by unfold pY2 at w; omega
    obtain ⟨M2, e1, e2, e3⟩ := q_tbs_64 (d := d) (i := i) (c := cI D ms i) hy hq he hz hD hyq c4 (fun s _ => by have := cI_le (D := D) (ms := ms) (s := s) (show i ≤ 6 by omega); omega) 128 0 M1 (by omega) hR1 (fun x hx => (b3.1 (y + 1) x (by unfold pY2; omega)).trans (hB x hx)) b2
    have f3 : fr (pY12 y) (fun _ _ => False) M M2 := (b3.mono (fun a k w => Or.inr w) fun _ _ w => w).trans e3
    obtain ⟨M', a1, a2, a3⟩ := ih (i + 1) M2 (by omega) (rrep_fy hR f3 fun a k w => by unfold pY12 at w; omega) (msr_fy hM f3 fun a k w => by unfold pY12 at w; omega) (fun x hx => (e2 x hx).trans (by rw [cI_succ hD]))
    refine ⟨M', fun r hr => e_Y_tallyBySets_10 hy hq he hz ?_, a2, f3.trans a3⟩
    rw [e_R_size hq rfl, zC1_some, hR.1.1, if_pos ((n_lt (by omega) (by omega)).mpr (by omega)), if_pos ((n_lt (by omega) (by omega)).mpr (by omega)), if_pos ((n_zin (by omega)).mpr (by omega)), n_clamp (by omega), c2, q_marksAt he c1 c3, zC1_some]
    exact b1 r (e1 r (a1 r hr))
theorem q_tbs_184 (hy : zkd y = (17, 0)) (hq : zkd q = (13, 0)) (hyq : y + 2 < q ∨ q + 9 < y) {c : Nat → Nat} : ∀ n s (M : ZM), s + n = 128 → RRep D z q M → WgR D ms z q M → BY y (fun x => if x < s ∧ (foF D ms z x && D.2.2.2 x) = false then 0 else c x) M → ∃ M', h_Y_tallyBySets_184 (d + 2) y q (nI s) M = some (none, M') ∧ BY y (fun x => if (foF D ms z x && D.2.2.2 x) = false then 0 else c x) M' ∧ fr (pY y) (fun _ _ => False) M M' := by
  intro n
  induction n with
  | zero =>
    intro s M h hR hW hB
    refine ⟨M, e_Y_tallyBySets_184 hy hq ?_, fun x hx => (hB x hx).trans ?_, fr.refl⟩
    · rw [if_neg (by rw [n_lt (by omega) (by omega)]; omega)]
    · dsimp only
      by_cases g : (foF D ms z x && D.2.2.2 x) = false
      · rw [if_pos g, if_pos ⟨by omega, g⟩]
      · rw [if_neg g, if_neg fun w => g w.2]
  | succ n ih =>
    intro s M h hR hW hB
    have key : ∀ v, v = nI (if (foF D ms z s && D.2.2.2 s) = false then 0 else c s) → ∃ M', h_Y_tallyBySets_184 (d + 2) y q (nI (s + 1)) (zpi M (y + 1) s v) = some (none, M') ∧ BY y (fun x => if (foF D ms z x && D.2.2.2 x) = false then 0 else c x) M' ∧ fr (pY y) (fun _ _ => False) M M' := fun v hv => by
      have f1 : fr (pY y) (fun _ _ => False) M (zpi M (y + 1) s v) := fr.refl.pi rfl
      obtain ⟨M', a1, a2, a3⟩ := ih (s + 1) (zpi M (y + 1) s v) (by omega) (rrep_fy hR f1 fun a k w => by unfold pY at w; omega) (wgr_fy hW f1) fun x hx => by
        rw [m_pi]
        by_cases ex : x = s
        · rw [if_pos ⟨rfl, ex⟩, hv, ex]
          dsimp only
          by_cases g : (foF D ms z s && D.2.2.2 s) = false
          · rw [if_pos g, if_pos ⟨by omega, g⟩]
          · rw [if_neg g, if_neg fun w => g w.2]
        · rw [if_neg (fun w => ex w.2), hB x hx]
          dsimp only
          by_cases g : x < s ∧ (foF D ms z x && D.2.2.2 x) = false
          · rw [if_pos g, if_pos ⟨by omega, g.2⟩]
          · rw [if_neg g, if_neg fun w => g ⟨by omega, w.2⟩]
      exact ⟨M', a1, a2, f1.trans a3⟩
    have hs0 : M.1 (y + 1) s = nI (c s) := (hB s (by omega)).trans (by dsimp only; rw [if_neg fun w => absurd w.1 (Nat.lt_irrefl s)])
    cases hg : (foF D ms z s && D.2.2.2 s) with
    | false =>
      obtain ⟨M', a1, a2⟩ := key (nI 0) (by rw [if_pos hg])
      refine ⟨M', e_Y_tallyBySets_184 hy hq ?_, a2⟩
      rw [if_pos ((n_lt (by omega) (by omega)).mpr (by omega)), q_isReached hq hR hW (by omega), zC1_some, hg, if_pos (show nB false = nI 0 from rfl), if_pos ((n_zin (by omega)).mpr (by omega)), n_clamp (by omega), n_add1]
      exact a1
    | true =>
      obtain ⟨M', a1, a2⟩ := key (nI (c s)) (by rw [if_neg (by rw [hg]; simp)])
      refine ⟨M', e_Y_tallyBySets_184 hy hq ?_, a2⟩
      rw [if_pos ((n_lt (by omega) (by omega)).mpr (by omega)), q_isReached hq hR hW (by omega), zC1_some, hg, if_neg (show ¬ nB true = nI 0 by decide), if_pos ((n_zin (by omega)).mpr (by omega)), n_clamp (by omega), hs0, n_add1]
      exact a1
end QY2
