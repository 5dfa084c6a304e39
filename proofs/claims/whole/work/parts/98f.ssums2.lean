/-! THE CLASS, 42: whether the sums fit -/
theorem sumZ_0 {f : Nat → Int} : ∀ {n : Nat}, (∀ j, j < n → f j = 0) → sumZ f n = 0
  | 0, _ => rfl
  | n + 1, h => by
    show sumZ f n + f n = 0
    rw [sumZ_0 fun j hj => h j (by omega), h n (by omega)]
    rfl
theorem sumZ_nat {f : Nat → Nat} : ∀ n, sumZ (fun j => (f j : Int)) n = ((sumF f n : Nat) : Int)
  | 0 => rfl
  | n + 1 => by
    show sumZ (fun j => (f j : Int)) n + (f n : Int) = ((sumF f n + f n : Nat) : Int)
    rw [sumZ_nat n]
    omega
def lsF (f : Nat → Nat) : List Nat → Nat
  | [] => 0
  | c :: l => f c + lsF f l
theorem lsF_app {f : Nat → Nat} : ∀ (l m : List Nat), lsF f (l ++ m) = lsF f l + lsF f m
  | [], m => (Nat.zero_add _).symm
  | c :: l, m => by
    show f c + lsF f (l ++ m) = f c + lsF f l + lsF f m
    rw [lsF_app l m, Nat.add_assoc]
theorem sumF_ls {f : Nat → Nat} : ∀ n, sumF f n = lsF f (List.range n)
  | 0 => rfl
  | n + 1 => by
    rw [List.range_succ, lsF_app, ← sumF_ls n]
    rfl
theorem lsF_map {f h : Nat → Nat} : ∀ l : List Nat, lsF f (l.map h) = lsF (fun i => f (h i)) l
  | [] => rfl
  | c :: l => by
    show f (h c) + lsF f (l.map h) = f (h c) + lsF (fun i => f (h i)) l
    rw [lsF_map l]
theorem lsF_filter {f : Nat → Nat} {p : Nat → Bool} : ∀ l : List Nat, lsF f (l.filter p) = lsF (fun c => if p c = true then f c else 0) l
  | [] => rfl
  | c :: l => by
    show _ = (if p c = true then f c else 0) + lsF (fun c => if p c = true then f c else 0) l
    by_cases h : p c = true
    · rw [List.filter_cons_of_pos h, if_pos h, ← lsF_filter l]
      rfl
    · rw [List.filter_cons_of_neg h, if_neg h, ← lsF_filter l, Nat.zero_add]
theorem lsF_congr {f g : Nat → Nat} : ∀ {l : List Nat}, (∀ c ∈ l, f c = g c) → lsF f l = lsF g l
  | [], _ => rfl
  | c :: l, h => by
    show f c + lsF f l = g c + lsF g l
    rw [h c List.mem_cons_self, lsF_congr fun x hx => h x (List.mem_cons_of_mem _ hx)]
theorem foldS_ls : ∀ (w : List Nat) (a : Nat), w.foldl (fun a x => a + x) a = a + lsF (fun x => x) w
  | [], a => rfl
  | x :: w, a => by
    show w.foldl (fun a x => a + x) (a + x) = a + (x + lsF (fun x => x) w)
    rw [foldS_ls w, Nat.add_assoc]
theorem map_getD : ∀ w : List Nat, w = (List.range w.length).map fun i => w.getD i 0 := fun w => by
  apply List.ext_getElem
  · rw [List.length_map, List.length_range]
  · intro i h1 h2
    rw [List.getElem_map, List.getElem_range, getD_el h1]
theorem sumF_cut {f : Nat → Nat} {m : Nat} : ∀ n, (∀ p, m ≤ p → p < m + n → f p = 0) → sumF f (m + n) = sumF f m
  | 0, _ => rfl
  | n + 1, h => by
    show sumF f (m + n) + f (m + n) = sumF f m
    rw [sumF_cut n fun p h1 h2 => h p h1 (by omega), h (m + n) (by omega) (by omega)]
    rfl
def eqC (b ms : Nat → Nat) (k p : Nat) : Nat := if (p < openN b ∧ inC b k (opA b p) = true) ∧ popc (ms (opA b p)) ≠ 1 then 1 else 0
def eqS (b ms : Nat → Nat) (k p : Nat) : Nat := if (p < openN b ∧ inC b k (opA b p) = true) ∧ popc (ms (opA b p)) = 1 then lst (ms (opA b p)) else 0
def xG (b g : Nat → Nat) (p : Nat) : Nat := if p < openN b then lst (g (opA b p)) else 0
theorem popc_pow1 : ∀ m, m < 256 → ∀ y, y < 8 → popc m = 1 → m.testBit y = true → m = 2 ^ y := by decide +kernel
theorem inC_isO {b : Nat → Nat} (hW : Wf b) {k c : Nat} (hk : k < b 3) (h : inC b k c = true) : isO b c = true := by
  obtain ⟨i, h1, h2⟩ := (inC_iff hW).mp h
  rw [← h2]
  exact (hW.2.2.2.2.2 k hk).2.2.1 i h1
theorem sum_word {b ms g : Nat → Nat} (hW : Wf b) (hM : MV b ms) (hg : g ∈ SL b ms) {k : Nat} (hk : k < b 3) (hs : b (148 + 10 * k) = 0) : lsF (fun i => lst (g (cgC b k i))) (List.range (cgN b k)) = b (149 + 10 * k) := by
  obtain ⟨w, h1, h2, h3⟩ := sl_word hW hM hg hk
  have hgk := hW.2.2.2.2.2 k hk
  have hd : ∀ x ∈ w, 1 ≤ x ∧ x ≤ 7 := fun x hx => by
    obtain ⟨i, hi, e⟩ := List.mem_iff_getElem.mp hx
    have := (h2 i (by omega)).1.1
    rw [getD_el hi, e] at this
    exact this
  unfold cgD at h3
  have h4 := (rl_acc hgk.1.1 hd h1 hgk.2.1.1 hgk.2.1.2).mp h3
  have h5 := h4.2
  rw [hs, decide_eq_false (by omega), Bool.false_or, decide_eq_true_iff] at h5
  have h6 : tSum w = b (149 + 10 * k) := h5
  have h7 : tSum w = lsF (fun x => x) w := by
    unfold tSum
    rw [foldS_ls, Nat.zero_add]
  rw [← h6, h7]
  conv => rhs; rw [map_getD w]
  rw [lsF_map, h1]
  refine lsF_congr fun i hi => ?_
  have hi' := List.mem_range.mp hi
  have h8 := h2 i hi'
  rw [h8.2, lst_pow _ h8.1.1.1 h8.1.1.2]
theorem sum_places {b ms g : Nat → Nat} (hW : Wf b) (hM : MV b ms) (hg : g ∈ SL b ms) {k : Nat} (hk : k < b 3) (hs : b (148 + 10 * k) = 0) : sumF (fun p => eqC b ms k p * xG b g p + eqS b ms k p) 16 = b (149 + 10 * k) := by
  have h16 := hW.2.2.2.2.1
  have hb7 := hW.1.2.2.1
  have hgk := hW.2.2.2.2.2 k hk
  have e1 : ∀ p, p < 16 → eqC b ms k p * xG b g p + eqS b ms k p = if p < openN b then (if inC b k (opA b p) = true then lst (g (opA b p)) else 0) else 0 := fun p _ => by
    unfold eqC eqS xG
    by_cases hp : p < openN b
    · rw [if_pos hp, if_pos hp]
      by_cases hi : inC b k (opA b p) = true
      · rw [if_pos hi]
        obtain ⟨a1, a2⟩ := opA_mem hp
        by_cases h1 : popc (ms (opA b p)) = 1
        · rw [if_neg (fun z => z.2 h1), if_pos ⟨⟨hp, hi⟩, h1⟩, Nat.zero_mul, Nat.zero_add]
          obtain ⟨x, x1, x2, x3⟩ := (sl_mem.mp hg).1.2 (opA b p) a2
          rw [x3, ← popc_pow1 _ (mv_lt hM hb7 a1) x (by omega) h1 x2]
        · rw [if_pos ⟨⟨hp, hi⟩, h1⟩, if_neg (fun z => h1 z.2), Nat.one_mul, Nat.add_zero]
      · rw [if_neg (fun z => hi z.1.2), if_neg (fun z => hi z.1.2), if_neg hi, Nat.zero_mul]
    · rw [if_neg (show ¬ ((p < openN b ∧ inC b k (opA b p) = true) ∧ popc (ms (opA b p)) ≠ 1) from fun z => hp z.1.1), if_neg hp, if_neg (show ¬ ((p < openN b ∧ inC b k (opA b p) = true) ∧ popc (ms (opA b p)) = 1) from fun z => hp z.1.1), if_neg hp, Nat.zero_mul]
  rw [sumF_congr e1, show 16 = openN b + (16 - openN b) by omega, sumF_cut _ fun p h1 _ => if_neg (by omega)]
  rw [sumF_congr (g := fun p => if inC b k (opA b p) = true then lst (g (opA b p)) else 0) fun p hp => if_pos hp, sumF_ls]
  have e2 := lsF_map (f := fun c => if inC b k c = true then lst (g c) else 0) (h := opA b) (List.range (openN b))
  rw [← opL_map] at e2
  rw [← e2]
  unfold opL
  rw [lsF_filter]
  have e3 : lsF (fun c => if isO b c = true then (if inC b k c = true then lst (g c) else 0) else 0) (List.range 36) = lsF (fun c => if inC b k c = true then lst (g c) else 0) (List.range 36) := lsF_congr fun c _ => by
    by_cases hi : inC b k c = true
    · rw [if_pos (inC_isO hW hk hi)]
    · rw [if_neg hi]
      split <;> rfl
  rw [e3, ← lsF_filter, cgL_eq hgk.2.2.2 (fun i hi => cgC_lt hW hk hi), lsF_map]
  exact sum_word hW hM hg hk hs
def SPl (b : Nat → Nat) (M : ZM) : Prop := M.1 411 1 = nI (openN b) ∧ ∀ p, p < openN b → M.1 544 p = nI (opA b p)
def LEr (b ms : Nat → Nat) (k : Nat) (f : Nat → Int32) : Prop := (∀ j, j < 16 → f j = nI (eqC b ms k j)) ∧ f 16 = nI (fm (b (149 + 10 * k)) (sumF (eqS b ms k) 16))
theorem sumF_7 {f : Nat → Nat} (h : ∀ c, f c ≤ 7) : ∀ n, sumF f n ≤ 7 * n
  | 0 => Nat.le_refl 0
  | n + 1 => by
    have := sumF_7 h n
    have := h n
    show sumF f n + f n ≤ _
    omega
theorem eqS_le (b ms : Nat → Nat) (k p : Nat) : eqS b ms k p ≤ 7 := by
  unfold eqS
  have := lst_lt (ms (opA b p))
  split <;> omega
theorem eqC_le (b ms : Nat → Nat) (k p : Nat) : eqC b ms k p ≤ 1 := by
  unfold eqC
  split <;> omega
theorem LEr.er {b ms g : Nat → Nat} {k : Nat} {f : Nat → Int32} (hW : Wf b) (hM : MV b ms) (hk : k < b 3) (hs : b (148 + 10 * k) = 0) (h : LEr b ms k f) : ER (xG b g) (g ∈ SL b ms) f := by
  refine ⟨fun j => if j < 16 then eqC b ms k j else fm (b (149 + 10 * k)) (sumF (eqS b ms k) 16), fun i hi => ?_, fun hg => ?_⟩
  · by_cases e : i < 16
    · have := eqC_le b ms k i
      show f i = nI (if i < 16 then _ else _) ∧ (if i < 16 then _ else _) < 32749
      rw [if_pos e]
      exact ⟨h.1 i e, by omega⟩
    · show f i = nI (if i < 16 then _ else _) ∧ (if i < 16 then _ else _) < 32749
      rw [if_neg e, show i = 16 by omega]
      exact ⟨h.2, fm_lt _ _⟩
  · obtain ⟨z, hz⟩ := fm_eq (b (149 + 10 * k)) (sumF (eqS b ms k) 16)
    refine ⟨-z, ?_⟩
    have h1 := sum_places hW hM hg hk hs
    rw [sumF_add] at h1
    have h2 := sumZ_nat (f := fun p => eqC b ms k p * xG b g p) 16
    have h3 : ∀ n, n ≤ 16 → sumZ (fun i => ((if i < 16 then eqC b ms k i else fm (b (149 + 10 * k)) (sumF (eqS b ms k) 16) : Nat) : Int) * (xG b g i : Int)) n = sumZ (fun j => ((eqC b ms k j * xG b g j : Nat) : Int)) n := by
      intro n
      induction n with
      | zero => intro _; rfl
      | succ n ih =>
        intro hn
        show sumZ _ n + ((if n < 16 then eqC b ms k n else fm (b (149 + 10 * k)) (sumF (eqS b ms k) 16) : Nat) : Int) * (xG b g n : Int) = sumZ _ n + ((eqC b ms k n * xG b g n : Nat) : Int)
        rw [ih (by omega), if_pos (show n < 16 by omega), Int.natCast_mul]
    rw [h3 16 (Nat.le_refl 16), h2]
    show ((sumF (fun p => eqC b ms k p * xG b g p) 16 : Nat) : Int) = ((if 16 < 16 then eqC b ms k 16 else fm (b (149 + 10 * k)) (sumF (eqS b ms k) 16) : Nat) : Int) + 32749 * -z
    rw [if_neg (Nat.lt_irrefl 16), hz]
    omega
section QE2
variable {d : Nat} {b : Nat → Nat} {q : Nat}
theorem q_layEq_11 (hq : zkd q = (10, 0)) (hq2 : q + 18 < 126) (hW : Wf b) {ms : Nat → Nat} (hM : MV b ms) {k r : Nat} (hk : k < b 3) (hr : r < 12) : ∀ n i (M : ZM), i + n = 16 → BRep b q M → SPl b M → SRw 0 ms M → (∀ j, j < i → M.1 (565 + r) j = nI (eqC b ms k j)) → ∃ M', h_S_layEquation_11 (d + 1) q (nI k) (565 + r) (Int32.ofInt ((b (149 + 10 * k) : Int) - (sumF (eqS b ms k) i : Nat))) (nI i) M = some (none, M') ∧ LEr b ms k (M'.1 (565 + r)) ∧ frI (fun a _ => a = 565 + r) M M' := by
  have hT := (hW.2.2.2.2.2 k hk).1.2.1
  have hk12 := cg_12 hW hk
  have hb7 := hW.1.2.2.1
  have h12 := hW.1.2.2.2
  intro n
  induction n with
  | zero =>
    intro i M h hB hP hR hd
    have hS := sumF_7 (eqS_le b ms k) i
    refine ⟨zpi M (565 + r) 16 (nI (fm (b (149 + 10 * k)) (sumF (eqS b ms k) 16))), e_S_layEquation_11 hq (zk_eq hr) ?_, ⟨fun j hj => by rw [m_pi, if_neg (by omega)]; exact hd j (by omega), by rw [m_pi, if_pos ⟨rfl, rfl⟩]⟩, fr.refl.pi rfl⟩
    rw [show i = 16 by omega] at hS ⊢
    rw [if_neg (by rw [n_lt (by omega) (by omega)]; omega), Int32.ofInt_sub, oI_nat, oI_nat, q_fm (by omega) (by omega), zC1_some]
  | succ n ih =>
    intro i M h hB hP hR hd
    have hi : i < 16 := by omega
    have step : ∀ v, v < 1000 → eqC b ms k i = v → ∀ M2 : ZM, M2 = zpi M (565 + r) i (nI v) → ∃ M', h_S_layEquation_11 (d + 1) q (nI k) (565 + r) (Int32.ofInt ((b (149 + 10 * k) : Int) - (sumF (eqS b ms k) (i + 1) : Nat))) (nI (i + 1)) M2 = some (none, M') ∧ LEr b ms k (M'.1 (565 + r)) ∧ frI (fun a _ => a = 565 + r) M M' := fun v _ hv M2 e2 => by
      have f2 : frI (fun a _ => a = 565 + r) M M2 := by rw [e2]; exact fr.refl.pi rfl
      obtain ⟨M', a1, a2, a3⟩ := ih (i + 1) M2 (by omega) (hB.fr f2 h12 (fun a x z => by omega) fun a x z => z.elim) ⟨(f2.1 411 1 (by omega)).trans hP.1, fun p hp => (f2.1 544 p (by omega)).trans (hP.2 p hp)⟩ (fun c hc => (f2.1 (547 + 0) c (by omega)).trans (hR c hc)) (fun j hj => by
        rw [e2, m_pi]
        by_cases e : j = i
        · rw [if_pos ⟨rfl, e⟩, e, hv]
        · rw [if_neg (by omega)]; exact hd j (by omega))
      exact ⟨M', a1, a2, f2.trans a3⟩
    have hs1 : ∀ v, eqS b ms k i = v → Int32.ofInt ((b (149 + 10 * k) : Int) - (sumF (eqS b ms k) i : Nat)) - nI v = Int32.ofInt ((b (149 + 10 * k) : Int) - (sumF (eqS b ms k) (i + 1) : Nat)) := fun v hv => by
      rw [← oI_nat v, ← Int32.ofInt_sub]
      congr 1
      show _ = (b (149 + 10 * k) : Int) - ((sumF (eqS b ms k) i + eqS b ms k i : Nat) : Int)
      rw [hv]
      omega
    have hs0 : eqS b ms k i = 0 → Int32.ofInt ((b (149 + 10 * k) : Int) - (sumF (eqS b ms k) i : Nat)) = Int32.ofInt ((b (149 + 10 * k) : Int) - (sumF (eqS b ms k) (i + 1) : Nat)) := fun hv => by
      congr 1
      show _ = (b (149 + 10 * k) : Int) - ((sumF (eqS b ms k) i + eqS b ms k i : Nat) : Int)
      rw [hv]
      omega
    have g1 : ∀ a x v, a ≠ 565 + r → (zpi M (565 + r) i v).1 a x = M.1 a x := fun a x v e => by rw [m_pi, if_neg fun z => e z.1]
    have head : ∀ rr, (if i < openN b then (if inC b k (opA b i) = true then (if nI (popc (ms (opA b i))) = nI 1 then h_S_layEquation_11 (d + 1) q (nI k) (565 + r) (Int32.ofInt ((b (149 + 10 * k) : Int) - (sumF (eqS b ms k) i : Nat)) - nI (lst (ms (opA b i)))) (nI (i + 1)) (zpi (zpi M (565 + r) i (nI 0)) (565 + r) i (nI 0)) else h_S_layEquation_11 (d + 1) q (nI k) (565 + r) (Int32.ofInt ((b (149 + 10 * k) : Int) - (sumF (eqS b ms k) i : Nat)) - nI 0) (nI (i + 1)) (zpi (zpi M (565 + r) i (nI 0)) (565 + r) i (nI 1))) else h_S_layEquation_11 (d + 1) q (nI k) (565 + r) (Int32.ofInt ((b (149 + 10 * k) : Int) - (sumF (eqS b ms k) i : Nat))) (nI (i + 1)) (zpi M (565 + r) i (nI 0))) else h_S_layEquation_11 (d + 1) q (nI k) (565 + r) (Int32.ofInt ((b (149 + 10 * k) : Int) - (sumF (eqS b ms k) i : Nat))) (nI (i + 1)) (zpi M (565 + r) i (nI 0))) = some rr → h_S_layEquation_11 (d + 1) q (nI k) (565 + r) (Int32.ofInt ((b (149 + 10 * k) : Int) - (sumF (eqS b ms k) i : Nat))) (nI i) M = some rr := fun rr hrr => by
      refine e_S_layEquation_11 hq (zk_eq hr) ?_
      rw [if_pos ((n_lt (by omega) (by omega)).mpr hi), if_pos ((n_zin (by omega)).mpr (by omega)), n_clamp (by omega), n_clamp (by omega), g1 411 1 _ (by omega), hP.1, n_add1]
      by_cases hp : i < openN b
      · rw [if_pos hp] at hrr
        have hpo := hW.2.2.2.2.1
        obtain ⟨o1, o2⟩ := opA_mem hp
        have hml := mv_lt hM hb7 o1
        have hR0 : M.1 547 (opA b i) = nI (ms (opA b i)) := hR _ o1
        rw [if_pos ((n_lt (by omega) (by omega)).mpr hp), if_pos ((n_zin (by omega)).mpr (by omega)), if_pos ((n_zin (by omega)).mpr hi), m_pi2, (hB.2.2.2 k hk).1.2.2, g1 544 i _ (by omega), hP.2 i hp]
        by_cases hin : inC b k (opA b i) = true
        · rw [if_pos hin] at hrr
          have hbit : (iM b k).testBit (opA b i) = true := by
            unfold iM
            rw [msk_bit, decide_eq_true o1, Bool.true_and]
            exact hin
          rw [if_pos ((l_bit (m := iM b k) (Nat.lt_trans (msk36 _) (by omega)) (by omega)).mpr hbit), if_pos ((n_zin (by omega)).mpr o1), n_clamp (by omega), g1 547 _ _ (by omega), hR0, zLr, q_bitI (by omega), zC1_some]
          by_cases h1 : nI (popc (ms (opA b i))) = nI 1
          · rw [if_pos h1] at hrr ⊢
            rw [q_leastDigit (by omega), zC1_some]
            exact hrr
          · rw [if_neg h1] at hrr ⊢
            exact hrr
        · rw [if_neg hin] at hrr
          have hbit : ¬ (iM b k).testBit (opA b i) = true := by
            unfold iM
            rw [msk_bit, decide_eq_true o1, Bool.true_and]
            exact hin
          rw [if_neg fun z => hbit ((l_bit (m := iM b k) (Nat.lt_trans (msk36 _) (by omega)) (by omega)).mp z)]
          exact hrr
      · rw [if_neg hp] at hrr
        rw [if_neg fun z => hp ((n_lt (by omega) (by have := hW.2.2.2.2.1; omega)).mp z)]
        exact hrr
    have two : ∀ v, zpi (zpi M (565 + r) i (nI 0)) (565 + r) i v = zpi M (565 + r) i v := fun v => by
      refine Prod.ext (funext fun a => funext fun x => ?_) rfl
      rw [m_pi, m_pi, m_pi]
      by_cases e : a = 565 + r ∧ x = i
      · rw [if_pos e, if_pos e]
      · rw [if_neg e, if_neg e, if_neg e]
    have hpl := popc_le (ms (opA b i))
    by_cases hp : i < openN b
    · by_cases hin : inC b k (opA b i) = true
      · by_cases h1 : popc (ms (opA b i)) = 1
        · have c0 : eqC b ms k i = 0 := if_neg fun z => z.2 h1
          have s0 : eqS b ms k i = lst (ms (opA b i)) := if_pos ⟨⟨hp, hin⟩, h1⟩
          obtain ⟨M', a1, a2⟩ := step 0 (by omega) c0 _ rfl
          refine ⟨M', head _ ?_, a2⟩
          rw [if_pos hp, if_pos hin, if_pos (by rw [h1]), two, hs1 _ s0]
          exact a1
        · have c0 : eqC b ms k i = 1 := if_pos ⟨⟨hp, hin⟩, h1⟩
          have s0 : eqS b ms k i = 0 := if_neg fun z => h1 z.2
          obtain ⟨M', a1, a2⟩ := step 1 (by omega) c0 _ rfl
          refine ⟨M', head _ ?_, a2⟩
          rw [if_pos hp, if_pos hin, if_neg (by rw [n_eq (by omega) (by omega)]; exact h1), two, hs1 _ s0]
          exact a1
      · have c0 : eqC b ms k i = 0 := if_neg fun z => hin z.1.2
        have s0 : eqS b ms k i = 0 := if_neg fun z => hin z.1.2
        obtain ⟨M', a1, a2⟩ := step 0 (by omega) c0 _ rfl
        refine ⟨M', head _ ?_, a2⟩
        rw [if_pos hp, if_neg hin, hs0 s0]
        exact a1
    · have c0 : eqC b ms k i = 0 := if_neg fun z => hp z.1.1
      have s0 : eqS b ms k i = 0 := if_neg fun z => hp z.1.1
      obtain ⟨M', a1, a2⟩ := step 0 (by omega) c0 _ rfl
      refine ⟨M', head _ ?_, a2⟩
      rw [if_neg hp, hs0 s0]
      exact a1
theorem q_layEq (hq : zkd q = (10, 0)) (hq2 : q + 18 < 126) (hW : Wf b) {ms : Nat → Nat} (hM : MV b ms) {k r : Nat} (hk : k < b 3) (hr : r < 12) {M : ZM} (hB : BRep b q M) (hP : SPl b M) (hR : SRw 0 ms M) : ∃ M', zEv (d + 2) zmS_layEquation [.ref 411, .ref q, .int (nI k), .ref (565 + r)] M = some (none, M') ∧ LEr b ms k (M'.1 (565 + r)) ∧ frI (fun a _ => a = 565 + r) M M' := by
  have hk12 := cg_12 hW hk
  obtain ⟨M', a1, a2⟩ := q_layEq_11 (d := d) hq hq2 hW hM hk hr 16 0 M (by omega) hB hP hR (fun j hj => absurd hj (Nat.not_lt_zero j))
  refine ⟨M', e_S_layEquation hq (zk_eq hr) ?_, a2⟩
  rw [if_pos ((n_zin (by omega)).mpr hk12), n_clamp (by omega), (hB.2.2.2 k hk).1.1.2]
  have e : Int32.ofInt ((b (149 + 10 * k) : Int) - (sumF (eqS b ms k) 0 : Nat)) = nI (b (149 + 10 * k)) := by
    rw [← oI_nat]
    congr 1
  rw [e] at a1
  exact a1
end QE2
