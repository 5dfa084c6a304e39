/-! THE LAW'S BEGINNING, 1: the texts, the static rows -/
def zflc : List Jvm.Cond := flatC (Jvm.Cond.and given_1 narrow_1)
def zkM (i : Nat) : Nat := ([402, 406, 380, 389, 414, 505, 478, 397, 497, 404, 480, 511, 513, 393, 395, 391, 521] : List Nat).getD i 0
def ztm (i : Nat) : Term := .string "CrossSumsModel" (zkM i)
def zbi1 (i : Nat) : Nat := ([329, 260, 268, 278, 339, 390, 379, 320, 358, 249, 369, 401, 410, 297, 310, 288, 349] : List Nat).getD i 0
theorem zfl_1 : ∀ i, i < 17 → ((zflc[zbi1 i]? = some (Jvm.Cond.exactly (ztm i) "java/lang/String") ∧ zflc[zbi1 i + 1]? = some (Jvm.Cond.eq (.field (ztm i) "java/lang/String" "coder" "B") (.int 0))) ∧ (zflc[zbi1 i + 2]? = some (Jvm.Cond.arrayOf (.field (ztm i) "java/lang/String" "value" "[B") .byte) ∧ zflc[zbi1 i + 3]? = some (Jvm.Cond.eq (.length (.field (ztm i) "java/lang/String" "value" "[B")) (.int (Int32.ofNat (ztx i).length))))) ∧ ∀ j, j < (ztx i).length → zflc[zbi1 i + 4 + j]? = some (Jvm.Cond.eq (.elem (.field (ztm i) "java/lang/String" "value" "[B") (.int (Int32.ofNat j))) (.int ((ztx i).getD j 0))) := by decide +kernel
def zrx (o : Nat) : List Nat := ([[], [], [], [], [], [], [651, 732, 765, 793, 806, 832, 841, 827, 819, 820, 821, 822], [], [1444, 1464, 1488, 1471, 1480, 1481, 1482, 1483, 1484, 1486], [], [2071, 2080, 2081, 2082, 2083, 2084, 2085, 2047, 2066, 2086, 2187, 2170, 2153, 2196, 2201, 2202, 2148]] : List (List Nat)).getD o []
def zqx (o : Nat) : List Nat := ([[], [], [], [], [], [], [258, 356, 367, 419, 377, 400, 409, 388, 295, 308, 318, 327], [], [259, 357, 420, 368, 378, 296, 309, 319, 328, 389], [], [0, 0, 0, 0, 0, 0, 0, 0, 0, 0, 0, 0, 0, 0, 0, 0, 0]] : List (List Nat)).getD o []
theorem zfl_2 : ∀ o, o < 18 → ∀ j, j < (zXl o).length → ∀ e ∈ (zXl o)[j]?, (lw_tbl[(zrx o).getD j 0]? = some (Jvm.Cond.stringRef (zcn o) e.1 (ztxs.getD (e.2 - 1) "")) ∧ (1 ≤ e.2 ∧ e.2 ≤ 17)) ∧ ((o = 10 ∧ e.1 = zkM (e.2 - 1)) ∨ zflc[(zqx o).getD j 0]? = some (Jvm.Cond.eq (.string (zcn o) e.1) (ztm (e.2 - 1)))) := by decide +kernel
def zst (j : Nat) : Term := .static "CrossSums$Rule" (if j = 0 then "WITHOUT_LOW" else "WITHOUT_HIGH") "[J"
def zbi2 (j : Nat) : Nat := if j = 0 then 10 else 21
theorem zfl_3 : ∀ j, j < 2 → (zflc[zbi2 j]? = some (Jvm.Cond.arrayOf (zst j) .long) ∧ zflc[zbi2 j + 1]? = some (Jvm.Cond.eq (.length (zst j)) (.int (Int32.ofNat (zsl j).length)))) ∧ ∀ k, k < (zsl j).length → zflc[zbi2 j + 2 + k]? = some (Jvm.Cond.eq (.elem (zst j) (.int (Int32.ofNat k))) (.long ((zsl j).getD k 0))) := by decide +kernel
theorem zfl_4 : zflc[4]? = some (Jvm.Cond.eq (.static "java/lang/String" "COMPACT_STRINGS" "Z") (.int 1)) ∧ zflc[5]? = some (Jvm.Cond.isRef (.static "jdk/internal/util/Preconditions" "SIOOBE_FORMATTER" "Ljava/util/function/BiFunction;")) := by decide +kernel
theorem zfl_m {c : Jvm.Cond} {i : Nat} (h : zflc[i]? = some c) : c ∈ zflc := List.mem_of_getElem? h
theorem ztx_ne : ∀ i, i < 17 → ∀ j, j < 17 → ztx i = ztx j → i = j := by decide +kernel
theorem ztx_len : ∀ i, i < 17 → (ztx i).length < 100 := by decide +kernel
section QST
variable {s : State} {args : Array Value} {A : Nat → Prop}
/-- a text in the heap: its object, its bytes -/
def zStr (A : Nat → Prop) (s : State) (i : Nat) (q : Nat × Nat) : Prop := va_O "java/lang/String" q.1 A s s.heap ∧ va_OF "java/lang/String" "coder" "B" (.int 0) q.1 A s s.heap ∧ va_OF "java/lang/String" "value" "[B" (.ref q.2) q.1 A s s.heap ∧ va_T .byte q.2 (ztx i).length (fun j => .int ((ztx i).getD j 0)) A s s.heap
theorem zstr_of (h : ∀ c ∈ zflc, c.before args s = true) (hA : ∀ a : Nat, a < s.heap.size → ¬ A a) {i : Nat} (hi : i < 17) : ∃ q : Nat × Nat, zStr A s i q ∧ (ztm i).eval args s none [] s = some (.ref q.1) := by
  obtain ⟨⟨⟨h1, h2⟩, h3, h4⟩, h5⟩ := zfl_1 i hi
  have hlen := ztx_len i hi
  obtain ⟨adK, adV, h6, h7⟩ := vk_Sof (args := args) (s := s) (N := 1) (tm := fun _ => ztm i) (len := [(ztx i).length]) (byt := [ztx i]) (A := A) (fun j hj => by
      obtain rfl : j = 0 := by omega
      show (ztx i).length < 2 ^ 31
      omega) (fun _ _ => h _ (zfl_m h1)) (fun _ _ => h _ (zfl_m h2)) (fun _ _ => h _ (zfl_m h3)) (fun j hj => by
      obtain rfl : j = 0 := by omega
      exact h _ (zfl_m h4)) (fun j hj k hk => by
      obtain rfl : j = 0 := by omega
      exact h _ (zfl_m (h5 k hk))) (fun a b ha hb hne => by omega) hA
  exact ⟨(adK 0, adV 0), h6.1 0 (by omega), h7 0 (by omega)⟩
theorem zstr_ne {i j : Nat} {p q : Nat × Nat} (hi : i < 17) (hj : j < 17) (h1 : zStr A s i p) (h2 : zStr A s j q) (e : p.1 = q.1) : i = j := by
  obtain ⟨-, -, ⟨cf, k, n, f, cell, a1, -, a3, -, a5, -⟩, ⟨cb, b1, -, -, b4, b5, b6, -⟩⟩ := h1
  obtain ⟨-, -, ⟨cf', k', n', f', cell', a1', -, a3', -, a5', -⟩, ⟨cb', b1', -, -, b4', b5', b6', -⟩⟩ := h2
  have ef := Option.some.inj (a1.symm.trans a1')
  injection ef with e1 e2
  injection e2 with e3 e4
  injection e4 with e5 e6
  subst e6
  rw [e] at a3
  have ec := Option.some.inj (a3.symm.trans a3')
  subst ec
  have ev := Option.some.inj (a5.symm.trans a5')
  injection ev with ev
  rw [ev] at b1
  have eb := Option.some.inj (b1.symm.trans b1')
  subst eb
  have l1 := ztx_len i hi
  have l2 := ztx_len j hj
  have el : (ztx i).length = (ztx j).length := by
    have := b5.symm.trans b5'
    exact (n_eq (by omega) (by omega)).mp this
  refine ztx_ne i hi j hj (List.ext_getElem el fun k h1 h2 => ?_)
  have := Option.some.inj ((b6 k h1).symm.trans (b6' k h2))
  injection this with this
  rw [List.getD_eq_getElem?_getD, List.getD_eq_getElem?_getD, List.getElem?_eq_getElem h1, List.getElem?_eq_getElem h2] at this
  exact this
theorem zrow_of (h : ∀ c ∈ zflc, c.before args s = true) (hA : ∀ a : Nat, a < s.heap.size → ¬ A a) {j : Nat} (hj : j < 2) : ∃ t : Nat, (zst j).eval args s none [] s = some (.ref t) ∧ va_T .long t (zsl j).length (fun k => .long ((zsl j).getD k 0)) A s s.heap := by
  obtain ⟨⟨h1, h2⟩, h3⟩ := zfl_3 j hj
  have hl : ∀ j, j < 2 → (zsl j).length < 2 ^ 31 := by decide +kernel
  exact va_Tof (hl j hj) (h _ (zfl_m h1)) (va_eqt (h _ (zfl_m h2))) (fun k hk => va_eqtl (h _ (zfl_m (h3 k hk)))) hA
end QST
