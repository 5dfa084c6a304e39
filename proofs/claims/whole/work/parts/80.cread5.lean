/-! THE CLASS, 14: cages and lines are read -/
theorem rdMem_congr {tp : List Nat} {r r' : Nat → Nat} (hB : PB r) (h : ∀ k, k < 148 → r' k = r k) : ∀ f s S, rdMem tp r' f s S = rdMem tp r f s S
  | 0, _, _ => rfl
  | f + 1, s, S => by
    show (if inB tp (skp tp s) 97 (96 + r' 0) = true ∧ (cOf S).length = 6 then Except.error (8 * skp tp s + 3) else
        match rdC tp s r' false with
        | Except.error e => Except.error e
        | Except.ok q => if S q.1 = true then Except.error (8 * q.2.1 + 2) else if inB tp (skp tp q.2.2) 97 122 = true then rdMem tp r' f (skp tp q.2.2) (upB S q.1) else Except.ok (skp tp q.2.2, upB S q.1)) =
      (if inB tp (skp tp s) 97 (96 + r 0) = true ∧ (cOf S).length = 6 then Except.error (8 * skp tp s + 3) else
        match rdC tp s r false with
        | Except.error e => Except.error e
        | Except.ok q => if S q.1 = true then Except.error (8 * q.2.1 + 2) else if inB tp (skp tp q.2.2) 97 122 = true then rdMem tp r f (skp tp q.2.2) (upB S q.1) else Except.ok (skp tp q.2.2, upB S q.1))
    rw [h 0 (by omega), rdC_congr hB h]
    cases rdC tp s r false with
    | error e => rfl
    | ok q =>
      dsimp only
      rw [rdMem_congr hB h f]
theorem msk_up {S : Nat → Bool} {c : Nat} (hc : c < 36) : msk 36 S ||| 2 ^ c = msk 36 (upB S c) := (msk_set hc (fun x _ hx => by unfold upB; rw [decide_eq_false hx, Bool.or_false]) (by unfold upB; rw [decide_eq_true rfl, Bool.or_true])).symm
def cagE (tp : List Nat) (r : Nat → Nat) (t n u : Nat) (E : Except Nat (Nat × (Nat → Bool))) : Except Nat (Nat × (Nat → Nat)) := match E with
  | .error e => .error e
  | .ok p => .ok (p.1, finR (cagR r (148 + 10 * r 3) t n u) (148 + 10 * r 3) p.2)
section QO
variable {d : Nat} {M : ZM} {tp : List Nat} {s e : Nat} {r : Nat → Nat}
theorem q_cage_124 (hC : CK tp s r M) (hV : PV r) {t n u : Nat} {S : Nat → Bool} (h3 : r 3 < 12) (ht : t ≤ 3) (hn : n ≤ 999999) (hu : u ≤ 1) (hS : ∀ x, S x = true → isO r x = true) (h1 : 1 ≤ (cOf S).length) (h6 : (cOf S).length ≤ 6) (e6 : M.1 65 6 = nI t) (e7 : M.1 65 7 = nI n) :
    ∃ M', h_T_readCage_124 (d + 1) (nB (decide (u = 0))) (nJ (msk 36 S)) M = some (none, M') ∧ fr pTB (pBd 67) M M' ∧ CK tp s (finR (cagR r (148 + 10 * r 3) t n u) (148 + 10 * r 3) S) M' := by
  obtain ⟨M', a1, a2, a3⟩ := q_addCage_b (d := d) zk67 hC.2.2 hV h3 ht hn hu hS h1 h6
  refine ⟨M', e_T_readCage_124 ?_, fr67_B a3, hC.bd a3 a2⟩
  rw [hC.2.1.2, if_pos rfl, e6, e7, a1, zC0_some]
theorem q_cage_124f (h : CF tp e M) {x1 : Int32} {x2 : Int64} : h_T_readCage_124 (d + 1) x1 x2 M = some (none, M) := by
  refine e_T_readCage_124 ?_
  rw [h.2.1, if_neg (n_nem1 (by have := h.2.2; omega))]
theorem q_cage_89f (h : CF tp e M) {x1 x4 x5 : Int32} {x2 : Int64} : h_T_readCage_89 (d + 1) x1 x2 x4 x5 M = some (none, M) := by
  refine e_T_readCage_89 ?_
  rw [h.2.1, if_neg (n_nem1 (by have := h.2.2; omega)), q_isPartEnd_f (d := d) h, zC1_some, if_neg (by decide)]
  exact q_cage_124f (d := d) h
theorem q_cage_55f (h : CF tp e M) {x1 x4 : Int32} {x2 : Int64} : h_T_readCage_55 (d + 1) x1 x2 x4 M = some (none, M) := by
  refine e_T_readCage_55 ?_
  rw [q_readOpenCell_f (d := d) h, zC1_some, h.2.1, if_neg (n_nem1 (by have := h.2.2; omega))]
  exact q_cage_89f (d := d) h
theorem q_readCage_16 (hV : PV r) (hB : PB r) {t n u : Nat} (h3 : r 3 < 12) (ht : t ≤ 3) (hn : n ≤ 999999) (hu : u ≤ 1) : ∀ f i s S (M : ZM), i + f = 400 → tp.length < s + f → i = (cOf S).length → i ≤ 6 → CK tp s r M → (∀ x, S x = true → isO r x = true) → M.1 65 6 = nI t → M.1 65 7 = nI n → ∃ M', h_T_readCage_16 (d + 4) (nB (decide (u = 0))) (nJ (msk 36 S)) (nI i) M = some (none, M') ∧ fr pTB (pBd 67) M M' ∧ CPt tp M' (cagE tp r t n u (rdMem tp r f s S)) := by
  have h36 := hV.n36
  intro f
  induction f with
  | zero => intro i s S M h hn2 hi h6 hC; have := hC.1.2; omega
  | succ f ih =>
    intro i s S M h hn2 hi h6 hC hS e6 e7
    have hs := hC.1.2
    have hl := hC.1.1.1.2
    have hle := skp_le hs
    have eU : rdMem tp r (f + 1) s S = if inB tp (skp tp s) 97 (96 + r 0) = true ∧ (cOf S).length = 6 then Except.error (8 * skp tp s + 3) else
        match rdC tp s r false with
        | Except.error e => Except.error e
        | Except.ok q => if S q.1 = true then Except.error (8 * q.2.1 + 2) else if inB tp (skp tp q.2.2) 97 122 = true then rdMem tp r f (skp tp q.2.2) (upB S q.1) else Except.ok (skp tp q.2.2, upB S q.1) := rfl
    rw [eU]
    -- the loop's head, up to the reading of a cell
    have head : (inB tp (skp tp s) 97 (96 + r 0) = true ∧ (cOf S).length = 6 ∧ ∃ M1, CF tp (8 * skp tp s + 3) M1 ∧ fr pTB (pBd 67) M M1 ∧ ∀ R, h_T_readCage_55 (d + 4) (nB (decide (u = 0))) (nJ (msk 36 S)) (nI i) M1 = some R → h_T_readCage_16 (d + 4) (nB (decide (u = 0))) (nJ (msk 36 S)) (nI i) M = some R) ∨
        (¬ (inB tp (skp tp s) 97 (96 + r 0) = true ∧ (cOf S).length = 6) ∧ ∃ s1 M1, (s1 = s ∨ s1 = skp tp s) ∧ CK tp s1 r M1 ∧ frI pTc M M1 ∧ ∀ R, h_T_readCage_55 (d + 4) (nB (decide (u = 0))) (nJ (msk 36 S)) (nI i) M1 = some R → h_T_readCage_16 (d + 4) (nB (decide (u = 0))) (nJ (msk 36 S)) (nI i) M = some R) := by
      by_cases hi6 : i < 6
      · refine Or.inr ⟨fun z => by omega, s, M, Or.inl rfl, hC, fr.refl, fun R hR => e_T_readCage_16 ?_⟩
        rw [if_pos ((n_lt (by omega) (by omega)).mpr (by omega)), hC.2.1.2, if_pos rfl, if_pos ((n_lt (by omega) (by omega)).mpr hi6)]
        exact hR
      · obtain ⟨M1, a1, a2, a3⟩ := q_isColumn (d := d + 2) hC hV
        cases hcol : inB tp (skp tp s) 97 (96 + r 0) with
        | false =>
          rw [hcol] at a1
          refine Or.inr ⟨(fun z => by cases z.1), skp tp s, M1, Or.inr rfl, a3, a2, fun R hR => e_T_readCage_16 ?_⟩
          rw [if_pos ((n_lt (by omega) (by omega)).mpr (by omega)), hC.2.1.2, if_pos rfl, if_neg (by rw [n_lt (by omega) (by omega)]; exact hi6), a1, zC1_some, if_pos (show nB false = nI 0 from rfl)]
          exact hR
        | true =>
          rw [hcol] at a1
          obtain ⟨M2, b1, b2, b3⟩ := q_fail_k (d := d + 3) a3 (p := skp tp s) (k := 3) (by omega) (by omega)
          refine Or.inl ⟨rfl, by omega, M2, b2, (fr5_B (frT_5 a2)).trans (fr5_B (frT_5 b3)), fun R hR => e_T_readCage_16 ?_⟩
          rw [if_pos ((n_lt (by omega) (by omega)).mpr (by omega)), hC.2.1.2, if_pos rfl, if_neg (by rw [n_lt (by omega) (by omega)]; exact hi6), a1, zC1_some, if_neg (by decide), a3.2.1.1, b1, zC0_some]
          exact hR
    rcases head with ⟨x1, x2, M1, k1, f1, go⟩ | ⟨hx, s1, M1, hs1, k1, f1, go⟩
    · rw [if_pos ⟨x1, x2⟩]
      exact ⟨M1, go _ (q_cage_55f (d := d + 3) k1), f1, k1⟩
    · rw [if_neg hx]
      obtain ⟨v, M2, a1, a2, a3, a4⟩ := q_readOpenCell (d := d) k1 hV hB
      have eS : rdC tp s1 r false = rdC tp s r false := by
        rcases hs1 with z | z
        · rw [z]
        · rw [z]
          unfold rdC celN
          rw [skp_skp hs]
      rw [eS] at a3 a4
      have n67 : ∀ k, 6 ≤ k → M2.1 65 k = M.1 65 k := fun k hk => (a2.1 65 k (fun z => by unfold pT5 at z; omega)).trans (f1.1 65 k (fun z => by unfold pTc at z; omega))
      cases hE : rdC tp s r false with
      | error e1 =>
        rw [hE] at a3
        have a3' : CF tp e1 M2 := a3
        refine ⟨M2, go _ (e_T_readCage_55 ?_), (fr5_B (frT_5 f1)).trans (fr5_B a2), a3⟩
        rw [a1, zC1_some, a3'.2.1, if_neg (n_nem1 (by have := a3'.2.2; omega))]
        exact q_cage_89f (d := d + 3) a3'
      | ok q =>
        rw [hE] at a3
        have a3' : v = nI q.1 ∧ CK tp q.2.2 r M2 ∧ M2.1 65 5 = nI q.2.1 := a3
        obtain ⟨hv, k2, e5⟩ := a3'
        obtain ⟨g1, g2, g3, -⟩ := rdC_ok hB hs hE
        have hq2 := rdC_at hE
        have hcol := rdC_col hE
        have hm := msk36 S
        have hb := l_bit (m := msk 36 S) (d := q.1) (by omega) (by omega)
        rw [msk_bit, decide_eq_true g1.2, Bool.true_and] at hb
        have g4 := hV.2.1 q.1 g1.2
        have hO : isO r q.1 = true := by
          unfold isO
          rw [decide_eq_true g1.1, decide_eq_true (by omega)]
          rfl
        dsimp only
        cases hSq : S q.1 with
        | true =>
          rw [if_pos rfl]
          obtain ⟨M3, b1, b2, b3⟩ := q_fail_k (d := d + 3) k2 (p := q.2.1) (k := 2) (by omega) (by omega)
          refine ⟨M3, go _ (e_T_readCage_55 ?_), ((fr5_B (frT_5 f1)).trans (fr5_B a2)).trans (fr5_B (frT_5 b3)), b2⟩
          rw [a1, zC1_some, k2.2.1.2, if_pos rfl, hv, if_pos (hb.mpr hSq), e5, b1, zC0_some]
          exact q_cage_89f (d := d + 3) b2
        | false =>
          rw [if_neg (by simp)]
          obtain ⟨M3, c1, c2, c3⟩ := q_isPartEnd (d := d + 1) k2 hV
          have hle2 := skp_le g3.2
          have h7 := cOf_up g1.2 hSq
          have hS2 : ∀ x, upB S q.1 x = true → isO r x = true := fun x hx2 => by
            unfold upB at hx2
            rw [Bool.or_eq_true] at hx2
            rcases hx2 with z | z
            · exact hS x z
            · rw [of_decide_eq_true z]; exact hO
          have h66 : (cOf S).length < 6 := by
            rcases Nat.lt_or_ge (cOf S).length 6 with g | g
            · exact g
            · exact absurd ⟨hcol, by omega⟩ hx
          have f3 : fr pTB (pBd 67) M M3 := ((fr5_B (frT_5 f1)).trans (fr5_B a2)).trans (fr5_B (frT_5 c2))
          have n673 : ∀ k, 6 ≤ k → M3.1 65 k = M.1 65 k := fun k hk => (c2.1 65 k (fun z => by unfold pTc at z; omega)).trans (n67 k hk)
          have go2 : ∀ {R : ZR}, (if nB (!decide (skp tp q.2.2 < tp.length) || decide (tq tp (skp tp q.2.2) = 59)) = nI 0 then h_T_readCage_16 (d + 4) (nB (decide (u = 0))) (nJ (msk 36 (upB S q.1))) (nI (i + 1)) M3 else h_T_readCage_124 (d + 4) (nB (decide (u = 0))) (nJ (msk 36 (upB S q.1))) M3) = some R → h_T_readCage_16 (d + 4) (nB (decide (u = 0))) (nJ (msk 36 S)) (nI i) M = some R := fun hR => go _ (e_T_readCage_55 (by
            rw [a1, zC1_some, k2.2.1.2, if_pos rfl, hv, if_neg (fun z => by rw [hb.mp z] at hSq; cases hSq)]
            refine e_T_readCage_89 ?_
            rw [k2.2.1.2, if_pos rfl, c1, zC1_some, l_one g1.2, l_or, msk_up g1.2, n_add1]
            exact hR))
          cases hL : inB tp (skp tp q.2.2) 97 122 with
          | true =>
            have bl := inB_lt hL
            rw [if_pos rfl]
            obtain ⟨M', p1, p2, p3⟩ := ih (i + 1) (skp tp q.2.2) (upB S q.1) M3 (by omega) (by omega) (by omega) (by omega) c3 hS2 ((n673 6 (by omega)).trans e6) ((n673 7 (by omega)).trans e7)
            refine ⟨M', go2 ?_, f3.trans p2, p3⟩
            rw [decide_eq_true bl.1, decide_eq_false (by omega), if_pos (by rfl)]
            exact p1
          | false =>
            rw [if_neg (by simp)]
            by_cases hx2 : skp tp q.2.2 < tp.length ∧ tq tp (skp tp q.2.2) ≠ 59
            · have hcol2 : inB tp (skp tp (skp tp q.2.2)) 97 (96 + r 0) = false := by
                rw [skp_skp g3.2]
                exact col_let hV.1.1.2 hL
              have fail2 : ∃ M5, h_T_readCage_16 (d + 4) (nB (decide (u = 0))) (nJ (msk 36 (upB S q.1))) (nI (i + 1)) M3 = some (none, M5) ∧ fr pTB (pBd 67) M3 M5 ∧ CF tp (8 * skp tp (skp tp q.2.2) + 1) M5 := by
                have body : ∀ {M4 : ZM}, (∃ s4, CK tp s4 r M4 ∧ skp tp s4 = skp tp (skp tp q.2.2)) → ∃ M5, h_T_readCage_55 (d + 4) (nB (decide (u = 0))) (nJ (msk 36 (upB S q.1))) (nI (i + 1)) M4 = some (none, M5) ∧ fr pTB (pBd 67) M4 M5 ∧ CF tp (8 * skp tp (skp tp q.2.2) + 1) M5 := by
                  rintro M4 ⟨s4, k4, h4⟩
                  obtain ⟨v2, M5, p1, p2, p3, p4⟩ := q_readOpenCell (d := d) k4 hV hB
                  rw [rdC_false_of (by rw [h4]; exact hcol2), h4] at p3
                  have p3' : CF tp (8 * skp tp (skp tp q.2.2) + 1) M5 := p3
                  refine ⟨M5, e_T_readCage_55 ?_, fr5_B p2, p3'⟩
                  rw [p1, zC1_some, p3'.2.1, if_neg (n_nem1 (by have := p3'.2.2; omega))]
                  exact q_cage_89f (d := d + 3) p3'
                by_cases hi6 : i + 1 < 6
                · obtain ⟨M5, b1, b2, b3⟩ := body ⟨_, c3, rfl⟩
                  refine ⟨M5, e_T_readCage_16 ?_, b2, b3⟩
                  rw [if_pos ((n_lt (by omega) (by omega)).mpr (by omega)), c3.2.1.2, if_pos rfl, if_pos ((n_lt (by omega) (by omega)).mpr hi6)]
                  exact b1
                · obtain ⟨M4, p1, p2, p3⟩ := q_isColumn (d := d + 2) c3 hV
                  rw [hcol2] at p1
                  obtain ⟨M5, b1, b2, b3⟩ := body ⟨_, p3, by rw [skp_skp hle2.2]⟩
                  refine ⟨M5, e_T_readCage_16 ?_, (fr5_B (frT_5 p2)).trans b2, b3⟩
                  rw [if_pos ((n_lt (by omega) (by omega)).mpr (by omega)), c3.2.1.2, if_pos rfl, if_neg (by rw [n_lt (by omega) (by omega)]; exact hi6), p1, zC1_some, if_pos (show nB false = nI 0 from rfl)]
                  exact b1
              obtain ⟨M5, b1, b2, b3⟩ := fail2
              refine ⟨M5, go2 ?_, f3.trans b2, Or.inr ⟨b3, ?_⟩⟩
              · rw [decide_eq_true hx2.1, decide_eq_false hx2.2, if_pos (by rfl)]
                exact b1
              · rw [skp_skp g3.2]; exact hx2
            · obtain ⟨M5, b1, b2, b3⟩ := q_cage_124 (d := d + 3) c3 hV (t := t) (n := n) (u := u) (S := upB S q.1) h3 ht hn hu hS2 (by omega) (by omega) ((n673 6 (by omega)).trans e6) ((n673 7 (by omega)).trans e7)
              refine ⟨M5, go2 ?_, f3.trans b2, Or.inl b3⟩
              by_cases hx1 : skp tp q.2.2 < tp.length
              · have h59 : tq tp (skp tp q.2.2) = 59 := by
                  rcases Nat.decEq (tq tp (skp tp q.2.2)) 59 with z | z
                  · exact absurd ⟨hx1, z⟩ hx2
                  · exact z
                rw [decide_eq_true hx1, decide_eq_true h59, if_neg (by decide)]
                exact b1
              · rw [decide_eq_false hx1, if_neg (show ¬ nB (!false || decide (tq tp (skp tp q.2.2) = 59)) = nI 0 from (by decide : ¬ nB true = nI 0))]
                exact b1
end QO
