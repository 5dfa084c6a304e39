/-! RUNNING the small machine by hand: a row an instruction, over symbolic states -/
/-- more locals do no harm -/
def zsub (ls ls' : ZL) : Prop := ∀ q ∈ ls, zget ls' q.1 = some q.2
def zsubl : ZL → ZL → Prop
  | [], _ => True
  | q :: l, ls' => zget ls' q.1 = some q.2 ∧ zsubl l ls'
theorem zsubl_sub : ∀ {l ls' : ZL}, zsubl l ls' → zsub l ls'
  | [], _, _ => fun q hq => by cases hq
  | p :: l, ls', h => fun q hq => by
    rcases List.mem_cons.mp hq with e | e
    · rw [e]; exact h.1
    · exact zsubl_sub h.2 q e
theorem zget_cons {k i : Nat} {v : Value} {l : ZL} : zget ((k, v) :: l) i = if k = i then some v else zget l i := by
  simp only [zget]
  by_cases h : k = i
  · rw [if_pos h, zbeq h]; rfl
  · rw [if_neg h]
    cases e : Nat.beq k i with
    | true => exact absurd (Nat.eq_of_beq_eq_true e) h
    | false => rfl
theorem zsub_get {ls ls' : ZL} (h : zsub ls ls') {k : Nat} {v : Value} (hg : zget ls k = some v) : zget ls' k = some v := h (k, v) (zget_mem hg)
theorem zget_del1 {i j : Nat} {v : Value} : ∀ {l : ZL}, zget l j = some v → j ≠ i → ¬ (j + 1 = i ∧ zc2 v = true) → zget (zdel1 i l) j = some v
  | [], h, _, _ => by simp [zget] at h
  | (k, w) :: l, h, h1, h2 => by
    rw [zget_cons] at h
    simp only [zdel1]
    by_cases hk : k = j
    · rw [if_pos hk] at h
      have hw : w = v := Option.some.inj h
      subst hk
      rw [← hw] at h2
      have e : (Nat.beq k i || (Nat.beq (k + 1) i && zc2 w)) = false := by
        rw [Bool.or_eq_false_iff, Bool.and_eq_false_iff]
        refine ⟨?_, ?_⟩
        · cases e : Nat.beq k i with
          | true => exact absurd (Nat.eq_of_beq_eq_true e) h1
          | false => rfl
        · cases e : Nat.beq (k + 1) i with
          | false => exact Or.inl rfl
          | true =>
            right
            cases e2 : zc2 w with
            | false => rfl
            | true => exact absurd ⟨Nat.eq_of_beq_eq_true e, e2⟩ h2
      rw [e]
      show zget ((k, w) :: zdel1 i l) k = some v
      rw [zget_cons, if_pos rfl, hw]
    · rw [if_neg hk] at h
      have ih := zget_del1 h h1 h2
      cases e : (Nat.beq k i || (Nat.beq (k + 1) i && zc2 w)) with
      | true => exact ih
      | false =>
        show zget ((k, w) :: zdel1 i l) j = some v
        rw [zget_cons, if_neg hk]
        exact ih
theorem zget_del2 {i j : Nat} {v : Value} : ∀ {l : ZL}, zget l j = some v → j ≠ i → j ≠ i + 1 → ¬ (j + 1 = i ∧ zc2 v = true) → zget (zdel2 i l) j = some v
  | [], h, _, _, _ => by simp [zget] at h
  | (k, w) :: l, h, h1, h1', h2 => by
    rw [zget_cons] at h
    simp only [zdel2]
    by_cases hk : k = j
    · rw [if_pos hk] at h
      have hw : w = v := Option.some.inj h
      subst hk
      rw [← hw] at h2
      have e : (Nat.beq k i || Nat.beq k (i + 1) || (Nat.beq (k + 1) i && zc2 w)) = false := by
        rw [Bool.or_eq_false_iff, Bool.or_eq_false_iff, Bool.and_eq_false_iff]
        refine ⟨⟨?_, ?_⟩, ?_⟩
        · cases e : Nat.beq k i with
          | true => exact absurd (Nat.eq_of_beq_eq_true e) h1
          | false => rfl
        · cases e : Nat.beq k (i + 1) with
          | true => exact absurd (Nat.eq_of_beq_eq_true e) h1'
          | false => rfl
        · cases e : Nat.beq (k + 1) i with
          | false => exact Or.inl rfl
          | true =>
            right
            cases e2 : zc2 w with
            | false => rfl
            | true => exact absurd ⟨Nat.eq_of_beq_eq_true e, e2⟩ h2
      rw [e]
      show zget ((k, w) :: zdel2 i l) k = some v
      rw [zget_cons, if_pos rfl, hw]
    · rw [if_neg hk] at h
      have ih := zget_del2 h h1 h1' h2
      cases e : (Nat.beq k i || Nat.beq k (i + 1) || (Nat.beq (k + 1) i && zc2 w)) with
      | true => exact ih
      | false =>
        show zget ((k, w) :: zdel2 i l) j = some v
        rw [zget_cons, if_neg hk]
        exact ih
theorem zget_ins_ne {i j : Nat} {v : Value} (h : j ≠ i) : ∀ {l : ZL}, zget (zins i v l) j = zget l j
  | [] => by simp only [zins]; rw [zget_cons, if_neg (Ne.symm h)]
  | (k, w) :: l => by
    simp only [zins]
    cases e : Nat.blt i k with
    | true =>
      show zget ((i, v) :: (k, w) :: l) j = _
      rw [zget_cons, if_neg (Ne.symm h)]
    | false =>
      show zget ((k, w) :: zins i v l) j = _
      rw [zget_cons, zget_cons, zget_ins_ne h]
theorem zget_ins_eq {i : Nat} {v : Value} : ∀ {l : ZL}, (∀ q ∈ l, q.1 ≠ i) → zget (zins i v l) i = some v
  | [], _ => by simp only [zins]; rw [zget_cons, if_pos rfl]
  | (k, w) :: l, h => by
    simp only [zins]
    cases e : Nat.blt i k with
    | true =>
      show zget ((i, v) :: (k, w) :: l) i = _
      rw [zget_cons, if_pos rfl]
    | false =>
      show zget ((k, w) :: zins i v l) i = _
      rw [zget_cons, if_neg (h (k, w) List.mem_cons_self)]
      exact zget_ins_eq fun q hq => h q (List.mem_cons_of_mem _ hq)
theorem zsub_st1 {ls ls' : ZL} (h : zsub ls ls') (i : Nat) (v : Value) : zsub (zst1 ls i v) (zst1 ls' i v) := by
  intro q hq
  have hdel : ∀ q ∈ zdel1 i ls', q.1 ≠ i := fun q hq => (zdel1_mem hq).2.1
  rcases zins_mem hq with e | e
  · rw [e]
    exact zget_ins_eq hdel
  · obtain ⟨e1, e2, e3⟩ := zdel1_mem e
    unfold zst1
    rw [zget_ins_ne e2]
    exact zget_del1 (h q e1) e2 (fun z => e3 ⟨z.1, (zc2_cat _).mp z.2⟩)
theorem zsub_st2 {ls ls' : ZL} (h : zsub ls ls') (i : Nat) (v : Value) : zsub (zst2 ls i v) (zst2 ls' i v) := by
  intro q hq
  have hdel : ∀ q ∈ zdel2 i ls', q.1 ≠ i := fun q hq => (zdel2_mem hq).2.1
  rcases zins_mem hq with e | e
  · rw [e]
    exact zget_ins_eq hdel
  · obtain ⟨e1, e2, e4, e3⟩ := zdel2_mem e
    unfold zst2
    rw [zget_ins_ne e2]
    exact zget_del2 (h q e1) e2 e4 (fun z => e3 ⟨z.1, (zc2_cat _).mp z.2⟩)
theorem zgo_sub {pc : Nat} {off : Int} {ls ls' : ZL} {st : List Value} {x : ZP} (h : zsub ls ls') (hz : zgo pc off ls st = some x) : ∃ l2, zgo pc off ls' st = some (x.1, l2, x.2.2) ∧ zsub x.2.1 l2 := by
  unfold zgo at hz ⊢
  split at hz
  · rename_i t e
    cases hz
    exact ⟨ls', rfl, h⟩
  · cases hz
set_option maxHeartbeats 4000000 in
theorem zpure_sub {o nL : Nat} {i : Instr} {len pc : Nat} {ls ls' : ZL} {st : List Value} {x : ZP} (h : zsub ls ls') (hz : zpure o nL i len pc ls st = some x) : ∃ l2, zpure o nL i len pc ls' st = some (x.1, l2, x.2.2) ∧ zsub x.2.1 l2 := by
  cases i
  case iload_n k =>
    simp only [zpure] at hz ⊢
    split at hz
    · rename_i v hv; cases hz; rw [zsub_get h hv]; exact ⟨_, rfl, h⟩
    · cases hz
  case iload k =>
    simp only [zpure] at hz ⊢
    split at hz
    · rename_i v hv; cases hz; rw [zsub_get h hv]; exact ⟨_, rfl, h⟩
    · cases hz
  case lload_n k =>
    simp only [zpure] at hz ⊢
    split at hz
    · rename_i v hv; cases hz; rw [zsub_get h hv]; exact ⟨_, rfl, h⟩
    · cases hz
  case lload k =>
    simp only [zpure] at hz ⊢
    split at hz
    · rename_i v hv; cases hz; rw [zsub_get h hv]; exact ⟨_, rfl, h⟩
    · cases hz
  case aload_n k =>
    simp only [zpure] at hz ⊢
    split at hz
    · rename_i v hv; cases hz; rw [zsub_get h hv]; exact ⟨_, rfl, h⟩
    · cases hz
  case aload k =>
    simp only [zpure] at hz ⊢
    split at hz
    · rename_i v hv; cases hz; rw [zsub_get h hv]; exact ⟨_, rfl, h⟩
    · cases hz
  case iinc k n =>
    simp only [zpure] at hz ⊢
    split at hz
    · rename_i v hv
      rw [zsub_get h hv]
      dsimp only
      cases hb : Nat.blt k nL with
      | true => rw [hb] at hz; cases hz; exact ⟨_, rfl, zsub_st1 h _ _⟩
      | false => rw [hb] at hz; cases hz
    · cases hz
  case istore_n k =>
    simp only [zpure] at hz ⊢
    split at hz
    · cases hb : Nat.blt k nL with
      | true => rw [hb] at hz; cases hz; exact ⟨_, rfl, zsub_st1 h _ _⟩
      | false => rw [hb] at hz; cases hz
    · cases hz
  case istore k =>
    simp only [zpure] at hz ⊢
    split at hz
    · cases hb : Nat.blt k nL with
      | true => rw [hb] at hz; cases hz; exact ⟨_, rfl, zsub_st1 h _ _⟩
      | false => rw [hb] at hz; cases hz
    · cases hz
  case astore_n k =>
    simp only [zpure] at hz ⊢
    split at hz
    · cases hb : Nat.blt k nL with
      | true => rw [hb] at hz; cases hz; exact ⟨_, rfl, zsub_st1 h _ _⟩
      | false => rw [hb] at hz; cases hz
    · cases hz
  case astore k =>
    simp only [zpure] at hz ⊢
    split at hz
    · cases hb : Nat.blt k nL with
      | true => rw [hb] at hz; cases hz; exact ⟨_, rfl, zsub_st1 h _ _⟩
      | false => rw [hb] at hz; cases hz
    · cases hz
  case lstore_n k =>
    simp only [zpure] at hz ⊢
    split at hz
    · cases hb : Nat.blt (k + 1) nL with
      | true => rw [hb] at hz; cases hz; exact ⟨_, rfl, zsub_st2 h _ _⟩
      | false => rw [hb] at hz; cases hz
    · cases hz
  case lstore k =>
    simp only [zpure] at hz ⊢
    split at hz
    · cases hb : Nat.blt (k + 1) nL with
      | true => rw [hb] at hz; cases hz; exact ⟨_, rfl, zsub_st2 h _ _⟩
      | false => rw [hb] at hz; cases hz
    · cases hz
  case goto off => exact zgo_sub h hz
  case tableswitch d lo hi offs =>
    simp only [zpure] at hz ⊢
    split at hz
    · split at hz
      · rename_i hc
        rw [if_pos hc]
        exact zgo_sub h hz
      · rename_i hc
        rw [if_neg hc]
        split at hz
        · exact zgo_sub h hz
        · cases hz
    · cases hz
  case dup =>
    simp only [zpure] at hz ⊢
    split at hz
    · rename_i a0 r0
      cases hb : zc2 a0 with
      | true => rw [hb] at hz; cases hz
      | false => rw [hb] at hz; cases hz; exact ⟨_, rfl, h⟩
    · cases hz
  case dup2 =>
    simp only [zpure] at hz ⊢
    split at hz
    · rename_i a0 b0 r0
      cases hb : (zc2 a0 || zc2 b0) with
      | true => rw [hb] at hz; cases hz
      | false => rw [hb] at hz; cases hz; exact ⟨_, rfl, h⟩
    · cases hz
  case pop =>
    simp only [zpure] at hz ⊢
    split at hz
    · rename_i a0 r0
      cases hb : zc2 a0 with
      | true => rw [hb] at hz; cases hz
      | false => rw [hb] at hz; cases hz; exact ⟨_, rfl, h⟩
    · cases hz
  all_goals (simp only [zpure] at hz ⊢; first | (cases hz; done) | (cases hz; exact ⟨_, rfl, h⟩) | (repeat' split at hz) <;> first | (cases hz; done) | (cases hz; exact ⟨_, rfl, h⟩) | (cases hz; simp_all; done))
/-- instructions that read or write locals -/
def zlocal (i : Instr) : Bool := match i with
  | .iload_n _ => true
  | .iload _ => true
  | .lload_n _ => true
  | .lload _ => true
  | .aload_n _ => true
  | .aload _ => true
  | .istore_n _ => true
  | .istore _ => true
  | .astore_n _ => true
  | .astore _ => true
  | .lstore_n _ => true
  | .lstore _ => true
  | .iinc _ _ => true
  | _ => false
theorem zlocal_only {y : ZMeth} {o : Nat} {i : Instr} {len pc : Nat} {ls : ZL} {st : List Value} {M : ZM} (h : zlocal i = true) : zheap o i len pc ls st M = none ∧ zends y i st = none ∧ zbuilt o i len pc ls st M = none ∧ zcallee o i st = none := by
  cases i
  all_goals first | (simp only [zlocal] at h; cases h; done) | (refine ⟨rfl, ?_, rfl, rfl⟩; simp only [zends])
theorem zgo_ind {pc : Nat} {off : Int} {ls ls' : ZL} {st : List Value} (hz : zgo pc off ls st = none) : zgo pc off ls' st = none := by
  unfold zgo at hz ⊢
  split at hz
  · cases hz
  · rfl
set_option maxHeartbeats 4000000 in
theorem zpure_ind {o nL : Nat} {i : Instr} {len pc : Nat} {ls ls' : ZL} {st : List Value} (hl : zlocal i = false) (hz : zpure o nL i len pc ls st = none) : zpure o nL i len pc ls' st = none := by
  cases i
  case goto off => exact zgo_ind hz
  case tableswitch d lo hi offs =>
    simp only [zpure] at hz ⊢
    split at hz
    · split at hz
      · rename_i hc
        rw [if_pos hc]
        exact zgo_ind hz
      · rename_i hc
        rw [if_neg hc]
        split at hz
        · exact zgo_ind hz
        · rfl
    · rfl
  case dup =>
    simp only [zpure] at hz ⊢
    split at hz
    · rename_i a0 r0
      cases hb : zc2 a0 with
      | true => rfl
      | false => rw [hb] at hz; cases hz
    · rfl
  case dup2 =>
    simp only [zpure] at hz ⊢
    split at hz
    · rename_i a0 b0 r0
      cases hb : (zc2 a0 || zc2 b0) with
      | true => rfl
      | false => rw [hb] at hz; cases hz
    · rfl
  case pop =>
    simp only [zpure] at hz ⊢
    split at hz
    · rename_i a0 r0
      cases hb : zc2 a0 with
      | true => rfl
      | false => rw [hb] at hz; cases hz
    · rfl
  all_goals first
    | (simp [zlocal] at hl; done)
    | (simp only [zpure] at hz; done)
    | (simp only [zpure]; done)
    | (simp only [zpure] at hz ⊢; (repeat' split at hz) <;> first | (cases hz; done) | rfl | (simp_all; done))
theorem zheap_sub {o : Nat} {i : Instr} {len pc : Nat} {ls ls' : ZL} {st : List Value} {M : ZM} {x : ZS} (hz : zheap o i len pc ls st M = some x) : zheap o i len pc ls' st M = some (x.1, ls', x.2.2) := by
  unfold zheap at hz ⊢
  split at hz
  all_goals (repeat' split at hz)
  all_goals first | (cases hz; done) | (cases hz; simp_all; done) | (cases hz; rfl)
theorem zbuilt_sub {o : Nat} {i : Instr} {len pc : Nat} {ls ls' : ZL} {st : List Value} {M : ZM} {x : ZS} (hz : zbuilt o i len pc ls st M = some x) : zbuilt o i len pc ls' st M = some (x.1, ls', x.2.2) ∧ x.2.1 = ls := by
  unfold zbuilt at hz ⊢
  split at hz
  · split at hz
    · split at hz
      · split at hz
        · cases hz
          constructor
          · simp_all
          · rfl
        · cases hz
      · cases hz
    · cases hz
  · cases hz
theorem zheap_ind {o : Nat} {i : Instr} {len pc : Nat} {ls ls' : ZL} {st : List Value} {M : ZM} (hz : zheap o i len pc ls st M = none) : zheap o i len pc ls' st M = none := by
  cases h : zheap o i len pc ls' st M with
  | none => rfl
  | some x => rw [zheap_sub (ls' := ls) h] at hz; cases hz
theorem zbuilt_ind {o : Nat} {i : Instr} {len pc : Nat} {ls ls' : ZL} {st : List Value} {M : ZM} (hz : zbuilt o i len pc ls st M = none) : zbuilt o i len pc ls' st M = none := by
  cases h : zbuilt o i len pc ls' st M with
  | none => rfl
  | some x => rw [(zbuilt_sub (ls' := ls) h).1] at hz; cases hz
theorem zstep_sub {call : ZMeth → List Value → ZM → Option ZR} {y : ZMeth} {pc : Nat} {ls ls' : ZL} {st : List Value} {M : ZM} {x : ZS ⊕ ZR} (h : zsub ls ls') (hz : zstep call y (pc, ls, st, M) = some x) : (∀ s, x = .inl s → ∃ l2, zstep call y (pc, ls', st, M) = some (.inl (s.1, l2, s.2.2)) ∧ zsub s.2.1 l2) ∧ ∀ r, x = .inr r → zstep call y (pc, ls', st, M) = some (.inr r) := by
  unfold zstep at hz ⊢
  cases hf : zfind (zmC y) pc with
  | none => simp only [hf] at hz; cases hz
  | some il =>
    obtain ⟨i, len⟩ := il
    simp only [hf] at hz ⊢
    unfold zins1 at hz ⊢
    dsimp only at hz ⊢
    cases h1 : zpure (zmO y) (zmL y) i len pc ls st with
    | some t =>
      simp only [h1] at hz
      cases hz
      obtain ⟨l2, e1, e2⟩ := zpure_sub h h1
      simp only [e1]
      exact ⟨fun s e => by cases e; exact ⟨l2, rfl, e2⟩, fun r e => by cases e⟩
    | none =>
      simp only [h1] at hz
      have hloc : zlocal i = false := by
        cases hl : zlocal i with
        | false => rfl
        | true =>
          obtain ⟨g1, g2, g3, g4⟩ := zlocal_only (y := y) (o := zmO y) (len := len) (pc := pc) (ls := ls) (st := st) (M := M) hl
          simp only [g1, g2, g3, g4] at hz
          cases hz
      simp only [zpure_ind (ls' := ls') hloc h1]
      cases h2 : zheap (zmO y) i len pc ls st M with
      | some t =>
        simp only [h2] at hz
        cases hz
        simp only [zheap_sub (ls' := ls') h2]
        have := zheap_ls h2
        exact ⟨fun s e => by cases e; exact ⟨ls', rfl, by rw [this]; exact h⟩, fun r e => by cases e⟩
      | none =>
        simp only [h2] at hz
        simp only [zheap_ind (ls' := ls') h2]
        cases h3 : zends y i st with
        | some v =>
          simp only [h3] at hz ⊢
          cases hz
          exact ⟨fun s e => by (cases e), fun r e => by (cases e; rfl)⟩
        | none =>
          simp only [h3] at hz
          cases h4 : zbuilt (zmO y) i len pc ls st M with
          | some t =>
            simp only [h4] at hz
            cases hz
            obtain ⟨e1, e2⟩ := zbuilt_sub (ls' := ls') h4
            simp only [e1]
            exact ⟨fun s e => by cases e; exact ⟨ls', rfl, by rw [e2]; exact h⟩, fun r e => by cases e⟩
          | none =>
            simp only [h4] at hz
            simp only [zbuilt_ind (ls' := ls') h4]
            cases h5 : zcallee (zmO y) i st with
            | none => simp only [h5] at hz; cases hz
            | some z =>
              obtain ⟨w, a, st'⟩ := z
              simp only [h5] at hz ⊢
              cases h6 : call w a M with
              | none => simp only [h6] at hz; cases hz
              | some rr =>
                obtain ⟨v, M'⟩ := rr
                simp only [h6] at hz ⊢
                cases h7 : zpush w v st' with
                | none => simp only [h7] at hz; cases hz
                | some st2 =>
                  simp only [h7] at hz ⊢
                  cases hz
                  exact ⟨fun s e => by cases e; exact ⟨ls', rfl, h⟩, fun r e => by cases e⟩
theorem zexec_sub {call : ZMeth → List Value → ZM → Option ZR} {y : ZMeth} {r : ZR} : ∀ {n pc : Nat} {ls ls' : ZL} {st : List Value} {M : ZM}, zsub ls ls' → zexec call y n (pc, ls, st, M) = some r → zexec call y n (pc, ls', st, M) = some r
  | 0, _, _, _, _, _, _, h => by simp [zexec] at h
  | n + 1, pc, ls, ls', st, M, hs, h => by
    simp only [zexec] at h ⊢
    cases hz : zstep call y (pc, ls, st, M) with
    | none => simp only [hz] at h; cases h
    | some x =>
      have g := zstep_sub hs hz
      cases x with
      | inl s =>
        obtain ⟨l2, e1, e2⟩ := g.1 s rfl
        simp only [hz] at h
        simp only [e1]
        exact zexec_sub e2 h
      | inr q =>
        simp only [hz] at h
        have g : zstep call y (pc, ls', st, M) = some (.inr q) := g.2 q rfl
        simp only [g]
        exact h
theorem zEx_sub {call : ZMeth → List Value → ZM → Option ZR} {y : ZMeth} {r : ZR} {pc : Nat} {ls ls' : ZL} {st : List Value} {M : ZM} (hs : zsubl ls ls') (h : zEx0 call y (pc, ls, st, M) = some r) : zEx0 call y (pc, ls', st, M) = some r := by
  obtain ⟨n, hn⟩ := zEx0_iff.mp h
  exact zEx0_iff.mpr ⟨n, zexec_sub (zsubl_sub hs) hn⟩
/-! what a step's outcome may be, as the printed rows have it -/
def zC0 (o : Option ZR) (k : ZM → Option ZR) : Option ZR := match o with
  | some (none, M) => k M
  | _ => none
def zC1 (o : Option ZR) (k : Int32 → ZM → Option ZR) : Option ZR := match o with
  | some (some (.int v), M) => k v M
  | _ => none
def zC2 (o : Option ZR) (k : Int64 → ZM → Option ZR) : Option ZR := match o with
  | some (some (.long v), M) => k v M
  | _ => none
def zC3 (o : Option ZR) (k : Nat → ZM → Option ZR) : Option ZR := match o with
  | some (some (.ref v), M) => k v M
  | _ => none
theorem zC0_inv {o : Option ZR} {k : ZM → Option ZR} {r : ZR} (h : zC0 o k = some r) : ∃ M, o = some (none, M) ∧ k M = some r := by
  unfold zC0 at h
  split at h
  · exact ⟨_, rfl, h⟩
  · cases h
theorem zC1_inv {o : Option ZR} {k : Int32 → ZM → Option ZR} {r : ZR} (h : zC1 o k = some r) : ∃ v M, o = some (some (.int v), M) ∧ k v M = some r := by
  unfold zC1 at h
  split at h
  · exact ⟨_, _, rfl, h⟩
  · cases h
theorem zC2_inv {o : Option ZR} {k : Int64 → ZM → Option ZR} {r : ZR} (h : zC2 o k = some r) : ∃ v M, o = some (some (.long v), M) ∧ k v M = some r := by
  unfold zC2 at h
  split at h
  · exact ⟨_, _, rfl, h⟩
  · cases h
theorem zC3_inv {o : Option ZR} {k : Nat → ZM → Option ZR} {r : ZR} (h : zC3 o k = some r) : ∃ v M, o = some (some (.ref v), M) ∧ k v M = some r := by
  unfold zC3 at h
  split at h
  · exact ⟨_, _, rfl, h⟩
  · cases h
theorem zC0_eq {o : Option ZR} {k : ZM → Option ZR} {M : ZM} (h : o = some (none, M)) : zC0 o k = k M := by rw [h]; rfl
theorem zC1_eq {o : Option ZR} {k : Int32 → ZM → Option ZR} {v : Int32} {M : ZM} (h : o = some (some (.int v), M)) : zC1 o k = k v M := by rw [h]; rfl
theorem zC2_eq {o : Option ZR} {k : Int64 → ZM → Option ZR} {v : Int64} {M : ZM} (h : o = some (some (.long v), M)) : zC2 o k = k v M := by rw [h]; rfl
theorem zC3_eq {o : Option ZR} {k : Nat → ZM → Option ZR} {v : Nat} {M : ZM} (h : o = some (some (.ref v), M)) : zC3 o k = k v M := by rw [h]; rfl
theorem zif_inv {c : Prop} [Decidable c] {a b : Option ZR} {r : ZR} (h : (if c then a else b) = some r) : (c ∧ a = some r) ∨ (¬ c ∧ b = some r) := by
  by_cases hc : c
  · rw [if_pos hc] at h; exact Or.inl ⟨hc, h⟩
  · rw [if_neg hc] at h; exact Or.inr ⟨hc, h⟩
theorem zg_inv {c : Prop} [Decidable c] {a : Option ZR} {r : ZR} (h : (if c then a else none) = some r) : c ∧ a = some r := by
  rcases zif_inv h with h | ⟨_, h⟩
  · exact h
  · cases h
section YSTEP
variable {call : ZMeth → List Value → ZM → Option ZR} {m : ZMeth} {pc pc' : Nat} {ls ls' : ZL} {st st' : List Value} {M : ZM} {r : ZR}
theorem y_step {s s' : ZS} (h : zstep call m s = some (.inl s')) (kk : zEx0 call m s' = some r) : zEx0 call m s = some r := (zEx0_next h).trans kk
theorem y_pure {i : Instr} {len : Nat} (hf : zfind (zmC m) pc = some (i, len)) (hz : zpure (zmO m) (zmL m) i len pc ls st = some (pc', ls', st')) (kk : zEx0 call m (pc', ls', st', M) = some r) : zEx0 call m (pc, ls, st, M) = some r :=
  y_step (by unfold zstep zins1; simp only [hf, hz]) kk
theorem y_heap {i : Instr} {len : Nat} {M' : ZM} (hf : zfind (zmC m) pc = some (i, len)) (hp : zpure (zmO m) (zmL m) i len pc ls st = none) (hz : zheap (zmO m) i len pc ls st M = some (pc', ls', st', M')) (kk : zEx0 call m (pc', ls', st', M') = some r) : zEx0 call m (pc, ls, st, M) = some r :=
  y_step (by unfold zstep zins1; simp only [hf, hp, hz]) kk
theorem y_ret {i : Instr} {len : Nat} {v : Option Value} (hf : zfind (zmC m) pc = some (i, len)) (hp : zpure (zmO m) (zmL m) i len pc ls st = none) (hh : zheap (zmO m) i len pc ls st M = none) (hz : zends m i st = some v) (h : some (v, M) = some r) : zEx0 call m (pc, ls, st, M) = some r := by
  rw [← h]
  exact zEx0_end (by unfold zstep zins1; simp only [hf, hp, hh, hz])
/-- the jumps -/
theorem y_cmp {c : Jvm.ClassFile.Cond} {off : Int} {a b : Int32} {t : Nat} {z : Bool} (hf : zfind (zmC m) pc = some (.if_icmp c off, 3)) (ht : ztg pc off = some t) (hz : zcnd c a b = z) (hp : (bif z then t else pc + 3) = pc') (kk : zEx0 call m (pc', ls, st, M) = some r) : zEx0 call m (pc, ls, .int b :: .int a :: st, M) = some r := by
  refine y_pure hf (pc' := pc') (ls' := ls) (st' := st) ?_ kk
  subst hz
  rw [← hp]
  simp only [zpure, ht]
  cases zcnd c a b <;> rfl
theorem y_cnd {c : Jvm.ClassFile.Cond} {off : Int} {a : Int32} {t : Nat} {z : Bool} (hf : zfind (zmC m) pc = some (.ifCond c off, 3)) (ht : ztg pc off = some t) (hz : zcnd c a 0 = z) (hp : (bif z then t else pc + 3) = pc') (kk : zEx0 call m (pc', ls, st, M) = some r) : zEx0 call m (pc, ls, .int a :: st, M) = some r := by
  refine y_pure hf (pc' := pc') (ls' := ls) (st' := st) ?_ kk
  subst hz
  rw [← hp]
  simp only [zpure, ht]
  cases zcnd c a 0 <;> rfl
theorem zc_eqT {a b : Int32} (h : a = b) : zcnd .eq a b = true := decide_eq_true h
theorem zc_eqF {a b : Int32} (h : ¬ a = b) : zcnd .eq a b = false := decide_eq_false h
theorem zc_neT {a b : Int32} (h : ¬ a = b) : zcnd .ne a b = true := by simp only [zcnd, decide_eq_false h]; rfl
theorem zc_neF {a b : Int32} (h : a = b) : zcnd .ne a b = false := by simp only [zcnd, decide_eq_true h]; rfl
theorem zc_ltT {a b : Int32} (h : a < b) : zcnd .lt a b = true := decide_eq_true h
theorem zc_ltF {a b : Int32} (h : ¬ a < b) : zcnd .lt a b = false := decide_eq_false h
theorem zc_geT {a b : Int32} (h : ¬ a < b) : zcnd .ge a b = true := decide_eq_true (Int32.not_lt.mp h)
theorem zc_geF {a b : Int32} (h : a < b) : zcnd .ge a b = false := decide_eq_false (Int32.not_le.mpr h)
theorem zc_gtT {a b : Int32} (h : b < a) : zcnd .gt a b = true := decide_eq_true h
theorem zc_gtF {a b : Int32} (h : ¬ b < a) : zcnd .gt a b = false := decide_eq_false h
theorem zc_leT {a b : Int32} (h : ¬ b < a) : zcnd .le a b = true := decide_eq_true (Int32.not_lt.mp h)
theorem zc_leF {a b : Int32} (h : b < a) : zcnd .le a b = false := decide_eq_false (Int32.not_le.mpr h)
theorem y_sw {d lo hi off : Int} {offs : Array Int} {len k t : Nat} {a : Int32} (hf : zfind (zmC m) pc = some (.tableswitch d lo hi offs, len)) (h : a.toInt = lo + k) (hk : lo + k ≤ hi) (ho : offs[k]? = some off) (ht : ztg pc off = some t) (kk : zEx0 call m (t, ls, st, M) = some r) : zEx0 call m (pc, ls, .int a :: st, M) = some r := by
  refine y_pure hf (pc' := t) (ls' := ls) (st' := st) ?_ kk
  simp only [zpure]
  rw [if_neg (by omega), show (a.toInt - lo).toNat = k by omega, ho]
  simp only [zgo, ht]
theorem y_swD {d lo hi : Int} {offs : Array Int} {len t : Nat} {a : Int32} (hf : zfind (zmC m) pc = some (.tableswitch d lo hi offs, len)) (h : a.toInt < lo ∨ hi < a.toInt) (ht : ztg pc d = some t) (kk : zEx0 call m (t, ls, st, M) = some r) : zEx0 call m (pc, ls, .int a :: st, M) = some r := by
  refine y_pure hf (pc' := t) (ls' := ls) (st' := st) ?_ kk
  simp only [zpure]
  rw [if_pos h]
  simp only [zgo, ht]
/-- the heap -/
theorem y_getf {k ci f t nst q : Nat} {v : Value} (hf : zfind (zmC m) pc = some (.getfield k, 3)) (h15 : Nat.beq (zmO m) 15 = false) (hF : zF (zmO m) k = some (ci, f, t, nst)) (hk : zkd q = (10 + ci, 0)) (hv : zfld M q f t = v) (hp : pc + 3 = pc') (kk : zEx0 call m (pc', ls, v :: st, M) = some r) : zEx0 call m (pc, ls, .ref q :: st, M) = some r := by
  refine y_heap (pc' := pc') (ls' := ls) (st' := v :: st) (M' := M) hf rfl ?_ kk
  have h : ¬ zmO m = 15 := fun e => by rw [zbeq e] at h15; cases h15
  subst hv hp
  simp only [zheap, if_neg h, hF, if_pos hk]
theorem y_getV {q : Nat} (hf : zfind (zmC m) pc = some (.getfield 9, 3)) (h15 : Nat.beq (zmO m) 15 = true) (hk : (zkd q).1 = 7) (hp : pc + 3 = pc') (kk : zEx0 call m (pc', ls, .ref (q + 31) :: st, M) = some r) : zEx0 call m (pc, ls, .ref q :: st, M) = some r := by
  refine y_heap (pc' := pc') (ls' := ls) (st' := .ref (q + 31) :: st) (M' := M) hf rfl ?_ kk
  subst hp
  simp only [zheap, if_pos (Nat.eq_of_beq_eq_true h15), if_pos hk, if_true]
theorem y_getW {q : Nat} (hf : zfind (zmC m) pc = some (.getfield 15, 3)) (h15 : Nat.beq (zmO m) 15 = true) (hk : (zkd q).1 = 7) (hp : pc + 3 = pc') (kk : zEx0 call m (pc', ls, .int 0 :: st, M) = some r) : zEx0 call m (pc, ls, .ref q :: st, M) = some r := by
  refine y_heap (pc' := pc') (ls' := ls) (st' := .int 0 :: st) (M' := M) hf rfl ?_ kk
  subst hp
  simp only [zheap, if_pos (Nat.eq_of_beq_eq_true h15), if_pos hk, if_true, if_neg (show ¬ (15 : Nat) = 9 by decide)]
theorem y_putI {k ci f q : Nat} {v : Int32} (hf : zfind (zmC m) pc = some (.putfield k, 3)) (hF : zF (zmO m) k = some (ci, f, 0, 0)) (hk : zkd q = (10 + ci, 0)) (hp : pc + 3 = pc') (kk : zEx0 call m (pc', ls, st, zpi M q f v) = some r) : zEx0 call m (pc, ls, .int v :: .ref q :: st, M) = some r := by
  refine y_heap (pc' := pc') (ls' := ls) (st' := st) (M' := zpi M q f v) hf rfl ?_ kk
  subst hp
  simp only [zheap, hF, if_pos hk]
theorem y_putL {k ci f q : Nat} {v : Int64} (hf : zfind (zmC m) pc = some (.putfield k, 3)) (hF : zF (zmO m) k = some (ci, f, 1, 0)) (hk : zkd q = (10 + ci, 0)) (hp : pc + 3 = pc') (kk : zEx0 call m (pc', ls, st, zpl M q f v) = some r) : zEx0 call m (pc, ls, .long v :: .ref q :: st, M) = some r := by
  refine y_heap (pc' := pc') (ls' := ls) (st' := st) (M' := zpl M q f v) hf rfl ?_ kk
  subst hp
  simp only [zheap, hF, if_pos hk]
theorem y_putZ {k ci f q : Nat} {v : Int32} (hf : zfind (zmC m) pc = some (.putfield k, 3)) (hF : zF (zmO m) k = some (ci, f, 2, 0)) (hk : zkd q = (10 + ci, 0)) (hv : v = 0 ∨ v = 1) (hp : pc + 3 = pc') (kk : zEx0 call m (pc', ls, st, zpi M q f v) = some r) : zEx0 call m (pc, ls, .int v :: .ref q :: st, M) = some r := by
  refine y_heap (pc' := pc') (ls' := ls) (st' := st) (M' := zpi M q f v) hf rfl ?_ kk
  subst hp
  simp only [zheap, hF]
  rw [if_pos ⟨hk, hv⟩]
theorem y_iald {n q : Nat} {i : Int32} (hf : zfind (zmC m) pc = some (.iaload, 1)) (hk : zkd q = (1, n)) (hi : zin i n = true) (hp : pc + 1 = pc') (kk : zEx0 call m (pc', ls, .int (M.1 q i.toNatClampNeg) :: st, M) = some r) : zEx0 call m (pc, ls, .int i :: .ref q :: st, M) = some r := by
  refine y_heap (pc' := pc') (ls' := ls) (st' := _) (M' := M) hf rfl ?_ kk
  subst hp
  simp only [zheap, hk]
  rw [if_pos ⟨trivial, hi⟩]
theorem y_sald {i : Int32} (hf : zfind (zmC m) pc = some (.iaload, 1)) (hi : zin i (M.1 63 0).toNatClampNeg = true) (hp : pc + 1 = pc') (kk : zEx0 call m (pc', ls, .int (M.1 0 i.toNatClampNeg) :: st, M) = some r) : zEx0 call m (pc, ls, .int i :: .ref 0 :: st, M) = some r := by
  refine y_heap (pc' := pc') (ls' := ls) (st' := _) (M' := M) hf rfl ?_ kk
  subst hp
  have h0 : (zkd 0).1 = 0 := rfl
  simp only [zheap, h0]
  rw [if_neg (by simp), if_pos ⟨trivial, hi⟩]
theorem y_zald {n q : Nat} {i : Int32} (hf : zfind (zmC m) pc = some (.baload, 1)) (hk : zkd q = (3, n)) (hi : zin i n = true) (hp : pc + 1 = pc') (kk : zEx0 call m (pc', ls, .int (M.1 q i.toNatClampNeg) :: st, M) = some r) : zEx0 call m (pc, ls, .int i :: .ref q :: st, M) = some r := by
  refine y_heap (pc' := pc') (ls' := ls) (st' := _) (M' := M) hf rfl ?_ kk
  subst hp
  simp only [zheap, hk]
  rw [if_pos ⟨Or.inl trivial, hi⟩]
theorem y_bald {n q : Nat} {i : Int32} (hf : zfind (zmC m) pc = some (.baload, 1)) (hk : zkd q = (4, n)) (hi : zin i n = true) (hp : pc + 1 = pc') (kk : zEx0 call m (pc', ls, .int (M.1 q i.toNatClampNeg) :: st, M) = some r) : zEx0 call m (pc, ls, .int i :: .ref q :: st, M) = some r := by
  refine y_heap (pc' := pc') (ls' := ls) (st' := _) (M' := M) hf rfl ?_ kk
  subst hp
  simp only [zheap, hk]
  rw [if_pos ⟨Or.inr trivial, hi⟩]
theorem y_tald {w q : Nat} {i : Int32} (hf : zfind (zmC m) pc = some (.baload, 1)) (hk : zkd q = (9, w)) (hi : zin i (ztx w).length = true) (hp : pc + 1 = pc') (kk : zEx0 call m (pc', ls, .int ((ztx w).getD i.toNatClampNeg 0) :: st, M) = some r) : zEx0 call m (pc, ls, .int i :: .ref q :: st, M) = some r := by
  refine y_heap (pc' := pc') (ls' := ls) (st' := _) (M' := M) hf rfl ?_ kk
  subst hp
  simp only [zheap, hk]
  rw [if_neg (by simp), if_pos ⟨trivial, hi⟩]
theorem y_lald {n q : Nat} {i : Int32} (hf : zfind (zmC m) pc = some (.laload, 1)) (hk : zkd q = (2, n)) (hi : zin i n = true) (hp : pc + 1 = pc') (kk : zEx0 call m (pc', ls, .long (M.2 q i.toNatClampNeg) :: st, M) = some r) : zEx0 call m (pc, ls, .int i :: .ref q :: st, M) = some r := by
  refine y_heap (pc' := pc') (ls' := ls) (st' := _) (M' := M) hf rfl ?_ kk
  subst hp
  simp only [zheap, hk]
  rw [if_pos ⟨trivial, hi⟩]
theorem y_cald {n q : Nat} {i : Int32} (hf : zfind (zmC m) pc = some (.laload, 1)) (hk : zkd q = (6, n)) (hi : zin i (zsl n).length = true) (hp : pc + 1 = pc') (kk : zEx0 call m (pc', ls, .long ((zsl n).getD i.toNatClampNeg 0) :: st, M) = some r) : zEx0 call m (pc, ls, .int i :: .ref q :: st, M) = some r := by
  refine y_heap (pc' := pc') (ls' := ls) (st' := _) (M' := M) hf rfl ?_ kk
  subst hp
  simp only [zheap, hk]
  rw [if_neg (by simp), if_pos ⟨trivial, hi⟩]
theorem y_aald {j q q' : Nat} {i : Int32} (hf : zfind (zmC m) pc = some (.aaload, 1)) (hk : zkd q = (5, j)) (hi : zin i (zra j).1 = true) (hq : q + (zra j).2.1 + (zra j).2.2 * i.toNatClampNeg = q') (hp : pc + 1 = pc') (kk : zEx0 call m (pc', ls, .ref q' :: st, M) = some r) : zEx0 call m (pc, ls, .int i :: .ref q :: st, M) = some r := by
  refine y_heap (pc' := pc') (ls' := ls) (st' := _) (M' := M) hf rfl ?_ kk
  subst hp hq
  simp only [zheap, hk]
  rw [if_pos ⟨trivial, hi⟩]
theorem y_iast {n q : Nat} {i v : Int32} (hf : zfind (zmC m) pc = some (.iastore, 1)) (hk : zkd q = (1, n)) (hi : zin i n = true) (hp : pc + 1 = pc') (kk : zEx0 call m (pc', ls, st, zpi M q i.toNatClampNeg v) = some r) : zEx0 call m (pc, ls, .int v :: .int i :: .ref q :: st, M) = some r := by
  refine y_heap (pc' := pc') (ls' := ls) (st' := st) (M' := _) hf rfl ?_ kk
  subst hp
  simp only [zheap, hk]
  rw [if_pos ⟨trivial, hi⟩]
theorem y_zast {n q : Nat} {i v : Int32} (hf : zfind (zmC m) pc = some (.bastore, 1)) (hk : zkd q = (3, n)) (hi : zin i n = true) (hp : pc + 1 = pc') (kk : zEx0 call m (pc', ls, st, zpi M q i.toNatClampNeg (vp_nar .boolean v)) = some r) : zEx0 call m (pc, ls, .int v :: .int i :: .ref q :: st, M) = some r := by
  refine y_heap (pc' := pc') (ls' := ls) (st' := st) (M' := _) hf rfl ?_ kk
  subst hp
  simp only [zheap, hk]
  rw [if_pos ⟨trivial, hi⟩]
theorem y_bast {n q : Nat} {i v : Int32} (hf : zfind (zmC m) pc = some (.bastore, 1)) (hk : zkd q = (4, n)) (hi : zin i n = true) (hp : pc + 1 = pc') (kk : zEx0 call m (pc', ls, st, zpi M q i.toNatClampNeg (vp_nar .byte v)) = some r) : zEx0 call m (pc, ls, .int v :: .int i :: .ref q :: st, M) = some r := by
  refine y_heap (pc' := pc') (ls' := ls) (st' := st) (M' := _) hf rfl ?_ kk
  subst hp
  simp only [zheap, hk]
  rw [if_neg (by simp), if_pos ⟨trivial, hi⟩]
theorem y_last {n q : Nat} {i : Int32} {v : Int64} (hf : zfind (zmC m) pc = some (.lastore, 1)) (hk : zkd q = (2, n)) (hi : zin i n = true) (hp : pc + 1 = pc') (kk : zEx0 call m (pc', ls, st, zpl M q i.toNatClampNeg v) = some r) : zEx0 call m (pc, ls, .long v :: .int i :: .ref q :: st, M) = some r := by
  refine y_heap (pc' := pc') (ls' := ls) (st' := st) (M' := _) hf rfl ?_ kk
  subst hp
  simp only [zheap, hk]
  rw [if_pos ⟨trivial, hi⟩]
theorem y_alen {j n q : Nat} {v : Int32} (hf : zfind (zmC m) pc = some (.arraylength, 1)) (hk : zkd q = (j, n)) (hj : j = 1 ∨ j = 2 ∨ j = 3 ∨ j = 4) (hv : Int32.ofNat n = v) (hp : pc + 1 = pc') (kk : zEx0 call m (pc', ls, .int v :: st, M) = some r) : zEx0 call m (pc, ls, .ref q :: st, M) = some r := by
  refine y_heap (pc' := pc') (ls' := ls) (st' := _) (M' := M) hf rfl ?_ kk
  subst hp hv
  simp only [zheap, hk]
  rw [if_pos hj]
theorem y_slen (hf : zfind (zmC m) pc = some (.arraylength, 1)) (hp : pc + 1 = pc') (kk : zEx0 call m (pc', ls, .int (M.1 63 0) :: st, M) = some r) : zEx0 call m (pc, ls, .ref 0 :: st, M) = some r := by
  refine y_heap (pc' := pc') (ls' := ls) (st' := _) (M' := M) hf rfl ?_ kk
  subst hp
  have h0 : (zkd 0).1 = 0 := rfl
  simp only [zheap, h0]
  rw [if_neg (by simp), if_neg (by simp), if_pos trivial]
theorem y_tlen {q w : Nat} (hf : zfind (zmC m) pc = some (.arraylength, 1)) (hk : zkd q = (9, w)) (h0 : q ≠ 0) (hp : pc + 1 = pc') (kk : zEx0 call m (pc', ls, .int (Int32.ofNat (ztx w).length) :: st, M) = some r) : zEx0 call m (pc, ls, .ref q :: st, M) = some r := by
  refine y_heap (pc' := pc') (ls' := ls) (st' := _) (M' := M) hf rfl ?_ kk
  subst hp
  simp only [zheap, hk]
  rw [if_neg (by simp), if_neg (by simp), if_neg h0, if_pos trivial]
theorem y_ldcX {k q : Nat} (hf : zfind (zmC m) pc = some (.ldc k, 2)) (hp0 : zI (zmO m) k = none) (hX : zX (zmO m) k = some q) (hp : pc + 2 = pc') (kk : zEx0 call m (pc', ls, .ref q :: st, M) = some r) : zEx0 call m (pc, ls, st, M) = some r := by
  refine y_heap (pc' := pc') (ls' := ls) (st' := _) (M' := M) hf (by simp only [zpure, hp0]) ?_ kk
  subst hp
  simp only [zheap, hX]
theorem y_ldwX {k q : Nat} (hf : zfind (zmC m) pc = some (.ldc_w k, 3)) (hp0 : zI (zmO m) k = none) (hX : zX (zmO m) k = some q) (hp : pc + 3 = pc') (kk : zEx0 call m (pc', ls, .ref q :: st, M) = some r) : zEx0 call m (pc, ls, st, M) = some r := by
  refine y_heap (pc' := pc') (ls' := ls) (st' := _) (M' := M) hf (by simp only [zpure, hp0]) ?_ kk
  subst hp
  simp only [zheap, hX]
theorem y_gets {k q : Nat} {v : Value} (hf : zfind (zmC m) pc = some (.getstatic k, 3)) (hG : zG (zmO m) k = some q) (hv : (if q = 59 then Value.int 1 else if q = 62 then .float 0 else .ref q) = v) (hp : pc + 3 = pc') (kk : zEx0 call m (pc', ls, v :: st, M) = some r) : zEx0 call m (pc, ls, st, M) = some r := by
  refine y_heap (pc' := pc') (ls' := ls) (st' := _) (M' := M) hf rfl ?_ kk
  subst hp hv
  simp only [zheap, hG]
/-- calls -/
theorem zrecv_o {q o : Nat} (h : zkd q = (10 + o, 0)) (ho : Nat.beq o 15 = false) : zrecv q o = true := by
  unfold zrecv
  rw [if_neg (fun e => by rw [zbeq e] at ho; cases ho)]
  exact decide_eq_true h
theorem zrecv_s {q : Nat} (h : (zkd q).1 = 7) : zrecv q 15 = true := by
  unfold zrecv
  rw [if_pos rfl]
  exact decide_eq_true h
theorem y_callV {k nst q : Nat} {y : ZMeth} {a' st2 : List Value} {v : Option Value} {M1 : ZM} (hf : zfind (zmC m) pc = some (.invokevirtual k, 3)) (hM : zM (zmO m) k = some (y, nst)) (ht : (st.take (zmA y)).reverse = .ref q :: a') (hd : st.drop (zmA y) = st') (hr : zrest st' = true) (hk : zrecv q (zmO y) = true) (hc : (Nat.beq (a'.length + 1) (zmA y) && Nat.beq (zmS y) 0 && zfit y (.ref q :: a')) = true)
    (he : call y (.ref q :: a') M = some (v, M1)) (hq : zpush y v st' = some st2) (hp : pc + 3 = pc') (kk : zEx0 call m (pc', ls, st2, M1) = some r) : zEx0 call m (pc, ls, st, M) = some r := by
  have hc3 := Bool.and_eq_true_iff.mp hc
  have hc2 := Bool.and_eq_true_iff.mp hc3.1
  have hz : zcallee (zmO m) (.invokevirtual k) st = some (y, .ref q :: a', st') := by
    simp only [zcallee, hM, ht, hd, hr]
    rw [if_pos ⟨hk, Nat.eq_of_beq_eq_true hc2.1, Nat.eq_of_beq_eq_true hc2.2, hc3.2⟩]
  refine y_step (s' := (pc', ls, st2, M1)) ?_ kk
  subst hp
  have h1 : zpure (zmO m) (zmL m) (.invokevirtual k) 3 pc ls st = none := rfl
  have h2 : zheap (zmO m) (.invokevirtual k) 3 pc ls st M = none := rfl
  have h3 : zends m (.invokevirtual k) st = none := by simp only [zends]
  have h4 : zbuilt (zmO m) (.invokevirtual k) 3 pc ls st M = none := rfl
  unfold zstep zins1
  simp only [hf, h1, h2, h3, h4, hz, he, hq]
theorem y_callS {k nst : Nat} {y : ZMeth} {a st2 : List Value} {v : Option Value} {M1 : ZM} (hf : zfind (zmC m) pc = some (.invokestatic k, 3)) (hB : zB (zmO m) k = none) (hM : zM (zmO m) k = some (y, nst)) (ht : (st.take (zmA y)).reverse = a) (hd : st.drop (zmA y) = st') (hc : (Nat.beq (st.take (zmA y)).length (zmA y) && Nat.beq (zmS y) 1 && zrest st' && zfit y a) = true)
    (he : call y a M = some (v, M1)) (hq : zpush y v st' = some st2) (hp : pc + 3 = pc') (kk : zEx0 call m (pc', ls, st2, M1) = some r) : zEx0 call m (pc, ls, st, M) = some r := by
  have hc4 := Bool.and_eq_true_iff.mp hc
  have hc3 := Bool.and_eq_true_iff.mp hc4.1
  have hc2 := Bool.and_eq_true_iff.mp hc3.1
  have hz : zcallee (zmO m) (.invokestatic k) st = some (y, a, st') := by
    simp only [zcallee, hM, ht, hd]
    rw [if_pos ⟨Nat.eq_of_beq_eq_true hc2.1, Nat.eq_of_beq_eq_true hc2.2, hc3.2, hc4.2⟩]
  refine y_step (s' := (pc', ls, st2, M1)) ?_ kk
  subst hp
  have h1 : zpure (zmO m) (zmL m) (.invokestatic k) 3 pc ls st = none := rfl
  have h2 : zheap (zmO m) (.invokestatic k) 3 pc ls st M = none := rfl
  have h3 : zends m (.invokestatic k) st = none := by simp only [zends]
  have h4 : zbuilt (zmO m) (.invokestatic k) 3 pc ls st M = none := by
    simp only [zbuilt, hB]
  unfold zstep zins1
  simp only [hf, h1, h2, h3, h4, hz, he, hq]
theorem y_copyI {k q d a b : Nat} {sp dp n : Int32} (hf : zfind (zmC m) pc = some (.invokestatic k, 3)) (hB : zB (zmO m) k = some 3) (hr : zrest st = true) (k1 : zkd q = (1, a)) (k2 : zkd d = (1, b)) (hne : q ≠ d) (hc : (0 ≤ n.toInt ∧ 0 ≤ dp.toInt ∧ 0 ≤ sp.toInt) ∧ sp.toNatClampNeg + n.toNatClampNeg ≤ a ∧ dp.toNatClampNeg + n.toNatClampNeg ≤ b) (hp : pc + 3 = pc')
    (kk : zEx0 call m (pc', ls, st, zsi M d (va_cpy (M.1 q) (M.1 d) sp.toNatClampNeg dp.toNatClampNeg n.toNatClampNeg)) = some r) : zEx0 call m (pc, ls, .int n :: .int dp :: .ref d :: .int sp :: .ref q :: st, M) = some r := by
  refine y_step (s' := (pc', ls, st, _)) ?_ kk
  subst hp
  have h3 : zends m (.invokestatic k) (.int n :: .int dp :: .ref d :: .int sp :: .ref q :: st) = none := by simp only [zends]
  have h1 : zpure (zmO m) (zmL m) (.invokestatic k) 3 pc ls (.int n :: .int dp :: .ref d :: .int sp :: .ref q :: st) = none := rfl
  have h2 : zheap (zmO m) (.invokestatic k) 3 pc ls (.int n :: .int dp :: .ref d :: .int sp :: .ref q :: st) M = none := rfl
  have hcp : zcopy M q d sp.toNatClampNeg dp.toNatClampNeg n.toNatClampNeg = some (zsi M d (va_cpy (M.1 q) (M.1 d) sp.toNatClampNeg dp.toNatClampNeg n.toNatClampNeg)) := by
    unfold zcopy
    rw [k1, k2, if_pos ⟨rfl, rfl, hne, hc.2.1, hc.2.2⟩]
  unfold zstep zins1
  simp only [hf, h1, h2, h3, zbuilt, hB]
  rw [if_pos ⟨hc.1.1, hc.1.2.1, hc.1.2.2, hr⟩, hcp]
theorem y_copyL {k q d a b : Nat} {sp dp n : Int32} (hf : zfind (zmC m) pc = some (.invokestatic k, 3)) (hB : zB (zmO m) k = some 3) (hr : zrest st = true) (k1 : zkd q = (2, a)) (k2 : zkd d = (2, b)) (hne : q ≠ d) (hc : (0 ≤ n.toInt ∧ 0 ≤ dp.toInt ∧ 0 ≤ sp.toInt) ∧ sp.toNatClampNeg + n.toNatClampNeg ≤ a ∧ dp.toNatClampNeg + n.toNatClampNeg ≤ b) (hp : pc + 3 = pc')
    (kk : zEx0 call m (pc', ls, st, zsl' M d (va_cpy (M.2 q) (M.2 d) sp.toNatClampNeg dp.toNatClampNeg n.toNatClampNeg)) = some r) : zEx0 call m (pc, ls, .int n :: .int dp :: .ref d :: .int sp :: .ref q :: st, M) = some r := by
  refine y_step (s' := (pc', ls, st, _)) ?_ kk
  subst hp
  have h3 : zends m (.invokestatic k) (.int n :: .int dp :: .ref d :: .int sp :: .ref q :: st) = none := by simp only [zends]
  have h1 : zpure (zmO m) (zmL m) (.invokestatic k) 3 pc ls (.int n :: .int dp :: .ref d :: .int sp :: .ref q :: st) = none := rfl
  have h2 : zheap (zmO m) (.invokestatic k) 3 pc ls (.int n :: .int dp :: .ref d :: .int sp :: .ref q :: st) M = none := rfl
  have hcp : zcopy M q d sp.toNatClampNeg dp.toNatClampNeg n.toNatClampNeg = some (zsl' M d (va_cpy (M.2 q) (M.2 d) sp.toNatClampNeg dp.toNatClampNeg n.toNatClampNeg)) := by
    unfold zcopy
    rw [k1, k2, if_neg (fun h => absurd (show (2 : Nat) = 1 from h.1) (by decide)), if_pos ⟨rfl, rfl, hne, hc.2.1, hc.2.2⟩]
  unfold zstep zins1
  simp only [hf, h1, h2, h3, zbuilt, hB]
  rw [if_pos ⟨hc.1.1, hc.1.2.1, hc.1.2.2, hr⟩, hcp]
end YSTEP
def zL {α : Type} (a : α) (k : α → Option ZR) : Option ZR := k a
theorem zL_inv {α : Type} {a : α} {k : α → Option ZR} {r : ZR} (h : zL a k = some r) : ∃ y, y = a ∧ k y = some r := ⟨a, rfl, h⟩
theorem zd_inv {c : Prop} [Decidable c] {a : Option ZR} {r : ZR} (h : (if c then none else a) = some r) : ¬ c ∧ a = some r := by
  by_cases hc : c
  · rw [if_pos hc] at h; cases h
  · rw [if_neg hc] at h; exact ⟨hc, h⟩
theorem zsw_ne {v w : Int32} {k : Int} (hw : w.toInt = k) (h : ¬ v = w) : ¬ v.toInt = k := fun e => h (Int32.toInt_inj.mp (e.trans hw.symm))
section YSTEP2
variable {call : ZMeth → List Value → ZM → Option ZR} {m : ZMeth} {pc pc' : Nat} {ls ls' : ZL} {st st' : List Value} {M : ZM} {r : ZR}
theorem zM_gen {M1 : ZM} (h : M1 = M) (kk : zEx0 call m (pc, ls, st, M1) = some r) : zEx0 call m (pc, ls, st, M) = some r := h ▸ kk
theorem zT_gen {x y : Int32} (h : y = x) (kk : zEx0 call m (pc, ls, .int y :: st, M) = some r) : zEx0 call m (pc, ls, .int x :: st, M) = some r := h ▸ kk
theorem zT_genL {x y : Int64} (h : y = x) (kk : zEx0 call m (pc, ls, .long y :: st, M) = some r) : zEx0 call m (pc, ls, .long x :: st, M) = some r := h ▸ kk
theorem y_idiv {a b : Int32} (hf : zfind (zmC m) pc = some (.idiv, 1)) (hb : ¬ b = 0) (hp : pc + 1 = pc') (kk : zEx0 call m (pc', ls, .int (a / b) :: st, M) = some r) : zEx0 call m (pc, ls, .int b :: .int a :: st, M) = some r := by
  refine y_pure hf (pc' := pc') (ls' := ls) (st' := .int (a / b) :: st) ?_ kk
  subst hp
  simp only [zpure, if_neg hb]
theorem y_irem {a b : Int32} (hf : zfind (zmC m) pc = some (.irem, 1)) (hb : ¬ b = 0) (hp : pc + 1 = pc') (kk : zEx0 call m (pc', ls, .int (a - a / b * b) :: st, M) = some r) : zEx0 call m (pc, ls, .int b :: .int a :: st, M) = some r := by
  refine y_pure hf (pc' := pc') (ls' := ls) (st' := .int (a - a / b * b) :: st) ?_ kk
  subst hp
  simp only [zpure, if_neg hb]
theorem y_retZ {a : Int32} (hf : zfind (zmC m) pc = some (.ireturn, 1)) (hk : zmK m = 4) (ha : a = 0 ∨ a = 1) (h : some (some (Value.int a), M) = some r) : zEx0 call m (pc, ls, [.int a], M) = some r :=
  y_ret hf rfl rfl (by simp only [zends, hk, if_pos ha]) h
theorem y_retB {a : Int32} (hf : zfind (zmC m) pc = some (.ireturn, 1)) (hk : zmK m = 5) (ha : a.toInt8.toInt32 = a) (h : some (some (Value.int a), M) = some r) : zEx0 call m (pc, ls, [.int a], M) = some r :=
  y_ret hf rfl rfl (by simp only [zends, hk, if_pos ha]) h
theorem y_retC {a : Int32} (hf : zfind (zmC m) pc = some (.ireturn, 1)) (hk : zmK m = 6) (ha : (a.toUInt32 % 65536).toInt32 = a) (h : some (some (Value.int a), M) = some r) : zEx0 call m (pc, ls, [.int a], M) = some r :=
  y_ret hf rfl rfl (by simp only [zends, hk, if_pos ha]) h
end YSTEP2
/-! kinds of neighbours -/
theorem zk_fld {a off : Nat} {k : Nat × Nat} (ha : 10 ≤ a) (hall : ∀ q, q < 896 → zkd q = (a, 0) → zkd (q + off) = k) {q : Nat} (h : zkd q = (a, 0)) : zkd (q + off) = k := by
  by_cases hq : q < 896
  · exact hall q hq h
  · have h1 := zkd_out (q := q) (by omega)
    rw [h] at h1
    dsimp only at h1
    omega
theorem zk_elt {j n off sd : Nat} {k : Nat × Nat} (hall : ∀ q, q < 896 → zkd q = (5, j) → ∀ i, i < n → zkd (q + off + sd * i) = k) {q : Nat} {i : Int32} (h : zkd q = (5, j)) (hi : zin i n = true) : zkd (q + off + sd * Int32.toNatClampNeg i) = k := by
  by_cases hq : q < 896
  · have h2 := zin_vp hi
    exact hall q hq h _ (Nat.not_le.mp fun z => h2 (Or.inr z))
  · have h1 := zkd_out (q := q) (by omega)
    rw [h] at h1
    cases h1
theorem zkt7 {q w : Nat} (h : zkd q = (7, w)) : (zkd q).1 = 7 := by rw [h]
theorem zk_text {q w : Nat} (h : zkd q = (7, w)) : zkd (q + 31) = (9, w) := by
  have hall : ∀ q, q < 896 → (zkd q).1 = 7 → zkd (q + 31) = (9, (zkd q).2) := by decide +kernel
  by_cases hq : q < 896
  · rw [hall q hq (zkt7 h), h]
  · have h1 := zkd_out (q := q) (by omega)
    rw [h] at h1
    cases h1
def nJ (n : Nat) : Int64 := Int64.ofNat n
