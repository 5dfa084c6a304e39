/-! what the tables say is so: the words (by their places in lw_tbl), the decode rows -/
/-- the lengths that instructions have -/
def zlen (i : Instr) (len : Nat) : Bool := match i with
  | .bipush _ => Nat.beq len 2
  | .ldc _ => Nat.beq len 2
  | .iload _ => Nat.beq len 2
  | .lload _ => Nat.beq len 2
  | .aload _ => Nat.beq len 2
  | .istore _ => Nat.beq len 2
  | .lstore _ => Nat.beq len 2
  | .astore _ => Nat.beq len 2
  | .newarray _ => Nat.beq len 2
  | .sipush _ => Nat.beq len 3
  | .ldc_w _ => Nat.beq len 3
  | .ldc2_w _ => Nat.beq len 3
  | .iinc _ _ => Nat.beq len 3
  | .goto _ => Nat.beq len 3
  | .if_icmp _ _ => Nat.beq len 3
  | .ifCond _ _ => Nat.beq len 3
  | .getfield _ => Nat.beq len 3
  | .putfield _ => Nat.beq len 3
  | .getstatic _ => Nat.beq len 3
  | .invokevirtual _ => Nat.beq len 3
  | .invokestatic _ => Nat.beq len 3
  | .invokespecial _ => Nat.beq len 3
  | .new _ => Nat.beq len 3
  | .anewarray _ => Nat.beq len 3
  | .multianewarray _ _ => Nat.beq len 4
  | .tableswitch _ _ _ _ => true
  | _ => Nat.beq len 1
def lw_good : List Jvm.Cond := lw_tbl.filter goodWord
theorem zgw {w : Jvm.Cond} (i : Nat) (h : lw_tbl[i]? = some w) (hg : goodWord w = true) : w ∈ lw_good := List.mem_filter.mpr ⟨List.mem_of_getElem? h, hg⟩
theorem zlk_mem {β : Type} : ∀ {l : List (Nat × β)} {i : Nat} {v : β}, zlk l i = some v → (i, v) ∈ l
  | [], i, v, h => by simp [zlk] at h
  | (k, b) :: l, i, v, h => by
    simp only [zlk] at h
    cases e : Nat.beq k i with
    | true =>
      rw [e] at h
      have e2 := Nat.eq_of_beq_eq_true e
      simp at h
      rw [← e2, ← h]
      exact List.mem_cons_self
    | false =>
      rw [e] at h
      exact List.mem_cons_of_mem _ (zlk_mem h)
theorem zfind_mem : ∀ {l : List (Nat × Instr × Nat)} {i : Nat} {v : Instr × Nat}, zfind l i = some v → (i, v) ∈ l
  | [], i, v, h => by simp [zfind] at h
  | (k, b) :: l, i, v, h => by
    simp only [zfind] at h
    cases e : Nat.beq k i with
    | true =>
      rw [e] at h
      have e2 := Nat.eq_of_beq_eq_true e
      simp at h
      rw [← e2, ← h]
      exact List.mem_cons_self
    | false =>
      rw [e] at h
      exact List.mem_cons_of_mem _ (zfind_mem h)
/-- the return types, by number -/
def zrk (k : Nat) (r : Option FieldType) : Bool := match k, r with
  | 0, none => true
  | 1, some .int => true
  | 2, some .long => true
  | 3, some (.object _) => true
  | 4, some .boolean => true
  | 5, some .byte => true
  | 6, some .char => true
  | _, _ => false
def zOK (m : ZMeth) : Prop :=
  (∀ e ∈ zmC m, decode (zmB m) e.1 = .ok e.2 ∧ zlen e.2.1 e.2.2 = true) ∧
  (Jvm.Cond.code (zmN m) (zmB m) (zmL m) (zmR m) ∈ lw_good ∧ Jvm.Cond.initialized (zmN m).cls ∈ lw_good) ∧
  ((zmN m).cls = zcn (zmO m) ∧ plainFor (zmN m) = true ∧ ((zmN m).cls ≠ "java/lang/invoke/MethodHandle" ∧ (zmN m).cls ≠ "java/lang/invoke/VarHandle") ∧ (parseMethodDescriptor (zmN m).desc).map (fun d => d.parameters.length) = some (if zmS m = 1 then zmA m else zmA m - 1) ∧ zrk (zmK m) (zmR m) = true ∧ zmL m ≤ 40) ∧
  (zmS m = 0 → (zmO m < 11 ∨ zmO m = 15) ∧ Jvm.Cond.instanceMethod (zmN m) ∈ lw_good ∧ Jvm.Cond.selects (zmN m).cls (zmN m) (zmN m) ∈ lw_good) ∧
  (zmS m = 1 → Jvm.Cond.static (zmN m) ∈ lw_good)
