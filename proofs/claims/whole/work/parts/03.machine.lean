/-! THE SMALL MACHINE: the same instructions over a heap of fixed shape (zkd), whose numbers alone change -/
abbrev ZM : Type := (Nat → Nat → Int32) × (Nat → Nat → Int64)
abbrev ZL : Type := List (Nat × Value)
abbrev ZS : Type := Nat × ZL × List Value × ZM
abbrev ZR : Type := Option Value × ZM
/-- the ints, the longs of the cell at an offset -/
abbrev zgi (M : ZM) (q k : Nat) : Int32 := M.1 q k
abbrev zgl (M : ZM) (q k : Nat) : Int64 := M.2 q k
def zsi (M : ZM) (q : Nat) (f : Nat → Int32) : ZM := (fun a => if a = q then f else M.1 a, M.2)
def zsl' (M : ZM) (q : Nat) (f : Nat → Int64) : ZM := (M.1, fun a => if a = q then f else M.2 a)
/-- one number changed -/
def zpi (M : ZM) (q k : Nat) (v : Int32) : ZM := zsi M q (upd (M.1 q) k v)
def zpl (M : ZM) (q k : Nat) (v : Int64) : ZM := zsl' M q (vp_updL (M.2 q) k v)
/-- an index within -/
def zin (i : Int32) (n : Nat) : Bool := decide (0 ≤ i.toInt) && decide (i.toInt < (n : Int))
def zc2 : Value → Bool
  | .long _ => true
  | .double _ => true
  | _ => false
def zget : ZL → Nat → Option Value
  | [], _ => none
  | (k, v) :: l, i => bif Nat.beq k i then some v else zget l i
def zdel1 (i : Nat) : ZL → ZL
  | [] => []
  | q :: l => bif Nat.beq q.1 i || (Nat.beq (q.1 + 1) i && zc2 q.2) then zdel1 i l else q :: zdel1 i l
def zdel2 (i : Nat) : ZL → ZL
  | [] => []
  | q :: l => bif Nat.beq q.1 i || Nat.beq q.1 (i + 1) || (Nat.beq (q.1 + 1) i && zc2 q.2) then zdel2 i l else q :: zdel2 i l
def zins (i : Nat) (v : Value) : ZL → ZL
  | [] => [(i, v)]
  | q :: l => bif Nat.blt i q.1 then (i, v) :: q :: l else q :: zins i v l
def zst1 (l : ZL) (i : Nat) (v : Value) : ZL := zins i v (zdel1 i l)
def zst2 (l : ZL) (i : Nat) (v : Value) : ZL := zins i v (zdel2 i l)
def ztg (pc : Nat) (off : Int) : Option Nat := match (pc : Int) + off with
  | .ofNat t => some t
  | _ => none
def zcnd (c : Jvm.ClassFile.Cond) (a b : Int32) : Bool := match c with
  | .eq => decide (a = b)
  | .ne => !decide (a = b)
  | .lt => decide (a < b)
  | .ge => decide (b ≤ a)
  | .gt => decide (b < a)
  | .le => decide (a ≤ b)
abbrev ZP : Type := Nat × ZL × List Value
def zgo (pc : Nat) (off : Int) (ls : ZL) (st : List Value) : Option ZP := match ztg pc off with
  | some t => some (t, ls, st)
  | none => none
/-- instructions that touch locals and stack alone -/
def zpure (o nL : Nat) (i : Instr) (len pc : Nat) (ls : ZL) (st : List Value) : Option ZP := match i with
  | .iconst n => some (pc + len, ls, .int (Int32.ofInt n) :: st)
  | .bipush n => some (pc + len, ls, .int (Int8.ofInt n).toInt32 :: st)
  | .sipush n => some (pc + len, ls, .int (Int16.ofInt n).toInt32 :: st)
  | .lconst n => some (pc + len, ls, .long (Int64.ofNat (n : Nat)) :: st)
  | .ldc k => match zI o k with
    | some v => some (pc + len, ls, .int v :: st)
    | none => none
  | .ldc_w k => match zI o k with
    | some v => some (pc + len, ls, .int v :: st)
    | none => none
  | .ldc2_w k => match zJ o k with
    | some v => some (pc + len, ls, .long v :: st)
    | none => none
  | .iload_n k => match zget ls k with
    | some (.int v) => some (pc + len, ls, .int v :: st)
    | _ => none
  | .iload k => match zget ls k with
    | some (.int v) => some (pc + len, ls, .int v :: st)
    | _ => none
  | .lload_n k => match zget ls k with
    | some (.long v) => some (pc + len, ls, .long v :: st)
    | _ => none
  | .lload k => match zget ls k with
    | some (.long v) => some (pc + len, ls, .long v :: st)
    | _ => none
  | .aload_n k => match zget ls k with
    | some (.ref v) => some (pc + len, ls, .ref v :: st)
    | _ => none
  | .aload k => match zget ls k with
    | some (.ref v) => some (pc + len, ls, .ref v :: st)
    | _ => none
  | .istore_n k => match st with
    | .int v :: r => bif Nat.blt k nL then some (pc + len, zst1 ls k (.int v), r) else none
    | _ => none
  | .istore k => match st with
    | .int v :: r => bif Nat.blt k nL then some (pc + len, zst1 ls k (.int v), r) else none
    | _ => none
  | .astore_n k => match st with
    | .ref v :: r => bif Nat.blt k nL then some (pc + len, zst1 ls k (.ref v), r) else none
    | _ => none
  | .astore k => match st with
    | .ref v :: r => bif Nat.blt k nL then some (pc + len, zst1 ls k (.ref v), r) else none
    | _ => none
  | .lstore_n k => match st with
    | .long v :: r => bif Nat.blt (k + 1) nL then some (pc + len, zst2 ls k (.long v), r) else none
    | _ => none
  | .lstore k => match st with
    | .long v :: r => bif Nat.blt (k + 1) nL then some (pc + len, zst2 ls k (.long v), r) else none
    | _ => none
  | .iinc k n => match zget ls k with
    | some (.int v) => bif Nat.blt k nL then some (pc + len, zst1 ls k (.int (v + Int32.ofInt n)), st) else none
    | _ => none
  | .iadd => match st with
    | .int b :: .int a :: r => some (pc + len, ls, .int (a + b) :: r)
    | _ => none
  | .isub => match st with
    | .int b :: .int a :: r => some (pc + len, ls, .int (a - b) :: r)
    | _ => none
  | .imul => match st with
    | .int b :: .int a :: r => some (pc + len, ls, .int (a * b) :: r)
    | _ => none
  | .iand => match st with
    | .int b :: .int a :: r => some (pc + len, ls, .int (a &&& b) :: r)
    | _ => none
  | .ior => match st with
    | .int b :: .int a :: r => some (pc + len, ls, .int (a ||| b) :: r)
    | _ => none
  | .ixor => match st with
    | .int b :: .int a :: r => some (pc + len, ls, .int (a ^^^ b) :: r)
    | _ => none
  | .ishl => match st with
    | .int b :: .int a :: r => some (pc + len, ls, .int (a <<< (b &&& 31)) :: r)
    | _ => none
  | .ishr => match st with
    | .int b :: .int a :: r => some (pc + len, ls, .int (a >>> (b &&& 31)) :: r)
    | _ => none
  | .iushr => match st with
    | .int b :: .int a :: r => some (pc + len, ls, .int (a.toUInt32 >>> (b.toUInt32 &&& Int32.toUInt32 31)).toInt32 :: r)
    | _ => none
  | .idiv => match st with
    | .int b :: .int a :: r => if b = 0 then none else some (pc + len, ls, .int (a / b) :: r)
    | _ => none
  | .irem => match st with
    | .int b :: .int a :: r => if b = 0 then none else some (pc + len, ls, .int (a - a / b * b) :: r)
    | _ => none
  | .ladd => match st with
    | .long b :: .long a :: r => some (pc + len, ls, .long (a + b) :: r)
    | _ => none
  | .lsub => match st with
    | .long b :: .long a :: r => some (pc + len, ls, .long (a - b) :: r)
    | _ => none
  | .lmul => match st with
    | .long b :: .long a :: r => some (pc + len, ls, .long (a * b) :: r)
    | _ => none
  | .land => match st with
    | .long b :: .long a :: r => some (pc + len, ls, .long (a &&& b) :: r)
    | _ => none
  | .lor => match st with
    | .long b :: .long a :: r => some (pc + len, ls, .long (a ||| b) :: r)
    | _ => none
  | .lxor => match st with
    | .long b :: .long a :: r => some (pc + len, ls, .long (a ^^^ b) :: r)
    | _ => none
  | .lshl => match st with
    | .int b :: .long a :: r => some (pc + len, ls, .long (a <<< (b.toInt64 &&& 63)) :: r)
    | _ => none
  | .lshr => match st with
    | .int b :: .long a :: r => some (pc + len, ls, .long (a >>> (b.toInt64 &&& 63)) :: r)
    | _ => none
  | .lushr => match st with
    | .int b :: .long a :: r => some (pc + len, ls, .long (a.toUInt64 >>> (b.toInt64.toUInt64 &&& Int64.toUInt64 63)).toInt64 :: r)
    | _ => none
  | .lcmp => match st with
    | .long b :: .long a :: r => some (pc + len, ls, .int (lg_cmp a b) :: r)
    | _ => none
  | .i2l => match st with
    | .int a :: r => some (pc + len, ls, .long a.toInt64 :: r)
    | _ => none
  | .l2i => match st with
    | .long a :: r => some (pc + len, ls, .int a.toInt32 :: r)
    | _ => none
  | .i2b => match st with
    | .int a :: r => some (pc + len, ls, .int a.toInt8.toInt32 :: r)
    | _ => none
  | .i2c => match st with
    | .int a :: r => some (pc + len, ls, .int (a.toUInt32 % 65536).toInt32 :: r)
    | _ => none
  | .dup => match st with
    | a :: r => bif zc2 a then none else some (pc + len, ls, a :: a :: r)
    | _ => none
  | .dup2 => match st with
    | a :: b :: r => bif zc2 a || zc2 b then none else some (pc + len, ls, a :: b :: a :: b :: r)
    | _ => none
  | .pop => match st with
    | a :: r => bif zc2 a then none else some (pc + len, ls, r)
    | _ => none
  | .goto off => zgo pc off ls st
  | .if_icmp c off => match st with
    | .int b :: .int a :: r => match ztg pc off with
      | some t => some (if zcnd c a b = true then t else pc + len, ls, r)
      | none => none
    | _ => none
  | .ifCond c off => match st with
    | .int a :: r => match ztg pc off with
      | some t => some (if zcnd c a 0 = true then t else pc + len, ls, r)
      | none => none
    | _ => none
  | .tableswitch d lo hi offs => match st with
    | .int a :: r => if a.toInt < lo ∨ hi < a.toInt then zgo pc d ls r else match offs[(a.toInt - lo).toNat]? with
      | some off => zgo pc off ls r
      | none => none
    | _ => none
  | _ => none
/-- what a field or a place of the heap holds -/
def zfld (M : ZM) (q k t : Nat) : Value := match t with
  | 0 => .int (M.1 q k)
  | 1 => .long (M.2 q k)
  | 2 => .int (M.1 q k)
  | t + 3 => .ref (q + t)
/-- instructions that touch the heap -/
def zheap (o : Nat) (i : Instr) (len pc : Nat) (ls : ZL) (st : List Value) (M : ZM) : Option ZS := match i with
  | .ldc k => match zX o k with
    | some q => some (pc + len, ls, .ref q :: st, M)
    | none => none
  | .ldc_w k => match zX o k with
    | some q => some (pc + len, ls, .ref q :: st, M)
    | none => none
  | .getstatic k => match zG o k with
    | some q => some (pc + len, ls, (if q = 59 then .int 1 else if q = 62 then .float 0 else .ref q) :: st, M)
    | none => none
  | .getfield k => if o = 15 then (match st with
    | .ref q :: r => if (zkd q).1 = 7 then (if k = 9 then some (pc + len, ls, .ref (q + 31) :: r, M) else if k = 15 then some (pc + len, ls, .int 0 :: r, M) else none) else none
    | _ => none) else match zF o k, st with
    | some (ci, f, t, _), .ref q :: r => if zkd q = (10 + ci, 0) then some (pc + len, ls, zfld M q f t :: r, M) else none
    | _, _ => none
  | .putfield k => match zF o k, st with
    | some (ci, f, 0, 0), .int v :: .ref q :: r => if zkd q = (10 + ci, 0) then some (pc + len, ls, r, zpi M q f v) else none
    | some (ci, f, 1, 0), .long v :: .ref q :: r => if zkd q = (10 + ci, 0) then some (pc + len, ls, r, zpl M q f v) else none
    | some (ci, f, 2, 0), .int v :: .ref q :: r => if zkd q = (10 + ci, 0) ∧ (v = 0 ∨ v = 1) then some (pc + len, ls, r, zpi M q f v) else none
    | _, _ => none
  | .iaload => match st with
    | .int i :: .ref q :: r => if (zkd q).1 = 1 ∧ zin i (zkd q).2 = true then some (pc + len, ls, .int (M.1 q i.toNatClampNeg) :: r, M)
      else if q = 0 ∧ zin i (M.1 63 0).toNatClampNeg = true then some (pc + len, ls, .int (M.1 0 i.toNatClampNeg) :: r, M) else none
    | _ => none
  | .baload => match st with
    | .int i :: .ref q :: r => if ((zkd q).1 = 3 ∨ (zkd q).1 = 4) ∧ zin i (zkd q).2 = true then some (pc + len, ls, .int (M.1 q i.toNatClampNeg) :: r, M)
      else if (zkd q).1 = 9 ∧ zin i (ztx (zkd q).2).length = true then some (pc + len, ls, .int ((ztx (zkd q).2).getD i.toNatClampNeg 0) :: r, M) else none
    | _ => none
  | .laload => match st with
    | .int i :: .ref q :: r => if (zkd q).1 = 2 ∧ zin i (zkd q).2 = true then some (pc + len, ls, .long (M.2 q i.toNatClampNeg) :: r, M)
      else if (zkd q).1 = 6 ∧ zin i (zsl (zkd q).2).length = true then some (pc + len, ls, .long ((zsl (zkd q).2).getD i.toNatClampNeg 0) :: r, M) else none
    | _ => none
  | .aaload => match st with
    | .int i :: .ref q :: r => if (zkd q).1 = 5 ∧ zin i (zra (zkd q).2).1 = true then some (pc + len, ls, .ref (q + (zra (zkd q).2).2.1 + (zra (zkd q).2).2.2 * i.toNatClampNeg) :: r, M) else none
    | _ => none
  | .iastore => match st with
    | .int v :: .int i :: .ref q :: r => if (zkd q).1 = 1 ∧ zin i (zkd q).2 = true then some (pc + len, ls, r, zpi M q i.toNatClampNeg v) else none
    | _ => none
  | .bastore => match st with
    | .int v :: .int i :: .ref q :: r => if (zkd q).1 = 3 ∧ zin i (zkd q).2 = true then some (pc + len, ls, r, zpi M q i.toNatClampNeg (vp_nar .boolean v))
      else if (zkd q).1 = 4 ∧ zin i (zkd q).2 = true then some (pc + len, ls, r, zpi M q i.toNatClampNeg (vp_nar .byte v)) else none
    | _ => none
  | .lastore => match st with
    | .long v :: .int i :: .ref q :: r => if (zkd q).1 = 2 ∧ zin i (zkd q).2 = true then some (pc + len, ls, r, zpl M q i.toNatClampNeg v) else none
    | _ => none
  | .arraylength => match st with
    | .ref q :: r => if (zkd q).1 = 1 ∨ (zkd q).1 = 2 ∨ (zkd q).1 = 3 ∨ (zkd q).1 = 4 then some (pc + len, ls, .int (Int32.ofNat (zkd q).2) :: r, M)
      else if (zkd q).1 = 5 then some (pc + len, ls, .int (Int32.ofNat (zra (zkd q).2).1) :: r, M)
      else if q = 0 then some (pc + len, ls, .int (M.1 63 0) :: r, M)
      else if (zkd q).1 = 9 then some (pc + len, ls, .int (Int32.ofNat (ztx (zkd q).2).length) :: r, M) else none
    | _ => none
  | _ => none
/-- System.arraycopy -/
def zcopy (M : ZM) (q d : Nat) (sp dp n : Nat) : Option ZM :=
  if (zkd q).1 = 1 ∧ (zkd d).1 = 1 ∧ q ≠ d ∧ sp + n ≤ (zkd q).2 ∧ dp + n ≤ (zkd d).2 then some (zsi M d (va_cpy (M.1 q) (M.1 d) sp dp n))
  else if (zkd q).1 = 2 ∧ (zkd d).1 = 2 ∧ q ≠ d ∧ sp + n ≤ (zkd q).2 ∧ dp + n ≤ (zkd d).2 then some (zsl' M d (va_cpy (M.2 q) (M.2 d) sp dp n))
  else none
def zrest (st : List Value) : Bool := decide ((st.map fun v => v.category).sum ≤ 8)
def zbuilt (o : Nat) (i : Instr) (len pc : Nat) (ls : ZL) (st : List Value) (M : ZM) : Option ZS := match i with
  | .invokestatic k => match zB o k, st with
    | some 3, .int n :: .int dp :: .ref d :: .int sp :: .ref q :: r => if 0 ≤ n.toInt ∧ 0 ≤ dp.toInt ∧ 0 ≤ sp.toInt ∧ zrest r = true then match zcopy M q d sp.toNatClampNeg dp.toNatClampNeg n.toNatClampNeg with
      | some M' => some (pc + len, ls, r, M')
      | none => none
      else none
    | _, _ => none
  | _ => none
/-- what a method's receiver is: a text, or an object -/
def zrecv (q o : Nat) : Bool := if o = 15 then decide ((zkd q).1 = 7) else decide (zkd q = (10 + o, 0))
/-- the values fit the locals -/
def zfit (m : ZMeth) (a : List Value) : Bool := decide ((a.map fun v => v.category).sum ≤ zmL m)
/-- the callee, its values (the receiver first), the stack below -/
def zcallee (o : Nat) (i : Instr) (st : List Value) : Option (ZMeth × List Value × List Value) := match i with
  | .invokevirtual k => match zM o k with
    | some (m, _) => match (st.take (zmA m)).reverse, zrest (st.drop (zmA m)) with
      | .ref q :: a, true => if zrecv q (zmO m) = true ∧ a.length + 1 = zmA m ∧ zmS m = 0 ∧ zfit m (.ref q :: a) = true then some (m, .ref q :: a, st.drop (zmA m)) else none
      | _, _ => none
    | none => none
  | .invokestatic k => match zM o k with
    | some (m, _) => if (st.take (zmA m)).length = zmA m ∧ zmS m = 1 ∧ zrest (st.drop (zmA m)) = true ∧ zfit m (st.take (zmA m)).reverse = true then some (m, (st.take (zmA m)).reverse, st.drop (zmA m)) else none
    | none => none
  | _ => none
/-- what the callee answers, laid on the stack -/
def zpush (m : ZMeth) (v : Option Value) (st : List Value) : Option (List Value) := match zmK m, v with
  | 0, none => some st
  | 1, some (.int a) => some (.int a :: st)
  | 2, some (.long a) => some (.long a :: st)
  | 3, some (.ref a) => some (.ref a :: st)
  | 4, some (.int a) => some (.int a :: st)
  | 5, some (.int a) => some (.int a :: st)
  | 6, some (.int a) => some (.int a :: st)
  | _, _ => none
def zends (m : ZMeth) (i : Instr) (st : List Value) : Option (Option Value) := match i, zmK m, st with
  | .return_, 0, [] => some none
  | .ireturn, 1, [.int a] => some (some (.int a))
  | .ireturn, 4, [.int a] => if a = 0 ∨ a = 1 then some (some (.int a)) else none
  | .ireturn, 5, [.int a] => if a.toInt8.toInt32 = a then some (some (.int a)) else none
  | .ireturn, 6, [.int a] => if (a.toUInt32 % 65536).toInt32 = a then some (some (.int a)) else none
  | .lreturn, 2, [.long a] => some (some (.long a))
  | .areturn, 3, [.ref a] => some (some (.ref a))
  | _, _, _ => none
def zfind : List (Nat × Instr × Nat) → Nat → Option (Instr × Nat)
  | [], _ => none
  | (k, b) :: l, i => bif Nat.beq k i then some b else zfind l i
/-- one step: on (inl), or the end (inr) -/
def zins1 (call : ZMeth → List Value → ZM → Option ZR) (m : ZMeth) (i : Instr) (len : Nat) (s : ZS) : Option (ZS ⊕ ZR) :=
  match zpure (zmO m) (zmL m) i len s.1 s.2.1 s.2.2.1 with
  | some (pc, ls, st) => some (.inl (pc, ls, st, s.2.2.2))
  | none => match zheap (zmO m) i len s.1 s.2.1 s.2.2.1 s.2.2.2 with
    | some t => some (.inl t)
    | none => match zends m i s.2.2.1 with
      | some v => some (.inr (v, s.2.2.2))
      | none => match zbuilt (zmO m) i len s.1 s.2.1 s.2.2.1 s.2.2.2 with
        | some t => some (.inl t)
        | none => match zcallee (zmO m) i s.2.2.1 with
          | some (y, a, st) => match call y a s.2.2.2 with
            | some (v, M) => match zpush y v st with
              | some st' => some (.inl (s.1 + len, s.2.1, st', M))
              | none => none
            | none => none
          | none => none
def zstep (call : ZMeth → List Value → ZM → Option ZR) (m : ZMeth) (s : ZS) : Option (ZS ⊕ ZR) := match zfind (zmC m) s.1 with
  | some (i, len) => zins1 call m i len s
  | none => none
def zexec (call : ZMeth → List Value → ZM → Option ZR) (m : ZMeth) : Nat → ZS → Option ZR
  | 0, _ => none
  | n + 1, s => match zstep call m s with
    | some (.inl s') => zexec call m n s'
    | some (.inr r) => some r
    | none => none
/-- locals at the entry -/
def zarg : Nat → List Value → ZL
  | _, [] => []
  | i, v :: l => (i, v) :: zarg (bif zc2 v then i + 2 else i + 1) l
noncomputable def zEx0 (call : ZMeth → List Value → ZM → Option ZR) (m : ZMeth) (s : ZS) : Option ZR := match Classical.propDecidable (∃ r n, zexec call m n s = some r) with
  | .isTrue h => some h.choose
  | .isFalse _ => none
noncomputable def zEv : Nat → ZMeth → List Value → ZM → Option ZR
  | 0, _, _, _ => none
  | d + 1, m, a, M => zEx0 (zEv d) m (0, zarg 0 a, [], M)
noncomputable abbrev zEx (d : Nat) (m : ZMeth) (s : ZS) : Option ZR := zEx0 (zEv d) m s
theorem zexec_mono {call : ZMeth → List Value → ZM → Option ZR} {m : ZMeth} : ∀ {n : Nat} {s : ZS} {r : ZR}, zexec call m n s = some r → ∀ k, zexec call m (n + k) s = some r
  | 0, s, r, h, k => by simp [zexec] at h
  | n + 1, s, r, h, k => by
    rw [show n + 1 + k = (n + k) + 1 by omega]
    simp only [zexec] at h ⊢
    cases hs : zstep call m s with
    | none => rw [hs] at h; simp at h
    | some x => cases x with
      | inl s' => rw [hs] at h; exact zexec_mono (n := n) h k
      | inr r' => rw [hs] at h; exact h
theorem zEx0_iff {call : ZMeth → List Value → ZM → Option ZR} {m : ZMeth} {s : ZS} {r : ZR} : zEx0 call m s = some r ↔ ∃ n, zexec call m n s = some r := by
  unfold zEx0
  constructor
  · intro h
    split at h
    · rename_i h0 _
      obtain ⟨n, hn⟩ := h0.choose_spec
      exact ⟨n, by rw [hn]; exact h⟩
    · cases h
  · rintro ⟨n, hn⟩
    have h0 : ∃ r n, zexec call m n s = some r := ⟨r, n, hn⟩
    split
    · rename_i h0' _
      obtain ⟨n', hn'⟩ := h0'.choose_spec
      have e1 := zexec_mono hn n'
      have e2 := zexec_mono hn' n
      rw [show n' + n = n + n' by omega, e1] at e2
      exact e2.symm
    · rename_i h1 _
      exact absurd h0 h1
theorem zEx0_next {call : ZMeth → List Value → ZM → Option ZR} {m : ZMeth} {s s' : ZS} (h : zstep call m s = some (.inl s')) : zEx0 call m s = zEx0 call m s' := by
  have key : ∀ r, zEx0 call m s = some r ↔ zEx0 call m s' = some r := by
    intro r
    rw [zEx0_iff, zEx0_iff]
    constructor
    · rintro ⟨n, hn⟩
      cases n with
      | zero => simp [zexec] at hn
      | succ n => simp only [zexec, h] at hn; exact ⟨n, hn⟩
    · rintro ⟨n, hn⟩
      exact ⟨n + 1, by simp only [zexec, h]; exact hn⟩
  cases h1 : zEx0 call m s' with
  | some r => exact (key r).mpr h1
  | none =>
    cases h2 : zEx0 call m s with
    | none => rfl
    | some r => rw [(key r).mp h2] at h1; cases h1
theorem zEx0_end {call : ZMeth → List Value → ZM → Option ZR} {m : ZMeth} {s : ZS} {r : ZR} (h : zstep call m s = some (.inr r)) : zEx0 call m s = some r :=
  zEx0_iff.mpr ⟨1, by simp only [zexec, h]⟩
theorem zEx0_stuck {call : ZMeth → List Value → ZM → Option ZR} {m : ZMeth} {s : ZS} (h : zstep call m s = none) : zEx0 call m s = none := by
  cases h2 : zEx0 call m s with
  | none => rfl
  | some r =>
    obtain ⟨n, hn⟩ := zEx0_iff.mp h2
    cases n with
    | zero => simp [zexec] at hn
    | succ n => simp only [zexec, h] at hn; cases hn
theorem zEv_succ (d : Nat) (m : ZMeth) (a : List Value) (M : ZM) : zEv (d + 1) m a M = zEx d m (0, zarg 0 a, [], M) := rfl
