/-! ONE STEP of the abstract machine: what it asks (a list of facts), and where it comes -/
def astp : CI → AC → Option (List Prop × AC)
  | (_, len, I, r1, r2, _, cv), (pc, vs, st, h, bk, bn) =>
    match I with
    | .iconst _ => some ([], (pc + len, vs, cv :: st, h, bk, bn))
    | .bipush _ => some ([], (pc + len, vs, cv :: st, h, bk, bn))
    | .sipush _ => some ([], (pc + len, vs, cv :: st, h, bk, bn))
    | .lconst _ => some ([], (pc + len, vs, cv :: st, h, bk, bn))
    | .ldc _ => some ([], (pc + len, vs, cv :: st, h, bk, bn))
    | .ldc_w _ => some ([], (pc + len, vs, cv :: st, h, bk, bn))
    | .ldc2_w _ => some ([], (pc + len, vs, cv :: st, h, bk, bn))
    | .iload _ => match vs[r1]? with
      | some (some (.int x)) => some ([], (pc + len, vs, .int x :: st, h, bk, bn))
      | _ => none
    | .iload_n _ => match vs[r1]? with
      | some (some (.int x)) => some ([], (pc + len, vs, .int x :: st, h, bk, bn))
      | _ => none
    | .lload _ => match vs[r1]? with
      | some (some (.long x)) => some ([], (pc + len, vs, .long x :: st, h, bk, bn))
      | _ => none
    | .lload_n _ => match vs[r1]? with
      | some (some (.long x)) => some ([], (pc + len, vs, .long x :: st, h, bk, bn))
      | _ => none
    | .aload_n _ => match vs[r1]? with
      | some (some (.ref x)) => some ([], (pc + len, vs, .ref x :: st, h, bk, bn))
      | _ => none
    | .istore _ => match st with
      | .int x :: st => match vs[r1]? with
        | some _ => some ([], (pc + len, (clr vs r1).set r1 (some (.int x)), st, h, bk, bn))
        | _ => none
      | _ => none
    | .istore_n _ => match st with
      | .int x :: st => match vs[r1]? with
        | some _ => some ([], (pc + len, (clr vs r1).set r1 (some (.int x)), st, h, bk, bn))
        | _ => none
      | _ => none
    | .astore_n _ => match st with
      | .ref x :: st => match vs[r1]? with
        | some _ => some ([], (pc + len, (clr vs r1).set r1 (some (.ref x)), st, h, bk, bn))
        | _ => none
      | _ => none
    | .lstore _ => match st with
      | .long x :: st => match vs[r1 + 1]? with
        | some _ => some ([], (pc + len, ((clr vs r1).set r1 (some (.long x))).set (r1 + 1) none, st, h, bk, bn))
        | _ => none
      | _ => none
    | .lstore_n _ => match st with
      | .long x :: st => match vs[r1 + 1]? with
        | some _ => some ([], (pc + len, ((clr vs r1).set r1 (some (.long x))).set (r1 + 1) none, st, h, bk, bn))
        | _ => none
      | _ => none
    | .iinc _ _ => match vs[r1]?, cv with
      | some (some (.int x)), .int y => some ([], (pc + len, (clr vs r1).set r1 (some (.int (x + y))), st, h, bk, bn))
      | _, _ => none
    | .iadd => match st with
      | .int y :: .int x :: st => some ([], (pc + len, vs, .int (x + y) :: st, h, bk, bn))
      | _ => none
    | .isub => match st with
      | .int y :: .int x :: st => some ([], (pc + len, vs, .int (x - y) :: st, h, bk, bn))
      | _ => none
    | .imul => match st with
      | .int y :: .int x :: st => some ([], (pc + len, vs, .int (x * y) :: st, h, bk, bn))
      | _ => none
    | .idiv => match st with
      | .int y :: .int x :: st => some ([¬ y = 0], (pc + len, vs, .int (x / y) :: st, h, bk, bn))
      | _ => none
    | .irem => match st with
      | .int y :: .int x :: st => some ([¬ y = 0], (pc + len, vs, .int (irm x y) :: st, h, bk, bn))
      | _ => none
    | .iand => match st with
      | .int y :: .int x :: st => some ([], (pc + len, vs, .int (x &&& y) :: st, h, bk, bn))
      | _ => none
    | .ior => match st with
      | .int y :: .int x :: st => some ([], (pc + len, vs, .int (x ||| y) :: st, h, bk, bn))
      | _ => none
    | .ixor => match st with
      | .int y :: .int x :: st => some ([], (pc + len, vs, .int (x ^^^ y) :: st, h, bk, bn))
      | _ => none
    | .ishl => match st with
      | .int y :: .int x :: st => some ([], (pc + len, vs, .int (x <<< (y &&& 31)) :: st, h, bk, bn))
      | _ => none
    | .ishr => match st with
      | .int y :: .int x :: st => some ([], (pc + len, vs, .int (x >>> (y &&& 31)) :: st, h, bk, bn))
      | _ => none
    | .iushr => match st with
      | .int y :: .int x :: st => some ([], (pc + len, vs, .int (iush x y) :: st, h, bk, bn))
      | _ => none
    | .ladd => match st with
      | .long y :: .long x :: st => some ([], (pc + len, vs, .long (x + y) :: st, h, bk, bn))
      | _ => none
    | .lmul => match st with
      | .long y :: .long x :: st => some ([], (pc + len, vs, .long (x * y) :: st, h, bk, bn))
      | _ => none
    | .ldiv => match st with
      | .long y :: .long x :: st => some ([¬ y = 0], (pc + len, vs, .long (x / y) :: st, h, bk, bn))
      | _ => none
    | .lrem => match st with
      | .long y :: .long x :: st => some ([¬ y = 0], (pc + len, vs, .long (lrm x y) :: st, h, bk, bn))
      | _ => none
    | .land => match st with
      | .long y :: .long x :: st => some ([], (pc + len, vs, .long (x &&& y) :: st, h, bk, bn))
      | _ => none
    | .lshr => match st with
      | .int y :: .long x :: st => some ([], (pc + len, vs, .long (x >>> (y.toInt64 &&& 63)) :: st, h, bk, bn))
      | _ => none
    | .lcmp => match st with
      | .long y :: .long x :: st => some ([], (pc + len, vs, .int (lg_cmp x y) :: st, h, bk, bn))
      | _ => none
    | .i2l => match st with
      | .int x :: st => some ([], (pc + len, vs, .long x.toInt64 :: st, h, bk, bn))
      | _ => none
    | .l2i => match st with
      | .long x :: st => some ([], (pc + len, vs, .int x.toInt32 :: st, h, bk, bn))
      | _ => none
    | .i2b => match st with
      | .int x :: st => some ([], (pc + len, vs, .int x.toInt8.toInt32 :: st, h, bk, bn))
      | _ => none
    | .dup => match st with
      | .int x :: st => some ([], (pc + len, vs, .int x :: .int x :: st, h, bk, bn))
      | .ref x :: st => some ([], (pc + len, vs, .ref x :: .ref x :: st, h, bk, bn))
      | _ => none
    | .dup2 => match st with
      | .int x :: .ref y :: st => some ([], (pc + len, vs, .int x :: .ref y :: .int x :: .ref y :: st, h, bk, bn))
      | _ => none
    | .pop => match st with
      | .int _ :: st => some ([], (pc + len, vs, st, h, bk, bn))
      | .ref _ :: st => some ([], (pc + len, vs, st, h, bk, bn))
      | _ => none
    | .goto _ => some ([], (r1, vs, st, h, bk, bn))
    | .getfield _ => match st with
      | .ref o :: st => match h[o]? with
        | some (.inr (ci, fs)) => match Nat.beq ci r1, fs[r2]? with
          | true, some v => some ([], (pc + len, vs, v :: st, h, bk, bn))
          | _, _ => none
        | _ => none
      | _ => none
    | .putfield _ => match st with
      | v :: .ref o :: st => match h[o]? with
        | some (.inr (ci, fs)) => match Nat.beq ci r1, fs[r2]?, cv, v with
          | true, some _, .int _, .int x => some ([], (pc + len, vs, st, h.set o (.inr (ci, fs.set r2 (.int x))), bk, bn))
          | true, some _, .long _, .int x => some ([isZ x], (pc + len, vs, st, h.set o (.inr (ci, fs.set r2 (.int x))), bk, bn))
          | true, some _, .ref _, .ref x => some ([], (pc + len, vs, st, h.set o (.inr (ci, fs.set r2 (.ref x))), bk, bn))
          | true, some _, .null, .ref x => some ([], (pc + len, vs, st, h.set o (.inr (ci, fs.set r2 (.ref x))), bk, bn))
          | _, _, _, _ => none
        | _ => none
      | _ => none
    | .arraylength => match st with
      | .ref a :: st => match h[a]? with
        | some (.inl (0, n, _)) => some ([], (pc + len, vs, .int (Int32.ofNat n) :: st, h, bk, bn))
        | _ => none
      | _ => none
    | .iaload => match st with
      | .int i :: .ref a :: st => match h[a]? with
        | some (.inl (0, n, .inl f)) => some ([inb i n], (pc + len, vs, .int (f i.toNatClampNeg) :: st, h, bk, bn))
        | _ => none
      | _ => none
    | .laload => match st with
      | .int i :: .ref a :: st => match h[a]? with
        | some (.inl (1, n, .inr (.inl f))) => some ([inb i n], (pc + len, vs, .long (f i.toNatClampNeg) :: st, h, bk, bn))
        | _ => none
      | _ => none
    | .baload => match st with
      | .int i :: .ref a :: st => match h[a]? with
        | some (.inl (2, n, .inl f)) => some ([inb i n], (pc + len, vs, .int (f i.toNatClampNeg) :: st, h, bk, bn))
        | some (.inl (3, n, .inl f)) => some ([inb i n], (pc + len, vs, .int (f i.toNatClampNeg) :: st, h, bk, bn))
        | _ => none
      | _ => none
    | .iastore => match st with
      | .int x :: .int i :: .ref a :: st => match h[a]? with
        | some (.inl (0, n, .inl f)) => some ([inb i n], (pc + len, vs, st, h.set a (.inl (0, n, .inl (upd f i.toNatClampNeg x))), bk, bn))
        | _ => none
      | _ => none
    | .lastore => match st with
      | .long x :: .int i :: .ref a :: st => match h[a]? with
        | some (.inl (1, n, .inr (.inl f))) => some ([inb i n], (pc + len, vs, st, h.set a (.inl (1, n, .inr (.inl (vp_updL f i.toNatClampNeg x)))), bk, bn))
        | _ => none
      | _ => none
    | .bastore => match st with
      | .int x :: .int i :: .ref a :: st => match h[a]? with
        | some (.inl (2, n, .inl f)) => some ([inb i n], (pc + len, vs, st, h.set a (.inl (2, n, .inl (upd f i.toNatClampNeg (vp_nar .byte x)))), bk, bn))
        | some (.inl (3, n, .inl f)) => some ([inb i n], (pc + len, vs, st, h.set a (.inl (3, n, .inl (upd f i.toNatClampNeg (vp_nar .boolean x)))), bk, bn))
        | _ => none
      | _ => none
    | _ => none
def isOT (d : Option FieldType) : Bool := match d with
  | some (.object _) => true
  | some (.array _) => true
  | _ => false
def okP (T : u_T) (k : Nat) (own : String) (ini : Bool) (cv : Value) : Bool := match cv with
  | .int _ => decide (parseFieldDescriptor (T k).2.2.1 = some .int) && decide ((T k).2.2.2 = false)
  | .long _ => decide (parseFieldDescriptor (T k).2.2.1 = some .boolean) && decide ((T k).2.2.2 = false)
  | .ref _ => isOT (parseFieldDescriptor (T k).2.2.1) && decide ((T k).2.2.2 = false)
  | .null => isOT (parseFieldDescriptor (T k).2.2.1) && decide ((T k).2.2.2 = true) && ini && decide ((T k).1 = own)
  | _ => false
/-- what a row of a method's table must be: its instruction as decoded, its links as the tables' words say -/
def okI (own : String) (ini : Bool) (b : ByteArray) (ci : CI) : Bool :=
  decide (decode b ci.1 = .ok (ci.2.2.1, ci.2.1)) &&
    match ci with
    | (pc, len, I, r1, r2, r3, cv) => match I with
      | .iconst n => decide (len = 1) && match cv with | .int v => decide (Int32.ofInt n = v) | _ => false
      | .bipush n => decide (len = 2) && match cv with | .int v => decide ((Int8.ofInt n).toInt32 = v) | _ => false
      | .sipush n => decide (len = 3) && match cv with | .int v => decide ((Int16.ofInt n).toInt32 = v) | _ => false
      | .lconst n => decide (len = 1) && match cv with | .long v => decide (Int64.ofNat (n : Nat) = v) | _ => false
      | .ldc i => decide (len = 2) && match cv with | .int v => decide (TG[r3]? = some (.constant own i v)) | _ => false
      | .ldc_w i => decide (len = 3) && match cv with | .int v => decide (TG[r3]? = some (.constant own i v)) | _ => false
      | .ldc2_w i => decide (len = 3) && match cv with | .long v => decide (TG[r3]? = some (.constantLong own i v)) | _ => false
      | .iload i => decide (i = r1) && decide (len = 2)
      | .lload i => decide (i = r1) && decide (len = 2)
      | .istore i => decide (i = r1) && decide (len = 2)
      | .lstore i => decide (i = r1) && decide (len = 2)
      | .iload_n i => decide ((i : Nat) = r1) && decide (len = 1)
      | .lload_n i => decide ((i : Nat) = r1) && decide (len = 1)
      | .aload_n i => decide ((i : Nat) = r1) && decide (len = 1)
      | .istore_n i => decide ((i : Nat) = r1) && decide (len = 1)
      | .astore_n i => decide ((i : Nat) = r1) && decide (len = 1)
      | .lstore_n i => decide ((i : Nat) = r1) && decide (len = 1)
      | .iinc i n => decide (i = r1) && decide (len = 3) && match cv with | .int v => decide (Int32.ofInt n = v) | _ => false
      | .goto off => decide ((pc : Int) + off = (r1 : Int)) && decide (len = 3)
      | .if_icmp _ off => decide ((pc : Int) + off = (r1 : Int)) && decide (len = 3)
      | .ifCond _ off => decide ((pc : Int) + off = (r1 : Int)) && decide (len = 3)
      | .getfield i => decide (len = 3) && match CL[r1]? with
        | some q => decide (r2 < q.2.2) && decide (TG[r3]? = some (.fieldLink own i (q.2.1 r2).1 (q.2.1 r2).2.1 (q.2.1 r2).2.2.1))
        | none => false
      | .putfield i => decide (len = 3) && match CL[r1]? with
        | some q => decide (r2 < q.2.2) && decide (TG[r3]? = some (.fieldLink own i (q.2.1 r2).1 (q.2.1 r2).2.1 (q.2.1 r2).2.2.1)) && okP q.2.1 r2 own ini cv
        | none => false
      | .invokevirtual _ => true
      | .invokespecial _ => true
      | .invokestatic _ => true
      | .new _ => true
      | .newarray _ => true
      | .tableswitch _ _ _ _ => true
      | _ => decide (len = 1)
def brun : List CI → AC → Option (List Prop × AC)
  | [], c => some ([], c)
  | i :: r, c => match Nat.beq i.1 c.1 with
    | false => none
    | true => match astp i c with
      | none => none
      | some (gs, c') => match brun r c' with
        | none => none
        | some (gs', c'') => some (gs ++ gs', c'')
def AllP : List Prop → Prop
  | [] => True
  | [g] => g
  | g :: gs => g ∧ AllP gs
theorem AllP_all : ∀ {gs : List Prop}, AllP gs → ∀ g ∈ gs, g
  | [], _, g, hg => by cases hg
  | [a], h, g, hg => by
    rw [List.mem_singleton.mp hg]; exact h
  | a :: b :: r, h, g, hg => by
    rcases List.mem_cons.mp hg with e | e
    · rw [e]; exact h.1
    · exact AllP_all (gs := b :: r) h.2 g e
