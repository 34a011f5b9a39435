/-! the step of the small machine -/
def bI (f : Int32 → Int32 → Int32) (pc : Nat) (L S : List Value) (h : AH) : MR := match S with
  | .int y :: .int x :: r => nxt pc L (.int (f x y) :: r) h
  | _ => none
def dI (f : Int32 → Int32 → Int32) (pc : Nat) (L S : List Value) (h : AH) : MR := match S with
  | .int y :: .int x :: r => nxtG (!decide (y = 0)) pc L (.int (f x y) :: r) h
  | _ => none
def uI (f : Int32 → Int32) (pc : Nat) (L S : List Value) (h : AH) : MR := match S with
  | .int x :: r => nxt pc L (.int (f x) :: r) h
  | _ => none
def bJ (f : Int64 → Int64 → Int64) (pc : Nat) (L S : List Value) (h : AH) : MR := match S with
  | .long y :: .long x :: r => nxt pc L (.long (f x y) :: r) h
  | _ => none
def dJ (f : Int64 → Int64 → Int64) (pc : Nat) (L S : List Value) (h : AH) : MR := match S with
  | .long y :: .long x :: r => nxtG (!decide (y = 0)) pc L (.long (f x y) :: r) h
  | _ => none
def sJ (f : Int64 → Int32 → Int64) (pc : Nat) (L S : List Value) (h : AH) : MR := match S with
  | .int y :: .long x :: r => nxt pc L (.long (f x y) :: r) h
  | _ => none
def ldI (i pc : Nat) (L S : List Value) (h : AH) : MR := match L[i]? with
  | some (.int x) => nxt pc L (.int x :: S) h
  | _ => none
def ldJ (i pc : Nat) (L S : List Value) (h : AH) : MR := match L[i]? with
  | some (.long x) => nxt pc L (.long x :: S) h
  | _ => none
def ldR (i pc : Nat) (L S : List Value) (h : AH) : MR := match L[i]? with
  | some (.ref x) => nxt pc L (.ref x :: S) h
  | _ => none
def slI (i pc : Nat) (L S : List Value) (h : AH) : MR := match Nat.blt i L.length, S with
  | true, .int x :: r => nxt pc (setL L i (.int x)) r h
  | _, _ => none
def slR (i pc : Nat) (L S : List Value) (h : AH) : MR := match Nat.blt i L.length, S with
  | true, .ref x :: r => nxt pc (setL L i (.ref x)) r h
  | _, _ => none
def slJ (i pc : Nat) (L S : List Value) (h : AH) : MR := match Nat.blt (i + 1) L.length, S with
  | true, .long x :: r => nxt pc (setL2 L i (.long x)) r h
  | _, _ => none
def icI (i : Nat) (z : Int) (pc : Nat) (L S : List Value) (h : AH) : MR := match L[i]? with
  | some (.int x) => nxt pc (setL L i (.int (x + kI z))) S h
  | _ => none
def isB (x : Int32) : Bool := decide (x = 0) || decide (x = 1)
def gfR (own i pc : Nat) (L S : List Value) (h : AH) : MR := match fT own i, S with
  | some f, .ref x :: r => match fK (f / 64) (f % 64) with
    | 1 => nxtG (decide (kdA h x = f / 64)) pc L (.long (jvA h x (f % 64)) :: r) h
    | 2 => nxtG (decide (kdA h x = f / 64)) pc L (.ref (rvA h x (f % 64)) :: r) h
    | 9 => none
    | _ => nxtG (decide (kdA h x = f / 64)) pc L (.int (ivA h x (f % 64)) :: r) h
  | _, _ => none
def pfR (own i pc : Nat) (L S : List Value) (h : AH) : MR := match fT own i, S with
  | some f, .int v :: .ref x :: r => match fK (f / 64) (f % 64) with
    | 0 => nxtG (decide (kdA h x = f / 64)) pc L r (stI h x (f % 64) v)
    | 3 => some ([decide (kdA h x = f / 64), isB v], .inl (pc, L, r, stI h x (f % 64) v))
    | _ => none
  | some f, .long v :: .ref x :: r => match fK (f / 64) (f % 64) with
    | 1 => nxtG (decide (kdA h x = f / 64)) pc L r (stJ h x (f % 64) v)
    | _ => none
  | some f, .ref v :: .ref x :: r => match fK (f / 64) (f % 64) with
    | 2 => nxtG (decide (kdA h x = f / 64)) pc L r (stR h x (f % 64) v)
    | _ => none
  | _, _ => none
def gsR (own i pc : Nat) (L S : List Value) (h : AH) : MR := match gT own i with
  | some 0 => nxt pc L (.ref (rvA h 1000009 0) :: S) h
  | some 1 => nxt pc L (.int (ivA h 1000009 1) :: S) h
  | _ => none
def alI (g : Nat → Bool) (pc : Nat) (L S : List Value) (h : AH) : MR := match S with
  | .int i :: .ref a :: r => some ([g (kdA h a), inB i (lnA h a)], .inl (pc, L, .int (ivA h a (ix i)) :: r, h))
  | _ => none
def alJ (pc : Nat) (L S : List Value) (h : AH) : MR := match S with
  | .int i :: .ref a :: r => some ([decide (kdA h a = 21), inB i (lnA h a)], .inl (pc, L, .long (jvA h a (ix i)) :: r, h))
  | _ => none
def alR (pc : Nat) (L S : List Value) (h : AH) : MR := match S with
  | .int i :: .ref a :: r => some ([decide (30 ≤ kdA h a), decide (kdA h a ≤ 33), inB i (lnA h a)], .inl (pc, L, .ref (rvA h a (ix i)) :: r, h))
  | _ => none
def asI (t : Nat) (f : Int32 → Int32) (pc : Nat) (L S : List Value) (h : AH) : MR := match S with
  | .int v :: .int i :: .ref a :: r => some ([decide (kdA h a = t), inB i (lnA h a)], .inl (pc, L, r, stI h a (ix i) (f v)))
  | _ => none
/-- bastore: a byte array narrows, a boolean one takes 0 and 1 -/
def asB (pc : Nat) (L S : List Value) (h : AH) : MR := match S with
  | .int v :: .int i :: .ref a :: r => some ([decide (kdA h a = 22) || decide (kdA h a = 24) && isB v, inB i (lnA h a)], .inl (pc, L, r, stI h a (ix i) v.toInt8.toInt32))
  | _ => none
def asJ (pc : Nat) (L S : List Value) (h : AH) : MR := match S with
  | .long v :: .int i :: .ref a :: r => some ([decide (kdA h a = 21), inB i (lnA h a)], .inl (pc, L, r, stJ h a (ix i) v))
  | _ => none
def asR (pc : Nat) (L S : List Value) (h : AH) : MR := match S with
  | .ref v :: .int i :: .ref a :: r => some ([decide (akC (kdA h a) = kdA h v), decide (kdA h v < 13), inB i (lnA h a)], .inl (pc, L, r, stR h a (ix i) v))
  | _ => none
def isA (t : Nat) : Bool := decide (20 ≤ t) && decide (t ≤ 24) || decide (30 ≤ t) && decide (t ≤ 33) || decide (t = 40) || decide (t = 42)
def lnR (pc : Nat) (L S : List Value) (h : AH) : MR := match S with
  | .ref a :: r => nxtG (isA (kdA h a)) pc L (.int (kI (lnA h a)) :: r) h
  | _ => none
def okN (n : Int32) : Bool := inB n 1000000
def nwP (t pc : Nat) (L S : List Value) (h : AH) : MR := match S with
  | .int n :: r => nxtG (okN n) pc L (.ref (szA h + 1) :: r) (nwA h t (ix n))
  | _ => none
def aTk (a : ArrayType) : Nat := match a with
  | .int => 20
  | .long => 21
  | .byte => 22
  | .short => 23
  | .boolean => 24
  | _ => 96
def nwR (own i pc : Nat) (L S : List Value) (h : AH) : MR := match cT own i with
  | some c => match Nat.blt c 13 with
    | true => nxt pc L (.ref (szA h + 1) :: S) (nwA h c (fN c))
    | false => none
  | _ => none
def nwQ (own i pc : Nat) (L S : List Value) (h : AH) : MR := match cT own i with
  | some c => match Nat.blt (aOf c) 34 with
    | true => nwP (aOf c) pc L S h
    | false => none
  | _ => none
def spr : List Value → List Value
  | [] => []
  | .long x :: r => .long x :: unV :: spr r
  | v :: r => v :: spr r
def okV (v : Value) : Bool := match v with
  | .int _ => true
  | .long _ => true
  | .ref _ => true
  | _ => false
def okAs : List Value → Bool
  | [] => true
  | v :: r => match okV v with
    | true => okAs r
    | false => false
def cll (g : List Bool) (u n pc : Nat) (L S : List Value) (h : AH) : MR :=
  match Nat.ble n S.length, catS (S.drop n), okAs (S.take n).reverse, Nat.ble (spr (S.take n).reverse).length (mxM u) with
  | true, true, true, true => some (g, .inr (.inr (.inr (.inl (u, (S.take n).reverse, pc, L, S.drop n, h)))))
  | _, _, _, _ => none
def inv (own i pc : Nat) (L S : List Value) (h : AH) : MR := match mT own i with
  | some 9998 => match S with
    | .ref a :: r => match catS r with
      | true => nxtG (decide (kdA h a = 20)) pc L (.ref (szA h + 1) :: r) (cpA (nwA h 20 (lnA h a)) a (szA h + 1) (lnA h a))
      | false => none
    | _ => none
  | some u => match kdM u with
    | 1 => match S[naM u]? with
      | some (.ref x) => cll [decide (kdA h x = owM u)] u (naM u + 1) pc L S h
      | _ => none
    | _ => none
  | _ => none
def fmF (x y : Int32) : Int32 := if (x ^^^ y) < 0 ∧ (x - x / y * y) ≠ 0 then (x - x / y * y) + y else x - x / y * y
def mthI (f : Int32 → Int32 → Int32) (pc : Nat) (L S : List Value) (h : AH) : MR := match S with
  | .int y :: .int x :: r => match catS r with
    | true => nxt pc L (.int (f x y) :: r) h
    | false => none
  | _ => none
def mthJ (f : Int64 → Int64 → Int64) (pc : Nat) (L S : List Value) (h : AH) : MR := match S with
  | .long y :: .long x :: r => match catS r with
    | true => nxt pc L (.long (f x y) :: r) h
    | false => none
  | _ => none
def ins (own i pc : Nat) (L S : List Value) (h : AH) : MR := match mT own i with
  | some 9997 => match S with
    | .int n :: .int dp :: .ref b :: .int sp :: .ref a :: r => some ([decide (dp = 0), decide (sp = 0), decide (kdA h a = 20), decide (kdA h b = 20), !decide (n < 0), decide (ix n ≤ lnA h a), decide (ix n ≤ lnA h b), !decide (a = b), catS r], .inl (pc, L, r, cpA h a b (ix n)))
    | _ => none
  | some 9990 => match S with
    | .int y :: .int x :: r => match catS r with
      | true => nxtG (!decide (y = 0)) pc L (.int (fmF x y) :: r) h
      | false => none
    | _ => none
  | some 9991 => match S with
    | .int x :: r => match catS r with
      | true => nxt pc L (.int (if 0 ≤ x then x else 0 - x) :: r) h
      | false => none
    | _ => none
  | some 9992 => mthI (fun x y => if x < y then y else x) pc L S h
  | some 9993 => mthJ (fun x y => if y < x then x else y) pc L S h
  | some 9994 => mthI (fun x y => if y < x then y else x) pc L S h
  | some 9995 => mthJ (fun x y => if y < x then y else x) pc L S h
  | some u => match kdM u with
    | 0 => cll [] u (naM u) pc L S h
    | _ => none
  | _ => none
def isp (own i pc : Nat) (L S : List Value) (h : AH) : MR := match mT own i with
  | some 9999 => match S with
    | .ref x :: r => match catS r with
      | true => nxtG (!decide (x = 0)) pc L r h
      | false => none
    | _ => none
  | some u => match kdM u with
    | 2 => match S[naM u]? with
      | some (.ref x) => cll [!decide (x = 0)] u (naM u + 1) pc L S h
      | _ => none
    | _ => none
  | _ => none
def inJ (z lo hi : Int) (pc : Nat) (L S : List Value) (h : AH) : MR := match decide (lo ≤ z), decide (z ≤ hi) with
  | true, true => nxt pc L (.int (kI z) :: S) h
  | _, _ => none
def rtI (rt : Nat) (S : List Value) (h : AH) : MR := match S with
  | .int v :: [] => match rt with
    | 1 => some ([], .inr (.inr (.inr (.inr (some (.int v), h)))))
    | 4 => some ([isB v], .inr (.inr (.inr (.inr (some (.int v), h)))))
    | 5 => some ([inB v 65536], .inr (.inr (.inr (.inr (some (.int v), h)))))
    | 6 => some ([decide (v.toInt8.toInt32 = v)], .inr (.inr (.inr (.inr (some (.int v), h)))))
    | _ => none
  | _ => none
def mstep (own rt : Nat) (i : Instr) (pc n : Nat) (L S : List Value) (h : AH) : MR := match i with
  | .aaload => alR (pc + n) L S h
  | .aastore => asR (pc + n) L S h
  | .aconst_null => nxt (pc + n) L (.ref 0 :: S) h
  | .aload k => ldR k (pc + n) L S h
  | .aload_n k => ldR k.val (pc + n) L S h
  | .anewarray k => nwQ own k (pc + n) L S h
  | .areturn => match S, rt with
    | .ref x :: [], 3 => some ([], .inr (.inr (.inr (.inr (some (.ref x), h)))))
    | _, _ => none
  | .arraylength => lnR (pc + n) L S h
  | .astore k => slR k (pc + n) L S h
  | .astore_n k => slR k.val (pc + n) L S h
  | .baload => alI (fun t => decide (t = 22) || decide (t = 24) || decide (t = 42)) (pc + n) L S h
  | .bastore => asB (pc + n) L S h
  | .bipush z => inJ z (-128) 127 (pc + n) L S h
  | .checkcast k => match cT own k, S with
    | some 20, .ref x :: r => nxtG (decide (kdA h x = 20)) (pc + n) L (.ref x :: r) h
    | _, _ => none
  | .dup => match S with
    | v :: r => match cat1 v with
      | true => nxt (pc + n) L (v :: v :: r) h
      | false => none
    | _ => none
  | .dup2 => match S with
    | v :: w :: r => match cat1 v, cat1 w with
      | true, true => nxt (pc + n) L (v :: w :: v :: w :: r) h
      | _, _ => none
    | _ => none
  | .getfield k => gfR own k (pc + n) L S h
  | .getstatic k => gsR own k (pc + n) L S h
  | .goto o => jmp ((pc : Int) + o) L S h
  | .i2b => uI (fun x => x.toInt8.toInt32) (pc + n) L S h
  | .i2c => uI (fun x => (x.toUInt32 % 65536).toInt32) (pc + n) L S h
  | .i2l => match S with
    | .int x :: r => nxt (pc + n) L (.long x.toInt64 :: r) h
    | _ => none
  | .i2s => uI (fun x => x.toInt16.toInt32) (pc + n) L S h
  | .iadd => bI (fun x y => x + y) (pc + n) L S h
  | .iaload => alI (fun t => decide (t = 20) || decide (t = 40)) (pc + n) L S h
  | .iand => bI (fun x y => x &&& y) (pc + n) L S h
  | .iastore => asI 20 (fun x => x) (pc + n) L S h
  | .iconst z => nxt (pc + n) L (.int (kI z) :: S) h
  | .idiv => dI (fun x y => x / y) (pc + n) L S h
  | .ifCond c o => match S with
    | .int x :: r => brn (cI1 c x) ((pc : Int) + o) (pc + n) L r h
    | _ => none
  | .if_acmp c o => match S with
    | .ref y :: .ref x :: r => match c with
      | .eq => brnG [decide (x < 1000000), decide (y < 1000000)] (decide (x = y)) ((pc : Int) + o) (pc + n) L r h
      | .ne => brnG [decide (x < 1000000), decide (y < 1000000)] (!decide (x = y)) ((pc : Int) + o) (pc + n) L r h
    | _ => none
  | .if_icmp c o => match S with
    | .int y :: .int x :: r => brn (cI2 c x y) ((pc : Int) + o) (pc + n) L r h
    | _ => none
  | .ifnonnull o => match S with
    | .ref x :: r => brn (!decide (x = 0)) ((pc : Int) + o) (pc + n) L r h
    | _ => none
  | .iinc k z => icI k z (pc + n) L S h
  | .iload k => ldI k (pc + n) L S h
  | .iload_n k => ldI k.val (pc + n) L S h
  | .imul => bI (fun x y => x * y) (pc + n) L S h
  | .ineg => uI (fun x => -x) (pc + n) L S h
  | .invokespecial k => isp own k (pc + n) L S h
  | .invokestatic k => ins own k (pc + n) L S h
  | .invokevirtual k => inv own k (pc + n) L S h
  | .ior => bI (fun x y => x ||| y) (pc + n) L S h
  | .irem => dI (fun x y => x - x / y * y) (pc + n) L S h
  | .ireturn => rtI rt S h
  | .ishl => bI (fun x y => x <<< (y &&& 31)) (pc + n) L S h
  | .ishr => bI (fun x y => x >>> (y &&& 31)) (pc + n) L S h
  | .istore k => slI k (pc + n) L S h
  | .istore_n k => slI k.val (pc + n) L S h
  | .isub => bI (fun x y => x - y) (pc + n) L S h
  | .iushr => bI (fun x y => (x.toUInt32 >>> (y.toUInt32 &&& Int32.toUInt32 31)).toInt32) (pc + n) L S h
  | .ixor => bI (fun x y => x ^^^ y) (pc + n) L S h
  | .l2i => match S with
    | .long x :: r => nxt (pc + n) L (.int x.toInt32 :: r) h
    | _ => none
  | .ladd => bJ (fun x y => x + y) (pc + n) L S h
  | .laload => alJ (pc + n) L S h
  | .land => bJ (fun x y => x &&& y) (pc + n) L S h
  | .lastore => asJ (pc + n) L S h
  | .lcmp => match S with
    | .long y :: .long x :: r => nxt (pc + n) L (.int (lg_cmp x y) :: r) h
    | _ => none
  | .lconst k => nxt (pc + n) L (.long (kJ k.val) :: S) h
  | .ldc k => match kT own k with
    | some z => nxt (pc + n) L (.int (kI z) :: S) h
    | none => match sT own k with
      | some s => nxt (pc + n) L (.ref (1000001 + s) :: S) h
      | none => none
  | .ldc_w k => match kT own k with
    | some z => nxt (pc + n) L (.int (kI z) :: S) h
    | none => none
  | .ldc2_w k => match jT own k with
    | some z => nxt (pc + n) L (.long (kJ z) :: S) h
    | none => none
  | .ldiv => dJ (fun x y => x / y) (pc + n) L S h
  | .lload k => ldJ k (pc + n) L S h
  | .lload_n k => ldJ k.val (pc + n) L S h
  | .lmul => bJ (fun x y => x * y) (pc + n) L S h
  | .lookupswitch d ps => match S with
    | .int x :: r => swM x (swQ pc ps.toList) ((pc : Int) + d) L r h
    | _ => none
  | .lor => bJ (fun x y => x ||| y) (pc + n) L S h
  | .lrem => dJ (fun x y => x - x / y * y) (pc + n) L S h
  | .lreturn => match S, rt with
    | .long x :: [], 2 => some ([], .inr (.inr (.inr (.inr (some (.long x), h)))))
    | _, _ => none
  | .lshl => sJ (fun x y => x <<< (y.toInt64 &&& 63)) (pc + n) L S h
  | .lshr => sJ (fun x y => x >>> (y.toInt64 &&& 63)) (pc + n) L S h
  | .lstore k => slJ k (pc + n) L S h
  | .lstore_n k => slJ k.val (pc + n) L S h
  | .lsub => bJ (fun x y => x - y) (pc + n) L S h
  | .lushr => sJ (fun x y => (x.toUInt64 >>> (y.toInt64.toUInt64 &&& Int64.toUInt64 63)).toInt64) (pc + n) L S h
  | .lxor => bJ (fun x y => x ^^^ y) (pc + n) L S h
  | .new k => nwR own k (pc + n) L S h
  | .newarray t => match Nat.blt (aTk t) 34 with
    | true => nwP (aTk t) (pc + n) L S h
    | false => none
  | .pop => match S with
    | v :: r => match cat1 v with
      | true => nxt (pc + n) L r h
      | false => none
    | _ => none
  | .pop2 => match S with
    | .long _ :: r => nxt (pc + n) L r h
    | _ => none
  | .putfield k => pfR own k (pc + n) L S h
  | .return_ => match S, rt with
    | [], 0 => some ([], .inr (.inr (.inr (.inr (none, h)))))
    | _, _ => none
  | .saload => alI (fun t => decide (t = 23)) (pc + n) L S h
  | .sastore => asI 23 (fun x => x.toInt16.toInt32) (pc + n) L S h
  | .sipush z => inJ z (-32768) 32767 (pc + n) L S h
  | .tableswitch d lo hi os => match S with
    | .int x :: r => match decide (hi = lo + os.size - 1) with
      | true => swM x (swP pc lo os.toList) ((pc : Int) + d) L r h
      | false => none
    | _ => none
  | _ => none
