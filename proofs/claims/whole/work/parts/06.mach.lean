/-! A SMALL MACHINE: the instructions that this program uses, over a heap that is a list (an address is a place in it).
 Addresses from 1000 on are things outside: 1000 the script, 1001 1002 two static arrays, 1003 .. 1006 the bytes of four texts, 1010 .. 1013 the texts, 1020 a static that nobody reads. -/
abbrev mA : Type := (Nat → Int32) ⊕ ((Nat → Int64) ⊕ List (Option Nat))
abbrev mC : Type := (Nat × Nat × mA) ⊕ (Nat × List Value)
abbrev mH : Type := List mC
/-- on, or back with a value, or a call: its method, its values, where to go on, what is left on the stack -/
abbrev mR : Type := (Nat × List Value × List Value × mH) ⊕ (Option Value ⊕ (Nat × List Value × Nat × List Value))
def pI : List Value → Option (Int32 × List Value)
  | .int x :: r => some (x, r)
  | _ => none
def pJ : List Value → Option (Int64 × List Value)
  | .long x :: r => some (x, r)
  | _ => none
def pA : List Value → Option (Nat × List Value)
  | .ref x :: r => some (x, r)
  | _ => none
def lI (L : List Value) (i : Nat) : Option Int32 := match L[i]? with
  | some (.int x) => some x
  | _ => none
def lJ (L : List Value) (i : Nat) : Option Int64 := match L[i]? with
  | some (.long x) => some x
  | _ => none
def lA (L : List Value) (i : Nat) : Option Nat := match L[i]? with
  | some (.ref x) => some x
  | _ => none
/-- a long that stands just before is lost -/
def clr (L : List Value) : Nat → List Value
  | 0 => L
  | j + 1 => match L[j]? with
    | some v => bif Nat.beq v.category 2 then L.set j .null else L
    | none => L
def st1 (L : List Value) (i : Nat) (v : Value) : List Value := (clr L i).set i v
def st2 (L : List Value) (i : Nat) (v : Value) : List Value := ((clr L i).set i v).set (i + 1) .null
def gc1 (b : Bool) (r : Option mR) : Option mR := bif b then r else none
def cnd : ClassFile.Cond → Int32 → Int32 → Bool
  | .eq, x, y => decide (x = y)
  | .ne, x, y => decide (¬ x = y)
  | .lt, x, y => decide (x < y)
  | .ge, x, y => decide (y ≤ x)
  | .gt, x, y => decide (y < x)
  | .le, x, y => decide (x ≤ y)
def inB (i : Int32) (n : Nat) : Bool := decide (0 ≤ i) && Nat.blt i.toNatClampNeg n
def sFirsts : List Int32 := [0, 1, 2, 4, 8, 19, 53]
def sForms : List Int32 := [0, 0, 0, 1, 0, 1, 3, 7, 0, 1, 3, 7, 11, 12, 13, 15, 30, 31, 63, 0, 1, 3, 7, 11, 12, 13, 15, 30, 31, 63, 75, 76, 77, 79, 86, 87, 94, 95, 116, 117, 119, 127, 222, 223, 235, 236, 237, 239, 254, 255, 507, 511, 1023]
def sTexts : List (List Int32) := [[110, 101, 116], [100, 101, 99, 107], [99, 97, 114, 100], [32, 110, 101, 116, 32, 100, 101, 99, 107, 32, 99, 97, 114, 100, 32]]
def sLens : List Nat := [3, 4, 4, 15]
/-- the arrays outside: kind (0 int, 1 byte), length, contents -/
def xArr (SL : Nat) (sx : Nat → Int32) (a : Nat) : Option (Nat × Nat × (Nat → Int32)) :=
  bif Nat.beq a 1000 then some (0, SL, sx)
  else bif Nat.beq a 1001 then some (0, 7, fun j => sFirsts.getD j 0)
  else bif Nat.beq a 1002 then some (0, 53, fun j => sForms.getD j 0)
  else bif Nat.ble 1003 a && Nat.ble a 1006 then some (1, sLens.getD (a - 1003) 0, fun j => (sTexts.getD (a - 1003) []).getD j 0)
  else none
/-- an int array (kind 0) or a byte array (kind 1) at a: its length, its contents -/
def arrI (SL : Nat) (sx : Nat → Int32) (G : mH) (t a : Nat) : Option (Nat × (Nat → Int32)) :=
  bif Nat.ble 1000 a then (match xArr SL sx a with
    | some (t', n, f) => bif Nat.beq t t' then some (n, f) else none
    | none => none)
  else (match G[a]? with
    | some (.inl (t', n, .inl f)) => bif Nat.beq t t' then some (n, f) else none
    | _ => none)
def ownI (G : mH) (t a : Nat) : Option (Nat × (Nat → Int32)) := match G[a]? with
    | some (.inl (t', n, .inl f)) => bif Nat.beq t t' then some (n, f) else none
    | _ => none
def ownJ (G : mH) (a : Nat) : Option (Nat × (Nat → Int64)) := match G[a]? with
    | some (.inl (t', n, .inr (.inl f))) => bif Nat.beq 2 t' then some (n, f) else none
    | _ => none
def ownQ (G : mH) (a : Nat) : Option (Nat × Nat × List (Option Nat)) := match G[a]? with
    | some (.inl (t', n, .inr (.inr f))) => bif (Nat.beq t' 3 || Nat.beq t' 4) && Nat.beq n f.length then some (t', n, f) else none
    | _ => none
def ownO (G : mH) (a : Nat) : Option (Nat × List Value) := match G[a]? with
    | some (.inr o) => some o
    | _ => none
def lenA (SL : Nat) (sx : Nat → Int32) (G : mH) (a : Nat) : Option Nat :=
  bif Nat.ble 1000 a then (xArr SL sx a).map (fun q => q.2.1)
  else (match G[a]? with
    | some (.inl (t', n, _)) => bif Nat.ble t' 4 then some n else none
    | _ => none)
/-- a field: class number and slot are in aux -/
def getF (G : mH) (aux a : Nat) : Option Value :=
  bif Nat.ble 5000 aux then (bif Nat.ble 1010 a && Nat.ble a 1013 then (bif Nat.beq aux 5000 then some (.ref (a - 7)) else some (.int 0)) else none)
  else (ownO G a).bind fun o => bif Nat.beq o.1 (aux / 100) then o.2[aux % 100]? else none
/-- may v be put there: its kind is the field's, a final one only in a constructor of the class -/
def putOk (k aux : Nat) (v : Value) : Bool := match fldT aux with
  | none => false
  | some (c, _, d, fin) => (match parseFieldDescriptor d with
    | none => false
    | some ty => decide (narrow ty v = v) && fits ty v) && (!fin || (Nat.beq (mKind k) 2 && decide (c = (mName k).cls)))
def wfV (n : Nat) : Value → Bool
  | .ref k => Nat.blt k n || Nat.ble 1000 k
  | _ => true
def wfC (n : Nat) : mC → Bool
  | .inl (_, _, .inr (.inr f)) => f.all fun q => match q with
    | some k => Nat.blt k n
    | none => true
  | .inl _ => true
  | .inr o => o.2.all (wfV n)
def wfA (L st : List Value) (G : mH) : Bool := L.all (wfV G.length) && st.all (wfV G.length) && G.all (wfC G.length) && Nat.blt G.length 999
def newO (ci : Nat) : Option (List Value) := (vwCl[ci]?).map fun q => (List.range q.2.2).map fun j => match parseFieldDescriptor (q.2.1 j).2.2.1 with
  | some ty => defaultValue ty
  | none => .null
def catS (st : List Value) : Nat := (st.map fun v => v.category).sum
def retOk (ret : Option FieldType) (v : Int32) : Bool := match ret with
  | some ty => fits ty (.int v) && decide (narrow ty (.int v) = .int v)
  | none => false
def wrd (v : Value) (r : List Value) : List Value := bif Nat.beq v.category 2 then v :: .null :: r else v :: r
def wrds : List Value → List Value
  | [] => []
  | v :: as => wrd v (wrds as)
def entL (n : Nat) (as : List Value) : List Value := wrds as ++ List.replicate (n - (wrds as).length) .null
def call0 (k : Nat) (e : mI) (st : List Value) : Option mR :=
  gc1 (Nat.ble (mArgs e.2.2) st.length && Nat.ble (catS (st.drop (mArgs e.2.2))) 8 && Nat.ble (wrds (st.take (mArgs e.2.2))).length (mMax e.2.2)) (some (.inr (.inr (e.2.2, (st.take (mArgs e.2.2)).reverse, e.2.1, st.drop (mArgs e.2.2)))))
/-- the receiver: an object of the method's class, or a text -/
def rcv (G : mH) (k : Nat) (v : Option Value) : Bool := match v with
  | some (.ref a) => bif Nat.beq (mCls k) 50 then Nat.ble 1010 a && Nat.ble a 1013 else (match ownO G a with
    | some o => Nat.beq o.1 (mCls k)
    | none => false)
  | _ => false
def cpyF (f g : Nat → Int32) (sp dp n : Nat) : Nat → Int32 := va_cpy f g sp dp n
def go (e : mI) (L st : List Value) (G : mH) : Option mR := some (.inl (e.2.1, L, st, G))
def dstep (SL : Nat) (sx : Nat → Int32) (dep k pc : Nat) (e : mI) (L st : List Value) (G : mH) : Option mR :=
  match e.1 with
  | .iconst n => go e L (.int (Int32.ofInt n) :: st) G
  | .bipush n => go e L (.int (Int8.ofInt n).toInt32 :: st) G
  | .sipush n => go e L (.int (Int16.ofInt n).toInt32 :: st) G
  | .lconst n => go e L (.long (Int64.ofNat (n : Nat)) :: st) G
  | .ldc _ => bif Nat.blt e.2.2 4294967296 then go e L (.int (Int32.ofNat e.2.2) :: st) G else gc1 (Nat.ble 4294967306 e.2.2 && Nat.ble e.2.2 4294967309) (go e L (.ref (e.2.2 - 4294966296) :: st) G)
  | .ldc_w _ => go e L (.int (Int32.ofNat e.2.2) :: st) G
  | .ldc2_w _ => go e L (.long (Int64.ofNat e.2.2) :: st) G
  | .iload_n i => (lI L i).bind fun x => go e L (.int x :: st) G
  | .iload i => (lI L i).bind fun x => go e L (.int x :: st) G
  | .lload_n i => (lJ L i).bind fun x => go e L (.long x :: st) G
  | .lload i => (lJ L i).bind fun x => go e L (.long x :: st) G
  | .aload_n i => (lA L i).bind fun x => gc1 (Nat.blt x 1020) (go e L (.ref x :: st) G)
  | .aload i => (lA L i).bind fun x => gc1 (Nat.blt x 1020) (go e L (.ref x :: st) G)
  | .istore_n i => (pI st).bind fun q => gc1 (Nat.blt i L.length) (go e (st1 L i (.int q.1)) q.2 G)
  | .istore i => (pI st).bind fun q => gc1 (Nat.blt i L.length) (go e (st1 L i (.int q.1)) q.2 G)
  | .lstore_n i => (pJ st).bind fun q => gc1 (Nat.blt (i + 1) L.length) (go e (st2 L i (.long q.1)) q.2 G)
  | .lstore i => (pJ st).bind fun q => gc1 (Nat.blt (i + 1) L.length) (go e (st2 L i (.long q.1)) q.2 G)
  | .astore_n i => (pA st).bind fun q => gc1 (Nat.blt i L.length && Nat.blt q.1 1020) (go e (st1 L i (.ref q.1)) q.2 G)
  | .astore i => (pA st).bind fun q => gc1 (Nat.blt i L.length && Nat.blt q.1 1020) (go e (st1 L i (.ref q.1)) q.2 G)
  | .iinc i n => (lI L i).bind fun x => go e (st1 L i (.int (x + Int32.ofInt n))) st G
  | .iadd => (pI st).bind fun q => (pI q.2).bind fun r => go e L (.int (r.1 + q.1) :: r.2) G
  | .isub => (pI st).bind fun q => (pI q.2).bind fun r => go e L (.int (r.1 - q.1) :: r.2) G
  | .imul => (pI st).bind fun q => (pI q.2).bind fun r => go e L (.int (r.1 * q.1) :: r.2) G
  | .iand => (pI st).bind fun q => (pI q.2).bind fun r => go e L (.int (r.1 &&& q.1) :: r.2) G
  | .ior => (pI st).bind fun q => (pI q.2).bind fun r => go e L (.int (r.1 ||| q.1) :: r.2) G
  | .ixor => (pI st).bind fun q => (pI q.2).bind fun r => go e L (.int (r.1 ^^^ q.1) :: r.2) G
  | .ishl => (pI st).bind fun q => (pI q.2).bind fun r => go e L (.int (r.1 <<< (q.1 &&& 31)) :: r.2) G
  | .ishr => (pI st).bind fun q => (pI q.2).bind fun r => go e L (.int (r.1 >>> (q.1 &&& 31)) :: r.2) G
  | .iushr => (pI st).bind fun q => (pI q.2).bind fun r => go e L (.int (r.1.toUInt32 >>> (q.1.toUInt32 &&& Int32.toUInt32 31)).toInt32 :: r.2) G
  | .idiv => (pI st).bind fun q => (pI q.2).bind fun r => gc1 (decide (¬ q.1 = 0)) (go e L (.int (r.1 / q.1) :: r.2) G)
  | .irem => (pI st).bind fun q => (pI q.2).bind fun r => gc1 (decide (¬ q.1 = 0)) (go e L (.int (r.1 - r.1 / q.1 * q.1) :: r.2) G)
  | .ineg => (pI st).bind fun q => go e L (.int (-q.1) :: q.2) G
  | .ladd => (pJ st).bind fun q => (pJ q.2).bind fun r => go e L (.long (r.1 + q.1) :: r.2) G
  | .lsub => (pJ st).bind fun q => (pJ q.2).bind fun r => go e L (.long (r.1 - q.1) :: r.2) G
  | .lmul => (pJ st).bind fun q => (pJ q.2).bind fun r => go e L (.long (r.1 * q.1) :: r.2) G
  | .ldiv => (pJ st).bind fun q => (pJ q.2).bind fun r => gc1 (decide (¬ q.1 = 0)) (go e L (.long (r.1 / q.1) :: r.2) G)
  | .lrem => (pJ st).bind fun q => (pJ q.2).bind fun r => gc1 (decide (¬ q.1 = 0)) (go e L (.long (r.1 - r.1 / q.1 * q.1) :: r.2) G)
  | .lneg => (pJ st).bind fun q => go e L (.long (-q.1) :: q.2) G
  | .lcmp => (pJ st).bind fun q => (pJ q.2).bind fun r => go e L (.int (lg_cmp r.1 q.1) :: r.2) G
  | .i2l => (pI st).bind fun q => go e L (.long q.1.toInt64 :: q.2) G
  | .l2i => (pJ st).bind fun q => go e L (.int q.1.toInt32 :: q.2) G
  | .i2b => (pI st).bind fun q => go e L (.int q.1.toInt8.toInt32 :: q.2) G
  | .i2c => (pI st).bind fun q => go e L (.int (q.1.toUInt32 % 65536).toInt32 :: q.2) G
  | .dup => (match st with
    | v :: r => gc1 (Nat.beq v.category 1) (go e L (v :: v :: r) G)
    | _ => none)
  | .dup2 => (match st with
    | v :: w :: r => gc1 (Nat.beq v.category 1 && Nat.beq w.category 1) (go e L (v :: w :: v :: w :: r) G)
    | _ => none)
  | .pop => (match st with
    | v :: r => gc1 (Nat.beq v.category 1) (go e L r G)
    | _ => none)
  | .ifCond c _ => (pI st).bind fun q => some (.inl (bif cnd c q.1 0 then e.2.2 else e.2.1, L, q.2, G))
  | .if_icmp c _ => (pI st).bind fun q => (pI q.2).bind fun r => some (.inl (bif cnd c r.1 q.1 then e.2.2 else e.2.1, L, r.2, G))
  | .goto _ => some (.inl (e.2.2, L, st, G))
  | .tableswitch d lo hi offs => (pI st).bind fun q => some (.inl (bif decide (q.1.toInt < lo) || decide (hi < q.1.toInt) then ((pc : Int) + d).toNat else ((pc : Int) + offs.getD (q.1.toInt - lo).toNat 0).toNat, L, q.2, G))
  | .getfield _ => (pA st).bind fun q => (getF G e.2.2 q.1).bind fun v => go e L (v :: q.2) G
  | .putfield _ => (match st with
    | v :: .ref a :: r => (ownO G a).bind fun o => gc1 (Nat.beq o.1 (e.2.2 / 100) && Nat.blt (e.2.2 % 100) o.2.length && putOk k e.2.2 v && Nat.blt e.2.2 5000) (go e L r (G.set a (.inr (o.1, o.2.set (e.2.2 % 100) v))))
    | _ => none)
  | .getstatic _ => (match e.2.2 with
    | 0 => go e L (.ref 1001 :: st) G
    | 1 => go e L (.ref 1002 :: st) G
    | 2 => go e L (.int 1 :: st) G
    | 3 => go e L (.ref 1020 :: st) G
    | _ => none)
  | .iaload => (pI st).bind fun q => (pA q.2).bind fun r => (arrI SL sx G 0 r.1).bind fun a => gc1 (inB q.1 a.1) (go e L (.int (a.2 q.1.toNatClampNeg) :: r.2) G)
  | .baload => (pI st).bind fun q => (pA q.2).bind fun r => (arrI SL sx G 1 r.1).bind fun a => gc1 (inB q.1 a.1) (go e L (.int (a.2 q.1.toNatClampNeg) :: r.2) G)
  | .laload => (pI st).bind fun q => (pA q.2).bind fun r => (ownJ G r.1).bind fun a => gc1 (inB q.1 a.1) (go e L (.long (a.2 q.1.toNatClampNeg) :: r.2) G)
  | .aaload => (pI st).bind fun q => (pA q.2).bind fun r => (ownQ G r.1).bind fun a => gc1 (inB q.1 a.2.1) (match a.2.2.getD q.1.toNatClampNeg none with
    | some x => gc1 (Nat.blt x 1000) (go e L (.ref x :: r.2) G)
    | none => none)
  | .iastore => (pI st).bind fun x => (pI x.2).bind fun q => (pA q.2).bind fun r => (ownI G 0 r.1).bind fun a => gc1 (inB q.1 a.1) (go e L r.2 (G.set r.1 (.inl (0, a.1, .inl (upd a.2 q.1.toNatClampNeg x.1)))))
  | .bastore => (pI st).bind fun x => (pI x.2).bind fun q => (pA q.2).bind fun r => (ownI G 1 r.1).bind fun a => gc1 (inB q.1 a.1) (go e L r.2 (G.set r.1 (.inl (1, a.1, .inl (upd a.2 q.1.toNatClampNeg (vp_nar .byte x.1))))))
  | .lastore => (pJ st).bind fun x => (pI x.2).bind fun q => (pA q.2).bind fun r => (ownJ G r.1).bind fun a => gc1 (inB q.1 a.1) (go e L r.2 (G.set r.1 (.inl (2, a.1, .inr (.inl (vp_updL a.2 q.1.toNatClampNeg x.1))))))
  | .aastore => (pA st).bind fun x => (pI x.2).bind fun q => (pA q.2).bind fun r => (ownQ G r.1).bind fun a => (ownO G x.1).bind fun o => gc1 (inB q.1 a.2.1 && Nat.blt x.1 1000 && Nat.beq o.1 (bif Nat.beq a.1 3 then 6 else 1)) (go e L r.2 (G.set r.1 (.inl (a.1, a.2.1, .inr (.inr (a.2.2.set q.1.toNatClampNeg (some x.1)))))))
  | .arraylength => (pA st).bind fun q => (lenA SL sx G q.1).bind fun n => go e L (.int (Int32.ofNat n) :: q.2) G
  | .new _ => gc1 (wfA L st G) ((newO e.2.2).bind fun fs => go e L (.ref G.length :: st) (G ++ [.inr (e.2.2, fs)]))
  | .newarray _ => (pI st).bind fun q => gc1 (wfA L q.2 G && decide (¬ q.1 < 0) && Nat.ble q.1.toNatClampNeg 60000) (match e.2.2 with
    | 0 => go e L (.ref G.length :: q.2) (G ++ [.inl (0, q.1.toNatClampNeg, .inl (fun _ => 0))])
    | 1 => go e L (.ref G.length :: q.2) (G ++ [.inl (1, q.1.toNatClampNeg, .inl (fun _ => 0))])
    | 2 => go e L (.ref G.length :: q.2) (G ++ [.inl (2, q.1.toNatClampNeg, .inr (.inl (fun _ => 0)))])
    | _ => none)
  | .anewarray _ => (pI st).bind fun q => gc1 (wfA L q.2 G && decide (¬ q.1 < 0) && Nat.ble q.1.toNatClampNeg 60000 && (Nat.beq e.2.2 3 || Nat.beq e.2.2 4)) (go e L (.ref G.length :: q.2) (G ++ [.inl (e.2.2, q.1.toNatClampNeg, .inr (.inr (List.replicate q.1.toNatClampNeg none)))]))
  | .invokevirtual _ => gc1 (Nat.beq (mKind e.2.2) 1 && rcv G e.2.2 st[mArgs e.2.2 - 1]?) (call0 k e st)
  | .invokestatic _ => bif Nat.beq e.2.2 901 then (match st with
      | .int n :: .int dp :: .ref b :: .int sp :: .ref a :: r => (ownI G 0 a).bind fun x => (ownI G 0 b).bind fun y => gc1 (decide (¬ sp < 0) && decide (¬ dp < 0) && decide (¬ n < 0) && Nat.ble (sp.toNatClampNeg + n.toNatClampNeg) x.1 && Nat.ble (dp.toNatClampNeg + n.toNatClampNeg) y.1 && Nat.blt 0 dep && Nat.ble (catS r) 8) (go e L r (G.set b (.inl (0, y.1, .inl (cpyF x.2 y.2 sp.toNatClampNeg dp.toNatClampNeg n.toNatClampNeg)))))
      | _ => none)
    else bif Nat.beq e.2.2 902 then (pI st).bind fun q => (pI q.2).bind fun r => gc1 (Nat.blt 0 dep && Nat.ble (catS r.2) 8) (go e L (.int (if r.1 < q.1 then q.1 else r.1) :: r.2) G)
    else bif Nat.beq e.2.2 903 then (pI st).bind fun q => (pI q.2).bind fun r => gc1 (Nat.blt 0 dep && Nat.ble (catS r.2) 8) (go e L (.int (if q.1 < r.1 then q.1 else r.1) :: r.2) G)
    else gc1 (Nat.beq (mKind e.2.2) 0) (call0 k e st)
  | .invokespecial _ => bif Nat.beq e.2.2 900 then (match st with
      | .ref a :: r => gc1 (Nat.blt a 1000 && Nat.blt 0 dep && Nat.ble (catS r) 8) (go e L r G)
      | _ => none)
    else gc1 (Nat.beq (mKind e.2.2) 2 && (match st[mArgs e.2.2 - 1]? with
      | some (.ref a) => Nat.blt a 1000
      | _ => false)) (call0 k e st)
  | .ireturn => (match st with
    | [.int v] => gc1 (retOk (mRet k) v) (some (.inr (.inl (some (.int v)))))
    | _ => none)
  | .areturn => (match st with
    | [.ref a] => gc1 (Nat.blt a 1000 && (match mRet k with
      | some (.object _) => true
      | _ => false)) (some (.inr (.inl (some (.ref a)))))
    | _ => none)
  | .return_ => (match st with
    | [] => gc1 (decide (mRet k = none)) (some (.inr (.inl none)))
    | _ => none)
  | _ => none
/-- may a frame go on with its old values: nothing was made meanwhile, or all of them are known addresses -/
def wfB (n n' : Nat) (L st : List Value) (G : mH) : Bool := Nat.beq n n' || (L.all (wfV n) && st.all (wfV n))
/-- runs a frame to its end; dep: how many calls may stand open above it -/
def dexec (SL : Nat) (sx : Nat → Int32) : Nat → Nat → Nat → Nat → List Value → List Value → mH → Option (Option Value × mH)
  | 0, _, _, _, _, _, _ => none
  | n + 1, dep, k, pc, L, st, G => match prog k pc with
    | none => none
    | some e => match dstep SL sx dep k pc e L st G with
      | none => none
      | some (.inl (pc', L', st', G')) => dexec SL sx n dep k pc' L' st' G'
      | some (.inr (.inl r)) => some (r, G)
      | some (.inr (.inr (k', as, pc', rest))) => match dep with
        | 0 => none
        | d + 1 => match dexec SL sx n d k' 0 (entL (mMax k') as) [] G with
          | none => none
          | some (r, G') => bif wfB G.length G'.length L rest G then dexec SL sx n (d + 1) k pc' L (r.toList ++ rest) G' else none
