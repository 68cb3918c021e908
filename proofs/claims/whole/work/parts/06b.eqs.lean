section DQ
variable (SL : Nat) (sx : Nat → Int32) (dep k pc nx aux : Nat) (L st : List Value) (G : mH)
theorem dq_iconst (n : Int) : dstep SL sx dep k pc (.iconst n, nx, aux) L st G = (go ((.iconst n, nx, aux) : mI) L (.int (Int32.ofInt n) :: st) G) := rfl
theorem dq_bipush (n : Int) : dstep SL sx dep k pc (.bipush n, nx, aux) L st G = (go ((.bipush n, nx, aux) : mI) L (.int (Int8.ofInt n).toInt32 :: st) G) := rfl
theorem dq_sipush (n : Int) : dstep SL sx dep k pc (.sipush n, nx, aux) L st G = (go ((.sipush n, nx, aux) : mI) L (.int (Int16.ofInt n).toInt32 :: st) G) := rfl
theorem dq_lconst (n : Fin 2) : dstep SL sx dep k pc (.lconst n, nx, aux) L st G = (go ((.lconst n, nx, aux) : mI) L (.long (Int64.ofNat (n : Nat)) :: st) G) := rfl
theorem dq_ldc (i0 : Nat) : dstep SL sx dep k pc (.ldc i0, nx, aux) L st G = (bif Nat.blt aux 4294967296 then go ((.ldc i0, nx, aux) : mI) L (.int (Int32.ofNat aux) :: st) G else gc1 (Nat.ble 4294967306 aux && Nat.ble aux 4294967309) (go ((.ldc i0, nx, aux) : mI) L (.ref (aux - 4294966296) :: st) G)) := rfl
theorem dq_ldc_w (i0 : Nat) : dstep SL sx dep k pc (.ldc_w i0, nx, aux) L st G = (go ((.ldc_w i0, nx, aux) : mI) L (.int (Int32.ofNat aux) :: st) G) := rfl
theorem dq_ldc2_w (i0 : Nat) : dstep SL sx dep k pc (.ldc2_w i0, nx, aux) L st G = (go ((.ldc2_w i0, nx, aux) : mI) L (.long (Int64.ofNat aux) :: st) G) := rfl
theorem dq_iload_n (i : Fin 4) : dstep SL sx dep k pc (.iload_n i, nx, aux) L st G = ((lI L i).bind fun x => go ((.iload_n i, nx, aux) : mI) L (.int x :: st) G) := rfl
theorem dq_iload (i : Nat) : dstep SL sx dep k pc (.iload i, nx, aux) L st G = ((lI L i).bind fun x => go ((.iload i, nx, aux) : mI) L (.int x :: st) G) := rfl
theorem dq_lload_n (i : Fin 4) : dstep SL sx dep k pc (.lload_n i, nx, aux) L st G = ((lJ L i).bind fun x => go ((.lload_n i, nx, aux) : mI) L (.long x :: st) G) := rfl
theorem dq_lload (i : Nat) : dstep SL sx dep k pc (.lload i, nx, aux) L st G = ((lJ L i).bind fun x => go ((.lload i, nx, aux) : mI) L (.long x :: st) G) := rfl
theorem dq_aload_n (i : Fin 4) : dstep SL sx dep k pc (.aload_n i, nx, aux) L st G = ((lA L i).bind fun x => gc1 (Nat.blt x 1020) (go ((.aload_n i, nx, aux) : mI) L (.ref x :: st) G)) := rfl
theorem dq_aload (i : Nat) : dstep SL sx dep k pc (.aload i, nx, aux) L st G = ((lA L i).bind fun x => gc1 (Nat.blt x 1020) (go ((.aload i, nx, aux) : mI) L (.ref x :: st) G)) := rfl
theorem dq_istore_n (i : Fin 4) : dstep SL sx dep k pc (.istore_n i, nx, aux) L st G = ((pI st).bind fun q => gc1 (Nat.blt i L.length) (go ((.istore_n i, nx, aux) : mI) (st1 L i (.int q.1)) q.2 G)) := rfl
theorem dq_istore (i : Nat) : dstep SL sx dep k pc (.istore i, nx, aux) L st G = ((pI st).bind fun q => gc1 (Nat.blt i L.length) (go ((.istore i, nx, aux) : mI) (st1 L i (.int q.1)) q.2 G)) := rfl
theorem dq_lstore_n (i : Fin 4) : dstep SL sx dep k pc (.lstore_n i, nx, aux) L st G = ((pJ st).bind fun q => gc1 (Nat.blt (i + 1) L.length) (go ((.lstore_n i, nx, aux) : mI) (st2 L i (.long q.1)) q.2 G)) := rfl
theorem dq_lstore (i : Nat) : dstep SL sx dep k pc (.lstore i, nx, aux) L st G = ((pJ st).bind fun q => gc1 (Nat.blt (i + 1) L.length) (go ((.lstore i, nx, aux) : mI) (st2 L i (.long q.1)) q.2 G)) := rfl
theorem dq_astore_n (i : Fin 4) : dstep SL sx dep k pc (.astore_n i, nx, aux) L st G = ((pA st).bind fun q => gc1 (Nat.blt i L.length && Nat.blt q.1 1020) (go ((.astore_n i, nx, aux) : mI) (st1 L i (.ref q.1)) q.2 G)) := rfl
theorem dq_astore (i : Nat) : dstep SL sx dep k pc (.astore i, nx, aux) L st G = ((pA st).bind fun q => gc1 (Nat.blt i L.length && Nat.blt q.1 1020) (go ((.astore i, nx, aux) : mI) (st1 L i (.ref q.1)) q.2 G)) := rfl
theorem dq_iinc (i : Nat) (n : Int) : dstep SL sx dep k pc (.iinc i n, nx, aux) L st G = ((lI L i).bind fun x => go ((.iinc i n, nx, aux) : mI) (st1 L i (.int (x + Int32.ofInt n))) st G) := rfl
theorem dq_iadd : dstep SL sx dep k pc (.iadd, nx, aux) L st G = ((pI st).bind fun q => (pI q.2).bind fun r => go ((.iadd, nx, aux) : mI) L (.int (r.1 + q.1) :: r.2) G) := rfl
theorem dq_isub : dstep SL sx dep k pc (.isub, nx, aux) L st G = ((pI st).bind fun q => (pI q.2).bind fun r => go ((.isub, nx, aux) : mI) L (.int (r.1 - q.1) :: r.2) G) := rfl
theorem dq_imul : dstep SL sx dep k pc (.imul, nx, aux) L st G = ((pI st).bind fun q => (pI q.2).bind fun r => go ((.imul, nx, aux) : mI) L (.int (r.1 * q.1) :: r.2) G) := rfl
theorem dq_iand : dstep SL sx dep k pc (.iand, nx, aux) L st G = ((pI st).bind fun q => (pI q.2).bind fun r => go ((.iand, nx, aux) : mI) L (.int (r.1 &&& q.1) :: r.2) G) := rfl
theorem dq_ior : dstep SL sx dep k pc (.ior, nx, aux) L st G = ((pI st).bind fun q => (pI q.2).bind fun r => go ((.ior, nx, aux) : mI) L (.int (r.1 ||| q.1) :: r.2) G) := rfl
theorem dq_ixor : dstep SL sx dep k pc (.ixor, nx, aux) L st G = ((pI st).bind fun q => (pI q.2).bind fun r => go ((.ixor, nx, aux) : mI) L (.int (r.1 ^^^ q.1) :: r.2) G) := rfl
theorem dq_ishl : dstep SL sx dep k pc (.ishl, nx, aux) L st G = ((pI st).bind fun q => (pI q.2).bind fun r => go ((.ishl, nx, aux) : mI) L (.int (r.1 <<< (q.1 &&& 31)) :: r.2) G) := rfl
theorem dq_ishr : dstep SL sx dep k pc (.ishr, nx, aux) L st G = ((pI st).bind fun q => (pI q.2).bind fun r => go ((.ishr, nx, aux) : mI) L (.int (r.1 >>> (q.1 &&& 31)) :: r.2) G) := rfl
theorem dq_iushr : dstep SL sx dep k pc (.iushr, nx, aux) L st G = ((pI st).bind fun q => (pI q.2).bind fun r => go ((.iushr, nx, aux) : mI) L (.int (r.1.toUInt32 >>> (q.1.toUInt32 &&& Int32.toUInt32 31)).toInt32 :: r.2) G) := rfl
theorem dq_idiv : dstep SL sx dep k pc (.idiv, nx, aux) L st G = ((pI st).bind fun q => (pI q.2).bind fun r => gc1 (decide (¬ q.1 = 0)) (go ((.idiv, nx, aux) : mI) L (.int (r.1 / q.1) :: r.2) G)) := rfl
theorem dq_irem : dstep SL sx dep k pc (.irem, nx, aux) L st G = ((pI st).bind fun q => (pI q.2).bind fun r => gc1 (decide (¬ q.1 = 0)) (go ((.irem, nx, aux) : mI) L (.int (r.1 - r.1 / q.1 * q.1) :: r.2) G)) := rfl
theorem dq_ineg : dstep SL sx dep k pc (.ineg, nx, aux) L st G = ((pI st).bind fun q => go ((.ineg, nx, aux) : mI) L (.int (-q.1) :: q.2) G) := rfl
theorem dq_ladd : dstep SL sx dep k pc (.ladd, nx, aux) L st G = ((pJ st).bind fun q => (pJ q.2).bind fun r => go ((.ladd, nx, aux) : mI) L (.long (r.1 + q.1) :: r.2) G) := rfl
theorem dq_lsub : dstep SL sx dep k pc (.lsub, nx, aux) L st G = ((pJ st).bind fun q => (pJ q.2).bind fun r => go ((.lsub, nx, aux) : mI) L (.long (r.1 - q.1) :: r.2) G) := rfl
theorem dq_lmul : dstep SL sx dep k pc (.lmul, nx, aux) L st G = ((pJ st).bind fun q => (pJ q.2).bind fun r => go ((.lmul, nx, aux) : mI) L (.long (r.1 * q.1) :: r.2) G) := rfl
theorem dq_ldiv : dstep SL sx dep k pc (.ldiv, nx, aux) L st G = ((pJ st).bind fun q => (pJ q.2).bind fun r => gc1 (decide (¬ q.1 = 0)) (go ((.ldiv, nx, aux) : mI) L (.long (r.1 / q.1) :: r.2) G)) := rfl
theorem dq_lrem : dstep SL sx dep k pc (.lrem, nx, aux) L st G = ((pJ st).bind fun q => (pJ q.2).bind fun r => gc1 (decide (¬ q.1 = 0)) (go ((.lrem, nx, aux) : mI) L (.long (r.1 - r.1 / q.1 * q.1) :: r.2) G)) := rfl
theorem dq_lneg : dstep SL sx dep k pc (.lneg, nx, aux) L st G = ((pJ st).bind fun q => go ((.lneg, nx, aux) : mI) L (.long (-q.1) :: q.2) G) := rfl
theorem dq_lcmp : dstep SL sx dep k pc (.lcmp, nx, aux) L st G = ((pJ st).bind fun q => (pJ q.2).bind fun r => go ((.lcmp, nx, aux) : mI) L (.int (lg_cmp r.1 q.1) :: r.2) G) := rfl
theorem dq_i2l : dstep SL sx dep k pc (.i2l, nx, aux) L st G = ((pI st).bind fun q => go ((.i2l, nx, aux) : mI) L (.long q.1.toInt64 :: q.2) G) := rfl
theorem dq_l2i : dstep SL sx dep k pc (.l2i, nx, aux) L st G = ((pJ st).bind fun q => go ((.l2i, nx, aux) : mI) L (.int q.1.toInt32 :: q.2) G) := rfl
theorem dq_i2b : dstep SL sx dep k pc (.i2b, nx, aux) L st G = ((pI st).bind fun q => go ((.i2b, nx, aux) : mI) L (.int q.1.toInt8.toInt32 :: q.2) G) := rfl
theorem dq_i2c : dstep SL sx dep k pc (.i2c, nx, aux) L st G = ((pI st).bind fun q => go ((.i2c, nx, aux) : mI) L (.int (q.1.toUInt32 % 65536).toInt32 :: q.2) G) := rfl
theorem dq_dup : dstep SL sx dep k pc (.dup, nx, aux) L st G = ((match st with
    | v :: r => gc1 (Nat.beq v.category 1) (go ((.dup, nx, aux) : mI) L (v :: v :: r) G)
    | _ => none)) := rfl
theorem dq_dup2 : dstep SL sx dep k pc (.dup2, nx, aux) L st G = ((match st with
    | v :: w :: r => gc1 (Nat.beq v.category 1 && Nat.beq w.category 1) (go ((.dup2, nx, aux) : mI) L (v :: w :: v :: w :: r) G)
    | _ => none)) := rfl
theorem dq_pop : dstep SL sx dep k pc (.pop, nx, aux) L st G = ((match st with
    | v :: r => gc1 (Nat.beq v.category 1) (go ((.pop, nx, aux) : mI) L r G)
    | _ => none)) := rfl
theorem dq_ifCond (c : ClassFile.Cond) (o0 : Int) : dstep SL sx dep k pc (.ifCond c o0, nx, aux) L st G = ((pI st).bind fun q => some (.inl (bif cnd c q.1 0 then aux else nx, L, q.2, G))) := rfl
theorem dq_if_icmp (c : ClassFile.Cond) (o0 : Int) : dstep SL sx dep k pc (.if_icmp c o0, nx, aux) L st G = ((pI st).bind fun q => (pI q.2).bind fun r => some (.inl (bif cnd c r.1 q.1 then aux else nx, L, r.2, G))) := rfl
theorem dq_goto (o0 : Int) : dstep SL sx dep k pc (.goto o0, nx, aux) L st G = (some (.inl (aux, L, st, G))) := rfl
theorem dq_tableswitch (d : Int) (lo : Int) (hi : Int) (offs : Array Int) : dstep SL sx dep k pc (.tableswitch d lo hi offs, nx, aux) L st G = ((pI st).bind fun q => some (.inl (bif decide (q.1.toInt < lo) || decide (hi < q.1.toInt) then ((pc : Int) + d).toNat else ((pc : Int) + offs.getD (q.1.toInt - lo).toNat 0).toNat, L, q.2, G))) := rfl
theorem dq_getfield (i0 : Nat) : dstep SL sx dep k pc (.getfield i0, nx, aux) L st G = ((pA st).bind fun q => (getF G aux q.1).bind fun v => go ((.getfield i0, nx, aux) : mI) L (v :: q.2) G) := rfl
theorem dq_putfield (i0 : Nat) : dstep SL sx dep k pc (.putfield i0, nx, aux) L st G = ((match st with
    | v :: .ref a :: r => (ownO G a).bind fun o => gc1 (Nat.beq o.1 (aux / 100) && Nat.blt (aux % 100) o.2.length && putOk k aux v && Nat.blt aux 5000) (go ((.putfield i0, nx, aux) : mI) L r (G.set a (.inr (o.1, o.2.set (aux % 100) v))))
    | _ => none)) := rfl
theorem dq_getstatic (i0 : Nat) : dstep SL sx dep k pc (.getstatic i0, nx, aux) L st G = ((match aux with
    | 0 => go ((.getstatic i0, nx, aux) : mI) L (.ref 1001 :: st) G
    | 1 => go ((.getstatic i0, nx, aux) : mI) L (.ref 1002 :: st) G
    | 2 => go ((.getstatic i0, nx, aux) : mI) L (.int 1 :: st) G
    | 3 => go ((.getstatic i0, nx, aux) : mI) L (.ref 1020 :: st) G
    | _ => none)) := rfl
theorem dq_iaload : dstep SL sx dep k pc (.iaload, nx, aux) L st G = ((pI st).bind fun q => (pA q.2).bind fun r => (arrI SL sx G 0 r.1).bind fun a => gc1 (inB q.1 a.1) (go ((.iaload, nx, aux) : mI) L (.int (a.2 q.1.toNatClampNeg) :: r.2) G)) := rfl
theorem dq_baload : dstep SL sx dep k pc (.baload, nx, aux) L st G = ((pI st).bind fun q => (pA q.2).bind fun r => (arrI SL sx G 1 r.1).bind fun a => gc1 (inB q.1 a.1) (go ((.baload, nx, aux) : mI) L (.int (a.2 q.1.toNatClampNeg) :: r.2) G)) := rfl
theorem dq_laload : dstep SL sx dep k pc (.laload, nx, aux) L st G = ((pI st).bind fun q => (pA q.2).bind fun r => (ownJ G r.1).bind fun a => gc1 (inB q.1 a.1) (go ((.laload, nx, aux) : mI) L (.long (a.2 q.1.toNatClampNeg) :: r.2) G)) := rfl
theorem dq_aaload : dstep SL sx dep k pc (.aaload, nx, aux) L st G = ((pI st).bind fun q => (pA q.2).bind fun r => (ownQ G r.1).bind fun a => gc1 (inB q.1 a.2.1) (match a.2.2.getD q.1.toNatClampNeg none with
    | some x => gc1 (Nat.blt x 1000) (go ((.aaload, nx, aux) : mI) L (.ref x :: r.2) G)
    | none => none)) := rfl
theorem dq_iastore : dstep SL sx dep k pc (.iastore, nx, aux) L st G = ((pI st).bind fun x => (pI x.2).bind fun q => (pA q.2).bind fun r => (ownI G 0 r.1).bind fun a => gc1 (inB q.1 a.1) (go ((.iastore, nx, aux) : mI) L r.2 (G.set r.1 (.inl (0, a.1, .inl (upd a.2 q.1.toNatClampNeg x.1)))))) := rfl
theorem dq_bastore : dstep SL sx dep k pc (.bastore, nx, aux) L st G = ((pI st).bind fun x => (pI x.2).bind fun q => (pA q.2).bind fun r => (ownI G 1 r.1).bind fun a => gc1 (inB q.1 a.1) (go ((.bastore, nx, aux) : mI) L r.2 (G.set r.1 (.inl (1, a.1, .inl (upd a.2 q.1.toNatClampNeg (vp_nar .byte x.1))))))) := rfl
theorem dq_lastore : dstep SL sx dep k pc (.lastore, nx, aux) L st G = ((pJ st).bind fun x => (pI x.2).bind fun q => (pA q.2).bind fun r => (ownJ G r.1).bind fun a => gc1 (inB q.1 a.1) (go ((.lastore, nx, aux) : mI) L r.2 (G.set r.1 (.inl (2, a.1, .inr (.inl (vp_updL a.2 q.1.toNatClampNeg x.1))))))) := rfl
theorem dq_aastore : dstep SL sx dep k pc (.aastore, nx, aux) L st G = ((pA st).bind fun x => (pI x.2).bind fun q => (pA q.2).bind fun r => (ownQ G r.1).bind fun a => (ownO G x.1).bind fun o => gc1 (inB q.1 a.2.1 && Nat.blt x.1 1000 && Nat.beq o.1 (bif Nat.beq a.1 3 then 6 else 1)) (go ((.aastore, nx, aux) : mI) L r.2 (G.set r.1 (.inl (a.1, a.2.1, .inr (.inr (a.2.2.set q.1.toNatClampNeg (some x.1)))))))) := rfl
theorem dq_arraylength : dstep SL sx dep k pc (.arraylength, nx, aux) L st G = ((pA st).bind fun q => (lenA SL sx G q.1).bind fun n => go ((.arraylength, nx, aux) : mI) L (.int (Int32.ofNat n) :: q.2) G) := rfl
theorem dq_new (i0 : Nat) : dstep SL sx dep k pc (.new i0, nx, aux) L st G = (gc1 (wfA L st G) ((newO aux).bind fun fs => go ((.new i0, nx, aux) : mI) L (.ref G.length :: st) (G ++ [.inr (aux, fs)]))) := rfl
theorem dq_newarray (i0 : ArrayType) : dstep SL sx dep k pc (.newarray i0, nx, aux) L st G = ((pI st).bind fun q => gc1 (wfA L q.2 G && decide (¬ q.1 < 0) && Nat.ble q.1.toNatClampNeg 60000) (match aux with
    | 0 => go ((.newarray i0, nx, aux) : mI) L (.ref G.length :: q.2) (G ++ [.inl (0, q.1.toNatClampNeg, .inl (fun _ => 0))])
    | 1 => go ((.newarray i0, nx, aux) : mI) L (.ref G.length :: q.2) (G ++ [.inl (1, q.1.toNatClampNeg, .inl (fun _ => 0))])
    | 2 => go ((.newarray i0, nx, aux) : mI) L (.ref G.length :: q.2) (G ++ [.inl (2, q.1.toNatClampNeg, .inr (.inl (fun _ => 0)))])
    | _ => none)) := rfl
theorem dq_anewarray (i0 : Nat) : dstep SL sx dep k pc (.anewarray i0, nx, aux) L st G = ((pI st).bind fun q => gc1 (wfA L q.2 G && decide (¬ q.1 < 0) && Nat.ble q.1.toNatClampNeg 60000 && (Nat.beq aux 3 || Nat.beq aux 4)) (go ((.anewarray i0, nx, aux) : mI) L (.ref G.length :: q.2) (G ++ [.inl (aux, q.1.toNatClampNeg, .inr (.inr (List.replicate q.1.toNatClampNeg none)))]))) := rfl
theorem dq_invokevirtual (i0 : Nat) : dstep SL sx dep k pc (.invokevirtual i0, nx, aux) L st G = (gc1 (Nat.beq (mKind aux) 1 && rcv G aux st[mArgs aux - 1]?) (call0 k ((.invokevirtual i0, nx, aux) : mI) st)) := rfl
theorem dq_invokestatic (i0 : Nat) : dstep SL sx dep k pc (.invokestatic i0, nx, aux) L st G = (bif Nat.beq aux 901 then (match st with
      | .int n :: .int dp :: .ref b :: .int sp :: .ref a :: r => (ownI G 0 a).bind fun x => (ownI G 0 b).bind fun y => gc1 (decide (¬ sp < 0) && decide (¬ dp < 0) && decide (¬ n < 0) && Nat.ble (sp.toNatClampNeg + n.toNatClampNeg) x.1 && Nat.ble (dp.toNatClampNeg + n.toNatClampNeg) y.1 && Nat.blt 0 dep && Nat.ble (catS r) 8) (go ((.invokestatic i0, nx, aux) : mI) L r (G.set b (.inl (0, y.1, .inl (cpyF x.2 y.2 sp.toNatClampNeg dp.toNatClampNeg n.toNatClampNeg)))))
      | _ => none)
    else bif Nat.beq aux 902 then (pI st).bind fun q => (pI q.2).bind fun r => gc1 (Nat.blt 0 dep && Nat.ble (catS r.2) 8) (go ((.invokestatic i0, nx, aux) : mI) L (.int (if r.1 < q.1 then q.1 else r.1) :: r.2) G)
    else bif Nat.beq aux 903 then (pI st).bind fun q => (pI q.2).bind fun r => gc1 (Nat.blt 0 dep && Nat.ble (catS r.2) 8) (go ((.invokestatic i0, nx, aux) : mI) L (.int (if q.1 < r.1 then q.1 else r.1) :: r.2) G)
    else gc1 (Nat.beq (mKind aux) 0) (call0 k ((.invokestatic i0, nx, aux) : mI) st)) := rfl
theorem dq_invokespecial (i0 : Nat) : dstep SL sx dep k pc (.invokespecial i0, nx, aux) L st G = (bif Nat.beq aux 900 then (match st with
      | .ref a :: r => gc1 (Nat.blt a 1000 && Nat.blt 0 dep && Nat.ble (catS r) 8) (go ((.invokespecial i0, nx, aux) : mI) L r G)
      | _ => none)
    else gc1 (Nat.beq (mKind aux) 2 && (match st[mArgs aux - 1]? with
      | some (.ref a) => Nat.blt a 1000
      | _ => false)) (call0 k ((.invokespecial i0, nx, aux) : mI) st)) := rfl
theorem dq_ireturn : dstep SL sx dep k pc (.ireturn, nx, aux) L st G = ((match st with
    | [.int v] => gc1 (retOk (mRet k) v) (some (.inr (.inl (some (.int v)))))
    | _ => none)) := rfl
theorem dq_areturn : dstep SL sx dep k pc (.areturn, nx, aux) L st G = ((match st with
    | [.ref a] => gc1 (Nat.blt a 1000 && (match mRet k with
      | some (.object _) => true
      | _ => false)) (some (.inr (.inl (some (.ref a)))))
    | _ => none)) := rfl
theorem dq_return_ : dstep SL sx dep k pc (.return_, nx, aux) L st G = ((match st with
    | [] => gc1 (decide (mRet k = none)) (some (.inr (.inl none)))
    | _ => none)
) := rfl
end DQ
