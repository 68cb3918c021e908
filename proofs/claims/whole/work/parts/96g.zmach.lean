/-! the two constructors: a machine whose arrays hold nothing yet -/
abbrev zC : Type := (Nat × Nat × Option (List (Option Nat))) ⊕ (Nat × List Value)
abbrev zH : Type := List zC
abbrev zR : Type := (Nat × List Value × List Value × zH) ⊕ (Option Value ⊕ (Nat × List Value × Nat × List Value))
def embC : zC → mC
  | .inl (t, n, none) => bif Nat.beq t 2 then .inl (2, n, .inr (.inl (fun _ => 0))) else .inl (t, n, .inl (fun _ => 0))
  | .inl (t, n, some f) => .inl (t, n, .inr (.inr f))
  | .inr o => .inr o
theorem embC_n (t n : Nat) : embC (.inl (t, n, none)) = bif Nat.beq t 2 then .inl (2, n, .inr (.inl (fun _ => 0))) else .inl (t, n, .inl (fun _ => 0)) := rfl
def emb (Z : zH) : mH := Z.map embC
def embR : zR → mR
  | .inl (pc, L, st, Z) => .inl (pc, L, st, emb Z)
  | .inr x => .inr x
def zgc (b : Bool) (r : Option zR) : Option zR := bif b then r else none
def zgo (e : mI) (L st : List Value) (Z : zH) : Option zR := some (.inl (e.2.1, L, st, Z))
def zO (Z : zH) (a : Nat) : Option (Nat × List Value) := match Z[a]? with
  | some (.inr o) => some o
  | _ => none
def zQ (Z : zH) (a : Nat) : Option (Nat × Nat × List (Option Nat)) := match Z[a]? with
  | some (.inl (t, n, some f)) => bif (Nat.beq t 3 || Nat.beq t 4) && Nat.beq n f.length then some (t, n, f) else none
  | _ => none
def zwC (n : Nat) : zC → Bool
  | .inl (_, _, some f) => f.all fun q => match q with
    | some k => Nat.blt k n
    | none => true
  | .inl _ => true
  | .inr o => o.2.all (wfV n)
def zwA (L st : List Value) (Z : zH) : Bool := L.all (wfV Z.length) && st.all (wfV Z.length) && Z.all (zwC Z.length) && Nat.blt Z.length 999
def zcall (e : mI) (st : List Value) : Option zR := zgc (Nat.ble (mArgs e.2.2) st.length && Nat.ble (catS (st.drop (mArgs e.2.2))) 8 && Nat.ble (wrds (st.take (mArgs e.2.2))).length (mMax e.2.2)) (some (.inr (.inr (e.2.2, (st.take (mArgs e.2.2)).reverse, e.2.1, st.drop (mArgs e.2.2)))))
def zstep (dep k : Nat) (e : mI) (L st : List Value) (Z : zH) : Option zR :=
  match e.1 with
  | .iconst n => zgo e L (.int (Int32.ofInt n) :: st) Z
  | .bipush n => zgo e L (.int (Int8.ofInt n).toInt32 :: st) Z
  | .sipush n => zgo e L (.int (Int16.ofInt n).toInt32 :: st) Z
  | .iload_n i => (lI L i).bind fun x => zgo e L (.int x :: st) Z
  | .iload i => (lI L i).bind fun x => zgo e L (.int x :: st) Z
  | .aload_n i => (lA L i).bind fun x => zgc (Nat.blt x 1020) (zgo e L (.ref x :: st) Z)
  | .aload i => (lA L i).bind fun x => zgc (Nat.blt x 1020) (zgo e L (.ref x :: st) Z)
  | .istore_n i => (pI st).bind fun q => zgc (Nat.blt i L.length) (zgo e (st1 L i (.int q.1)) q.2 Z)
  | .istore i => (pI st).bind fun q => zgc (Nat.blt i L.length) (zgo e (st1 L i (.int q.1)) q.2 Z)
  | .astore_n i => (pA st).bind fun q => zgc (Nat.blt i L.length && Nat.blt q.1 1020) (zgo e (st1 L i (.ref q.1)) q.2 Z)
  | .astore i => (pA st).bind fun q => zgc (Nat.blt i L.length && Nat.blt q.1 1020) (zgo e (st1 L i (.ref q.1)) q.2 Z)
  | .iinc i n => (lI L i).bind fun x => zgo e (st1 L i (.int (x + Int32.ofInt n))) st Z
  | .dup => (match st with
    | v :: r => zgc (Nat.beq v.category 1) (zgo e L (v :: v :: r) Z)
    | _ => none)
  | .if_icmp c _ => (pI st).bind fun q => (pI q.2).bind fun r => some (.inl (bif cnd c r.1 q.1 then e.2.2 else e.2.1, L, r.2, Z))
  | .goto _ => some (.inl (e.2.2, L, st, Z))
  | .getfield _ => (pA st).bind fun q => zgc (!Nat.ble 5000 e.2.2) ((zO Z q.1).bind fun o => bif Nat.beq o.1 (e.2.2 / 100) then (o.2[e.2.2 % 100]?).bind fun v => zgo e L (v :: q.2) Z else none)
  | .putfield _ => (match st with
    | v :: .ref a :: r => (zO Z a).bind fun o => zgc (Nat.beq o.1 (e.2.2 / 100) && Nat.blt (e.2.2 % 100) o.2.length && putOk k e.2.2 v && Nat.blt e.2.2 5000) (zgo e L r (Z.set a (.inr (o.1, o.2.set (e.2.2 % 100) v))))
    | _ => none)
  | .aastore => (pA st).bind fun x => (pI x.2).bind fun q => (pA q.2).bind fun r => (zQ Z r.1).bind fun a => (zO Z x.1).bind fun o => zgc (inB q.1 a.2.1 && Nat.blt x.1 1000 && Nat.beq o.1 (bif Nat.beq a.1 3 then 6 else 1)) (zgo e L r.2 (Z.set r.1 (.inl (a.1, a.2.1, some (a.2.2.set q.1.toNatClampNeg (some x.1))))))
  | .new _ => zgc (zwA L st Z) ((newO e.2.2).bind fun fs => zgo e L (.ref Z.length :: st) (Z ++ [.inr (e.2.2, fs)]))
  | .newarray _ => (pI st).bind fun q => zgc (zwA L q.2 Z && decide (¬ q.1 < 0) && Nat.ble q.1.toNatClampNeg 60000) (match e.2.2 with
    | 0 => zgo e L (.ref Z.length :: q.2) (Z ++ [.inl (0, q.1.toNatClampNeg, none)])
    | 1 => zgo e L (.ref Z.length :: q.2) (Z ++ [.inl (1, q.1.toNatClampNeg, none)])
    | 2 => zgo e L (.ref Z.length :: q.2) (Z ++ [.inl (2, q.1.toNatClampNeg, none)])
    | _ => none)
  | .anewarray _ => (pI st).bind fun q => zgc (zwA L q.2 Z && decide (¬ q.1 < 0) && Nat.ble q.1.toNatClampNeg 60000 && (Nat.beq e.2.2 3 || Nat.beq e.2.2 4)) (zgo e L (.ref Z.length :: q.2) (Z ++ [.inl (e.2.2, q.1.toNatClampNeg, some (List.replicate q.1.toNatClampNeg none))]))
  | .invokespecial _ => bif Nat.beq e.2.2 900 then (match st with
      | .ref a :: r => zgc (Nat.blt a 1000 && Nat.blt 0 dep && Nat.ble (catS r) 8) (zgo e L r Z)
      | _ => none)
    else zgc (Nat.beq (mKind e.2.2) 2 && (match st[mArgs e.2.2 - 1]? with
      | some (.ref a) => Nat.blt a 1000
      | _ => false)) (zcall e st)
  | .return_ => (match st with
    | [] => zgc (decide (mRet k = none)) (some (.inr (.inl none)))
    | _ => none)
  | _ => none
theorem emb_at (Z : zH) (a : Nat) : (emb Z)[a]? = (Z[a]?).map embC := by unfold emb; rw [List.getElem?_map]
theorem emb_len (Z : zH) : (emb Z).length = Z.length := by unfold emb; rw [List.length_map]
theorem emb_set (Z : zH) (a : Nat) (c : zC) : (emb Z).set a (embC c) = emb (Z.set a c) := by unfold emb; rw [List.map_set]
theorem emb_app (Z : zH) (c : zC) : emb Z ++ [embC c] = emb (Z ++ [c]) := by unfold emb; rw [List.map_append]; rfl
theorem emb_O (Z : zH) (a : Nat) : ownO (emb Z) a = zO Z a := by
  unfold ownO zO
  rw [emb_at]
  cases Z[a]? with
  | none => rfl
  | some c =>
    rcases c with ⟨t, n, f⟩ | o
    · cases f with
      | none =>
        show (match some (embC (.inl (t, n, none))) with | some (.inr o) => some o | _ => none) = _
        rw [embC_n]
        cases Nat.beq t 2 <;> rfl
      | some f => rfl
    · rfl
theorem emb_Q {Z : zH} {a : Nat} {x : Nat × Nat × List (Option Nat)} (h : zQ Z a = some x) : ownQ (emb Z) a = some x := by
  unfold zQ at h
  unfold ownQ
  rw [emb_at]
  cases e : Z[a]? with
  | none => rw [e] at h; cases h
  | some c =>
    rw [e] at h
    rcases c with ⟨t, n, f⟩ | o
    · cases f with
      | none => cases h
      | some f => exact h
    · cases h
theorem emb_w (n : Nat) (c : zC) : wfC n (embC c) = zwC n c := by
  rcases c with ⟨t, m, f⟩ | o
  · cases f with
    | none =>
      rw [embC_n]
      cases Nat.beq t 2 <;> rfl
    | some f => rfl
  · rfl
theorem emb_A (L st : List Value) (Z : zH) : wfA L st (emb Z) = zwA L st Z := by
  unfold wfA zwA
  rw [emb_len]
  congr 2
  unfold emb
  rw [List.all_map]
  congr 1
  funext c
  exact emb_w _ c
theorem gc_ok {b : Bool} {r : Option zR} {r' : Option mR} {x : zR} (h : zgc b r = some x) (hr : r = some x → r' = some (embR x)) : gc1 b r' = some (embR x) := by
  unfold zgc at h
  unfold gc1
  cases b with
  | true => exact hr h
  | false => cases h
theorem bind_ok {α : Type} {o : Option α} {f : α → Option zR} {g : α → Option mR} {x : zR} (h : o.bind f = some x) (hr : ∀ a, o = some a → f a = some x → g a = some (embR x)) : o.bind g = some (embR x) := by
  cases o with
  | none => cases h
  | some a => exact hr a rfl h
theorem zgo_ok {e : mI} {L st : List Value} {Z : zH} {x : zR} (h : zgo e L st Z = some x) : go e L st (emb Z) = some (embR x) := by
  unfold zgo at h
  cases h
  rfl
theorem zstep_ok {SL dep k pc : Nat} {sx : Nat → Int32} {e : mI} {L st : List Value} {Z : zH} {x : zR} (h : zstep dep k e L st Z = some x) : dstep SL sx dep k pc e L st (emb Z) = some (embR x) := by
  obtain ⟨op, nx, aux⟩ := e
  unfold zstep at h
  dsimp only at h
  split at h
  · exact zgo_ok h
  · exact zgo_ok h
  · exact zgo_ok h
  · rw [dq_iload_n]; exact bind_ok h (fun a _ h => zgo_ok h)
  · rw [dq_iload]; exact bind_ok h (fun a _ h => zgo_ok h)
  · rw [dq_aload_n]; exact bind_ok h (fun a _ h => gc_ok h zgo_ok)
  · rw [dq_aload]; exact bind_ok h (fun a _ h => gc_ok h zgo_ok)
  · rw [dq_istore_n]; exact bind_ok h (fun a _ h => gc_ok h zgo_ok)
  · rw [dq_istore]; exact bind_ok h (fun a _ h => gc_ok h zgo_ok)
  · rw [dq_astore_n]; exact bind_ok h (fun a _ h => gc_ok h zgo_ok)
  · rw [dq_astore]; exact bind_ok h (fun a _ h => gc_ok h zgo_ok)
  · rw [dq_iinc]; exact bind_ok h (fun a _ h => zgo_ok h)
  · rw [dq_dup]
    cases st with
    | nil => cases h
    | cons v r => exact gc_ok h zgo_ok
  · rw [dq_if_icmp]
    refine bind_ok h (fun a _ h => bind_ok h (fun b _ h => ?_))
    cases h
    rfl
  · rw [dq_goto]; cases h; rfl
  · rw [dq_getfield]
    refine bind_ok h (fun a _ h => ?_)
    unfold zgc at h
    unfold getF
    cases hb : Nat.ble 5000 aux with
    | true => rw [hb] at h; cases h
    | false =>
      rw [hb] at h
      rw [cond_false, emb_O]
      cases ho : zO Z a.1 with
      | none => rw [ho] at h; cases h
      | some o =>
        rw [ho] at h
        have h : (bif Nat.beq o.1 (aux / 100) then (o.2[aux % 100]?).bind fun v => zgo (.getfield _, nx, aux) L (v :: a.2) Z else none) = some x := h
        show ((bif Nat.beq o.1 (aux / 100) then o.2[aux % 100]? else none).bind fun v => go _ L (v :: a.2) (emb Z)) = _
        cases hq : Nat.beq o.1 (aux / 100) with
        | false => rw [hq] at h; cases h
        | true =>
          rw [hq, cond_true] at h
          rw [cond_true]
          exact bind_ok h (fun a _ h => zgo_ok h)
  · rw [dq_putfield]
    split at h
    · dsimp only
      rw [emb_O]
      refine bind_ok h (fun o _ h => gc_ok h (fun h => ?_))
      unfold zgo at h
      cases h
      exact congrArg (fun G => some (Sum.inl (_, L, _, G))) (emb_set Z _ (.inr _))
    · cases h
  · rw [dq_aastore]
    refine bind_ok h (fun a _ h => bind_ok h (fun q _ h => bind_ok h (fun r _ h => ?_)))
    cases hq : zQ Z r.1 with
    | none => rw [hq] at h; cases h
    | some y =>
      rw [hq] at h
      rw [emb_Q hq]
      show ((ownO (emb Z) a.1).bind fun o => _) = _
      rw [emb_O]
      refine bind_ok h (fun o _ h => gc_ok h (fun h => ?_))
      unfold zgo at h
      cases h
      exact congrArg (fun G => some (Sum.inl (_, L, _, G))) (emb_set Z _ (.inl (_, _, some _)))
  · rw [dq_new, emb_A, emb_len]
    refine gc_ok h (fun h => bind_ok h (fun fs _ h => ?_))
    unfold zgo at h
    cases h
    exact congrArg (fun G => some (Sum.inl (_, L, _, G))) (emb_app Z (.inr _))
  · rw [dq_newarray]
    refine bind_ok h (fun q _ h => ?_)
    rw [emb_A, emb_len]
    refine gc_ok h (fun h => ?_)
    split at h
    · unfold zgo at h
      cases h
      exact congrArg (fun G => some (Sum.inl (_, L, _, G))) (emb_app Z (.inl (0, _, none)))
    · unfold zgo at h
      cases h
      exact congrArg (fun G => some (Sum.inl (_, L, _, G))) (emb_app Z (.inl (1, _, none)))
    · unfold zgo at h
      cases h
      exact congrArg (fun G => some (Sum.inl (_, L, _, G))) (emb_app Z (.inl (2, _, none)))
    · cases h
  · rw [dq_anewarray]
    refine bind_ok h (fun q _ h => ?_)
    rw [emb_A, emb_len]
    refine gc_ok h (fun h => ?_)
    unfold zgo at h
    cases h
    exact congrArg (fun G => some (Sum.inl (_, L, _, G))) (emb_app Z (.inl (_, _, some _)))
  · rw [dq_invokespecial]
    cases hb : Nat.beq aux 900 with
    | true =>
      rw [hb, cond_true] at h
      rw [cond_true]
      split at h
      · exact gc_ok h zgo_ok
      · cases h
    | false =>
      rw [hb, cond_false] at h
      rw [cond_false]
      refine gc_ok h (fun h => ?_)
      unfold zcall at h
      unfold call0
      refine gc_ok h (fun h => ?_)
      cases h
      rfl
  · cases st with
    | nil =>
      show gc1 _ _ = _
      refine gc_ok h (fun h => ?_)
      cases h
      rfl
    | cons v r => cases h
  · cases h
