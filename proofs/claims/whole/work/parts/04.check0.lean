def fldT (aux : Nat) : Option (String × String × String × Bool) := (vwCl[aux / 100]?).bind fun q => bif Nat.blt (aux % 100) q.2.2 then some (q.2.1 (aux % 100)) else none
/-- a word of the tables, by its place -/
def hasW (h : Nat) (w : Cond) : Bool := decide (lw_tbl[h]? = some w)
theorem hasW_mem {h : Nat} {w : Cond} (q : hasW h w = true) : w ∈ lw_tbl := List.mem_of_getElem? (of_decide_eq_true q)
def iln : Instr → Nat
  | .bipush _ | .ldc _ | .iload _ | .lload _ | .aload _ | .istore _ | .lstore _ | .astore _ | .newarray _ => 2
  | .sipush _ | .ldc_w _ | .ldc2_w _ | .iinc _ _ | .ifCond _ _ | .if_icmp _ _ | .goto _ | .getfield _ | .putfield _ | .getstatic _ | .new _ | .anewarray _ | .invokevirtual _ | .invokespecial _ | .invokestatic _ => 3
  | _ => 1
def lnOk (i : Instr) (n : Nat) : Bool := match i with
  | .tableswitch _ _ _ _ => true
  | j => Nat.beq n (iln j)
def strOk (c : String) (i j : Nat) : Bool := (decide (c = "DeckBench$TextReader") && ((Nat.beq i 63 && Nat.beq j 0) || (Nat.beq i 72 && Nat.beq j 1) || (Nat.beq i 130 && Nat.beq j 2))) || (decide (c = "DeckBenchModel") && Nat.beq i 153 && Nat.beq j 3)
def clsPos : Lean.RArray (Nat × Nat) := .branch 6 (.branch 3 (.branch 1 (.leaf (212, 83)) (.branch 2 (.leaf (288, 87)) (.leaf (161, 81)))) (.branch 4 (.leaf (129, 79)) (.branch 5 (.leaf (110, 78)) (.leaf (220, 84))))) (.branch 9 (.branch 7 (.leaf (167, 82)) (.branch 8 (.leaf (280, 86)) (.leaf (246, 85)))) (.branch 11 (.branch 10 (.leaf (148, 80)) (.leaf (334, 88))) (.branch 12 (.leaf (98, 77)) (.leaf (1165, 89)))))
def chkX (k pc : Nat) (e : mI) (h : Nat) : Bool := match e.1 with
  | .ifCond _ off => decide ((pc : Int) + off = (e.2.2 : Int))
  | .if_icmp _ off => decide ((pc : Int) + off = (e.2.2 : Int))
  | .goto off => decide ((pc : Int) + off = (e.2.2 : Int))
  | .tableswitch d lo hi offs => decide (0 ≤ (pc : Int) + d) && Nat.beq offs.size (hi - lo + 1).toNat && decide (lo ≤ hi) && offs.all (fun o => decide (0 ≤ (pc : Int) + o))
  | .ldc i => bif Nat.blt e.2.2 4294967296 then hasW h (.constant (mName k).cls i (Int32.ofNat e.2.2)) else strOk (mName k).cls i (e.2.2 - 4294967306)
  | .ldc_w i => hasW h (.constant (mName k).cls i (Int32.ofNat e.2.2))
  | .ldc2_w i => hasW h (.constantLong (mName k).cls i (Int64.ofNat e.2.2))
  | .getfield i => bif Nat.ble 5000 e.2.2 then (bif Nat.beq e.2.2 5000 then hasW h (.fieldLink (mName k).cls i "java/lang/String" "value" "[B") else hasW h (.fieldLink (mName k).cls i "java/lang/String" "coder" "B")) else (match fldT e.2.2 with
    | some (c, n, d, _) => hasW h (.fieldLink (mName k).cls i c n d)
    | none => false)
  | .putfield i => (match fldT e.2.2 with
    | some (c, n, d, _) => hasW h (.fieldLink (mName k).cls i c n d)
    | none => false)
  | .getstatic i => (match e.2.2 with
    | 0 => hasW h (.fieldLink (mName k).cls i "DeckBench$SmallNets" "FIRSTS" "[I")
    | 1 => hasW h (.fieldLink (mName k).cls i "DeckBench$SmallNets" "FORMS" "[I")
    | 2 => hasW h (.fieldLink (mName k).cls i "java/lang/String" "COMPACT_STRINGS" "Z")
    | 3 => hasW h (.fieldLink (mName k).cls i "jdk/internal/util/Preconditions" "SIOOBE_FORMATTER" "Ljava/util/function/BiFunction;")
    | _ => true)
  | .new i => (match vwCl[e.2.2]? with
    | some q => hasW h (.classLink (mName k).cls i q.1) && hasW (clsPos.get e.2.2).1 (.instantiable q.1 q.2.2) && hasW (clsPos.get e.2.2).2 (.initialized q.1)
    | none => false)
  | .newarray t => (match e.2.2 with
    | 0 => decide (t = .int)
    | 1 => decide (t = .byte)
    | 2 => decide (t = .long)
    | _ => true)
  | .anewarray i => bif Nat.beq e.2.2 3 then hasW h (.classLink (mName k).cls i "DeckBench$Net") else hasW h (.classLink (mName k).cls i "DeckBench$Deck")
  | .invokevirtual i => hasW h (.methodLink (mName k).cls i (mName e.2.2)) && Nat.blt e.2.2 263
  | .invokestatic i => bif Nat.beq e.2.2 901 then hasW h (.methodLink (mName k).cls i arraycopyName) else bif Nat.beq e.2.2 902 then hasW h (.methodLink (mName k).cls i Lib.Math.max.name) else bif Nat.beq e.2.2 903 then hasW h (.methodLink (mName k).cls i Lib.Math.min.name) else (hasW h (.methodLink (mName k).cls i (mName e.2.2)) && Nat.blt e.2.2 263)
  | .invokespecial i => bif Nat.beq e.2.2 900 then hasW h (.methodLink (mName k).cls i objectInit) else ((hasW h (.methodLink (mName k).cls i (mName e.2.2)) || hasW h (.methodLinkNest (mName k).cls i (mName e.2.2) "DeckBench")) && Nat.blt e.2.2 263)
  | _ => true
def chkE (k : Nat) (q : mLf) : Bool := (match decode (mCode k) q.1 with
  | .ok (i, n) => decide (i = q.2.1.1) && Nat.beq q.2.1.2.1 (q.1 + n) && lnOk q.2.1.1 n
  | .error _ => false) && chkX k q.1 q.2.1 q.2.2
def lfAll {α : Type} (f : α → Bool) : Lean.RArray α → Bool
  | .leaf x => f x
  | .branch _ l r => lfAll f l && lfAll f r
theorem lfAll_get {α : Type} {f : α → Bool} {t : Lean.RArray α} (h : lfAll f t = true) (n : Nat) : f (t.get n) = true := by
  induction t with
  | leaf x => exact h
  | branch p l r ihl ihr =>
    simp only [lfAll, Bool.and_eq_true] at h
    show f ((Nat.ble p n).rec (l.get n) (r.get n)) = true
    cases Nat.ble p n
    · exact ihl h.1
    · exact ihr h.2
/-- a method's own words -/
def chkM (k : Nat) : Bool := hasW (mPos.get k).1 (.code (mName k) (mCode k) (mMax k) (mRet k)) && hasW (mPos.get k).2.1 (.initialized (mName k).cls)
  && decide ((mName k).cls ≠ "java/lang/invoke/MethodHandle") && decide ((mName k).cls ≠ "java/lang/invoke/VarHandle") && Nat.ble (mMax k) 40 && Jvm.plainName (mName k).cls
  && (match mKind k with
    | 0 => hasW (mPos.get k).2.2.1 (.static (mName k)) && decide ((parseMethodDescriptor (mName k).desc).map (fun d => d.parameters.length) = some (mArgs k))
    | 1 => hasW (mPos.get k).2.2.1 (.instanceMethod (mName k)) && hasW (mPos.get k).2.2.2 (.selects (mName k).cls (mName k) (mName k)) && decide ((parseMethodDescriptor (mName k).desc).map (fun d => d.parameters.length + 1) = some (mArgs k))
      && (bif Nat.beq (mCls k) 50 then decide ((mName k).cls = "java/lang/String") else decide ((vwCl[mCls k]?).map (fun q => q.1) = some (mName k).cls))
    | _ => hasW (mPos.get k).2.2.1 (.instanceMethod (mName k)) && decide ((mName k).name = "<init>") && decide (mRet k = none) && decide ((parseMethodDescriptor (mName k).desc).map (fun d => d.parameters.length + 1) = some (mArgs k)))
