/-! the two constructors, run -/
def zx : Nat → Nat → Nat → Nat → Nat → List Value → List Value → zH → Option ((Option Value ⊕ (List Value × List Value)) × zH)
  | 0, _, _, _, _, _, _, _ => none
  | n + 1, dep, k, stop, pc, L, st, Z => bif Nat.beq pc stop then some (.inr (L, st), Z) else match prog k pc with
    | none => none
    | some e => match zstep dep k e L st Z with
      | none => none
      | some (.inl (pc', L', st', Z')) => zx n dep k stop pc' L' st' Z'
      | some (.inr (.inl r)) => some (.inl r, Z)
      | some (.inr (.inr (k', as, pc', rest))) => match dep with
        | 0 => none
        | d + 1 => match zx n d k' 99999 0 (entL (mMax k') as) [] Z with
          | some (.inl r, Z') => bif wfB Z.length Z'.length L rest [] then zx n (d + 1) k stop pc' L (r.toList ++ rest) Z' else none
          | _ => none
theorem zx_ok {SL : Nat} {sx : Nat → Int32} : ∀ n dep k stop pc L st Z x Z', zx n dep k stop pc L st Z = some (x, Z') → (∀ r, x = .inl r → dexec SL sx n dep k pc L st (emb Z) = some (r, emb Z')) ∧ (∀ L' st', x = .inr (L', st') → ∀ m z, dexec SL sx m dep k stop L' st' (emb Z') = some z → ∃ m', dexec SL sx m' dep k pc L st (emb Z) = some z) := by
  intro n
  induction n with
  | zero => intro dep k stop pc L st Z x Z' h; cases h
  | succ n ih =>
    intro dep k stop pc L st Z x Z' h
    rw [zx] at h
    cases hb : Nat.beq pc stop with
    | true =>
      rw [hb, cond_true] at h
      injection h with h
      injection h with h1 h2
      have hpc := Nat.eq_of_beq_eq_true hb
      refine ⟨fun r e => (by rw [← h1] at e; cases e), fun L' st' e m z hm => ?_⟩
      rw [← h1] at e
      injection e with e
      injection e with e1 e2
      rw [← e1, ← e2, ← h2, ← hpc] at hm
      exact ⟨m, hm⟩
    | false =>
      rw [hb, cond_false] at h
      cases hp : prog k pc with
      | none => rw [hp] at h; cases h
      | some e =>
        rw [hp] at h
        dsimp only at h
        cases hs : zstep dep k e L st Z with
        | none => rw [hs] at h; cases h
        | some q =>
          rw [hs] at h
          have hd := zstep_ok (SL := SL) (sx := sx) (pc := pc) hs
          rcases q with ⟨pc1, L1, st1, Z1⟩ | r1 | ⟨k1, as, pc1, rest⟩
          · have hh := ih _ _ _ _ _ _ _ _ _ h
            refine ⟨fun r e => ?_, fun L' st' e m z hm => ?_⟩
            · rw [dexec, hp]
              dsimp only
              rw [hd]
              exact hh.1 r e
            · obtain ⟨m', h'⟩ := hh.2 L' st' e m z hm
              refine ⟨m' + 1, ?_⟩
              rw [dexec, hp]
              dsimp only
              rw [hd]
              exact h'
          · dsimp only at h
            injection h with h
            injection h with h1 h2
            refine ⟨fun r e => ?_, fun L' st' e => (by rw [← h1] at e; cases e)⟩
            rw [← h1] at e
            injection e with e
            rw [dexec, hp]
            dsimp only
            rw [hd]
            show some (r1, emb Z) = _
            rw [e, h2]
          · dsimp only at h
            cases dep with
            | zero => cases h
            | succ d =>
              dsimp only at h
              cases hc : zx n d k1 99999 0 (entL (mMax k1) as) [] Z with
              | none => rw [hc] at h; cases h
              | some y =>
                obtain ⟨y1, Z1⟩ := y
                rw [hc] at h
                cases y1 with
                | inr w => cases h
                | inl r1 =>
                  dsimp only at h
                  cases hw : wfB Z.length Z1.length L rest [] with
                  | false => rw [hw] at h; cases h
                  | true =>
                    rw [hw, cond_true] at h
                    have h1 := (ih _ _ _ _ _ _ _ _ _ hc).1 r1 rfl
                    have h2 := ih _ _ _ _ _ _ _ _ _ h
                    have hw' : wfB (emb Z).length (emb Z1).length L rest (emb Z) = true := by rw [emb_len, emb_len]; exact hw
                    refine ⟨fun r e => ?_, fun L' st' e m z hm => ?_⟩
                    · rw [dexec, hp]
                      dsimp only
                      rw [hd]
                      dsimp only [embR]
                      rw [h1]
                      dsimp only
                      rw [hw', cond_true]
                      exact h2.1 r e
                    · obtain ⟨m', h'⟩ := h2.2 L' st' e m z hm
                      refine ⟨max n m' + 1, ?_⟩
                      rw [dexec, hp]
                      dsimp only
                      rw [hd]
                      dsimp only [embR]
                      rw [dexec_le h1 (Nat.le_max_left n m')]
                      dsimp only
                      rw [hw', cond_true]
                      exact dexec_le h' (Nat.le_max_right n m')
def cI (a i : Nat) : Int32 := bif Nat.beq a 0 then (bif Nat.beq i 5 then -1 else 0) else bif Nat.beq a 147 then (bif Nat.beq i 3 then -1 else 0) else bif Nat.beq a 188 then (bif Nat.beq i 14 || Nat.beq i 24 then -1 else 0) else 0
def c1 : Hp := (cI, fun _ _ => 0)
def zOf (a : Nat) (e : mS) : zC := match e.1 with
  | 0 => .inl (e.2.1, e.2.2.getD 0 0, none)
  | 1 => .inl (2, e.2.2.getD 0 0, none)
  | 2 => .inl (e.2.1, e.2.2.length, some (e.2.2.map some))
  | _ => .inr (e.2.1, e.2.2.mapIdx (cellF c1 a))
def zFi : zH := (List.range 208).map fun a => zOf a (shT.get a)
theorem zFi_sh : ∀ a, a < 208 → (!(Nat.beq (shT.get a).1 0) || (!(Nat.beq a 0) && !(Nat.beq a 147) && !(Nat.beq a 188) && !(Nat.beq (shT.get a).2.1 2))) = true := by decide +kernel
theorem emb_F : emb zFi = Gof c1 := by
  unfold emb zFi Gof
  rw [List.map_map]
  apply List.map_congr_left
  intro a ha
  have hsh := zFi_sh a (List.mem_range.mp ha)
  show embC (zOf a (shT.get a)) = cellOf c1 a (shT.get a)
  generalize shT.get a = e at hsh
  obtain ⟨t, c, l⟩ := e
  match t, hsh with
  | 0, hsh =>
    have hsh : (!(Nat.beq a 0) && !(Nat.beq a 147) && !(Nat.beq a 188) && !(Nat.beq c 2)) = true := hsh
    simp only [Bool.and_eq_true, Bool.not_eq_true'] at hsh
    obtain ⟨⟨⟨a1, a2⟩, a3⟩, a4⟩ := hsh
    have e : c1.1 a = fun _ => 0 := by
      funext i
      show cI a i = 0
      unfold cI
      rw [a1, a2, a3]; rfl
    show embC (.inl (c, l.getD 0 0, none)) = .inl (c, l.getD 0 0, .inl (c1.1 a))
    rw [embC_n, a4, e]; rfl
  | 1, _ => rfl
  | 2, _ => rfl
  | n + 3, _ => rfl
def eqC (x y : zC) : Bool := match x, y with
  | .inl a, .inl b => decide (a = b)
  | .inr a, .inr b => decide (a.1 = b.1) && decide (a.2 = b.2)
  | _, _ => false
theorem eqC_ok {x y : zC} (h : eqC x y = true) : x = y := by
  rcases x with a | a <;> rcases y with b | b
  · exact congrArg Sum.inl (of_decide_eq_true h)
  · cases h
  · cases h
  · have h : (decide (a.1 = b.1) && decide (a.2 = b.2)) = true := h
    rw [Bool.and_eq_true] at h
    exact congrArg Sum.inr (Prod.ext (of_decide_eq_true h.1) (of_decide_eq_true h.2))
def eqZ : zH → zH → Bool
  | [], [] => true
  | x :: xs, y :: ys => eqC x y && eqZ xs ys
  | _, _ => false
theorem eqZ_ok : ∀ {xs ys : zH}, eqZ xs ys = true → xs = ys := by
  intro xs
  induction xs with
  | nil =>
    intro ys h
    cases ys with
    | nil => rfl
    | cons y ys => cases h
  | cons x xs ih =>
    intro ys h
    cases ys with
    | nil => cases h
    | cons y ys =>
      rw [eqZ, Bool.and_eq_true] at h
      rw [eqC_ok h.1, ih h.2]
def zck (o : Option ((Option Value ⊕ (List Value × List Value)) × zH)) : Bool := match o with
  | some (.inr x, Z) => decide (x.1 = [.ref 1000, .ref 0, .ref 188, .null]) && decide (x.2 = []) && eqZ Z zFi
  | _ => false
set_option maxRecDepth 100000 in
theorem z_chk : zck (zx 20000 100 0 16 0 (entL 4 [.ref 1000]) [] []) = true := by decide +kernel
theorem z_run : zx 20000 100 0 16 0 (entL 4 [.ref 1000]) [] [] = some (Sum.inr ([.ref 1000, .ref 0, .ref 188, .null], []), zFi) := by
  have h := z_chk
  generalize zx 20000 100 0 16 0 (entL 4 [.ref 1000]) [] [] = o at h
  unfold zck at h
  split at h
  · rename_i x Z
    obtain ⟨x1, x2⟩ := x
    rw [Bool.and_eq_true, Bool.and_eq_true] at h
    have e1 : x1 = _ := of_decide_eq_true h.1.1
    have e2 : x2 = _ := of_decide_eq_true h.1.2
    rw [e1, e2, eqZ_ok h.2]
  · cases h
def szE (e : mS) : Nat := match e.1 with
  | 0 => e.2.2.getD 0 0
  | 1 => e.2.2.getD 0 0
  | _ => e.2.2.length
theorem szC_cell (h : Hp) (a : Nat) (e : mS) : szC (cellOf h a e) = szE e := by
  obtain ⟨t, c, l⟩ := e
  match t with
  | 0 => rfl
  | 1 => rfl
  | 2 => show l.length = l.length; rfl
  | n + 3 => show (l.mapIdx (cellF h a)).length = l.length; rw [List.length_mapIdx]
theorem sz_Gof (h : Hp) : szG (Gof h) ≤ 7302250 := by
  have e : szG (Gof h) = ((List.range 208).map fun a => szE (shT.get a)).sum := by
    unfold szG Gof
    rw [List.map_map]
    exact congrArg List.sum (List.map_congr_left (fun a _ => szC_cell h a _))
  rw [e]
  decide +kernel
