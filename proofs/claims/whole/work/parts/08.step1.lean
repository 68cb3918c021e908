/-! WHAT STANDS WHILE A METHOD RUNS -/
def Fx (p : Program) (s : State) (m : MethodId) (args : Array Value) (meth : Method) (c : Code) (k : Nat) : Prop :=
  p.tables.exec = Jvm.exec ∧ c.code = mCode k ∧ meth.sig.returnType = mRet k ∧ meth.locks = false ∧ c.maxLocals = mMax k ∧ s.vm.findClass (mName k).cls = some m.cls ∧ (∀ w ∈ lwG, w.before args s = true) ∧ (mKind k = 2 → meth.name = "<init>")
def Wd (D : va_G) (cA : Nat → ClassId) (xe : Nat → Value) (A : Nat → Prop) (s : State) (xa : Nat → Nat) (G : mH) (H : Heap) (locs : List Loc) : Prop :=
  G.length ≤ 1000 ∧ va_P D vwCl (wsW cA xa xe G) H ∧ va_D A (wsW cA xa xe G) ∧ va_S A s.heap H locs
def Cx (p : Program) (R : Room) (s : State) (m : MethodId) (args : Array Value) (meth : Method) (c : Code) (D : va_G) (cA : Nat → ClassId) (xe : Nat → Value) (A : Nat → Prop) (SL : Nat) (sx : Nat → Int32) (dep k : Nat) : Prop :=
  Fx p s m args meth c k ∧ va_K D vwCl (tysW cA) s ∧ Ext SL sx xe A s s.heap ∧ (∀ q, s.heap.size ≤ q → A q) ∧ (dep ≤ R.frames ∧ 64 * dep ≤ R.locals) ∧ xeOk xe
def KK (p : Program) (l : Launch) (e : Env) (R : Room) (s : State) (m : MethodId) (args : Array Value) (below : List Frame) (meth : Method) (c : Code) (Q : State → Prop) (D : va_G) (cA : Nat → ClassId) (xe : Nat → Value) (A : Nat → Prop) (k : Nat) (xa : Nat → Nat) (G : mH) (cells slots pc' : Nat) (L' st' : List Value) (G' : mH) : Prop :=
  ∀ (xa' : Nat → Nat) (H' : Heap) (locs' : List Loc) (ls' : Array Slot) (cells' slots' : Nat), cells' = cells + (G'.length - G.length) → slots' = slots + (szG G' - szG G) → (∀ j, j < G.length → xa' j = xa j) → (G'.length = G.length → xa' = xa) → Wd D cA xe A s xa' G' H' locs' → lR xa' xe ls' (mMax k) L' →
    W p l e R s m args below meth c H' locs' cells' slots' Q (F0 m pc' ls' (st'.map (mvv xa' xe)))
theorem go_eq {i : Instr} {nx aux : Nat} {L st : List Value} {G : mH} {pc' : Nat} {L' st' : List Value} {G' : mH} (h : go (i, nx, aux) L st G = some (.inl (pc', L', st', G'))) : nx = pc' ∧ L = L' ∧ st = st' ∧ G = G' := by
  unfold go at h
  cases h
  exact ⟨rfl, rfl, rfl, rfl⟩
theorem ckd {k pc nx aux j : Nat} {i : Instr} (hs : ∀ n, lnOk i n = Nat.beq n (iln i)) (h : chkE k (pc, (i, nx, aux), j) = true) : decode (mCode k) pc = .ok (i, iln i) ∧ nx = pc + iln i ∧ chkX k pc (i, nx, aux) j = true := by
  unfold chkE at h
  rw [Bool.and_eq_true] at h
  obtain ⟨h1, h2⟩ := h
  dsimp only at h1 h2
  split at h1
  · rename_i i' n hd
    rw [Bool.and_eq_true, Bool.and_eq_true, hs] at h1
    obtain ⟨⟨e1, e2⟩, e3⟩ := h1
    have e1 := of_decide_eq_true e1
    have e2 := Nat.eq_of_beq_eq_true e2
    have e3 := Nat.eq_of_beq_eq_true e3
    subst e1
    subst e3
    exact ⟨hd, e2, h2⟩
  · cases h1
theorem ckt {k pc nx aux j : Nat} {i : Instr} (h : chkE k (pc, (i, nx, aux), j) = true) : ∃ n, decode (mCode k) pc = .ok (i, n) ∧ chkX k pc (i, nx, aux) j = true := by
  unfold chkE at h
  rw [Bool.and_eq_true] at h
  obtain ⟨h1, h2⟩ := h
  dsimp only at h1 h2
  split at h1
  · rename_i i' n hd
    rw [Bool.and_eq_true, Bool.and_eq_true] at h1
    have e1 := of_decide_eq_true h1.1.1
    subst e1
    exact ⟨n, hd, h2⟩
  · cases h1
theorem ownO_eq {G : mH} {a : Nat} {o : Nat × List Value} (h : ownO G a = some o) : G[a]? = some (.inr o) := by
  unfold ownO at h
  split at h
  · rename_i q; cases h; exact q
  · cases h
theorem ownI_eq {G : mH} {t a n : Nat} {f : Nat → Int32} (h : ownI G t a = some (n, f)) : G[a]? = some (.inl (t, n, .inl f)) := by
  unfold ownI at h
  split at h
  · rename_i t' n' f' q
    cases hb : Nat.beq t t' with
    | false => rw [hb] at h; cases h
    | true => rw [hb] at h; cases h; rw [Nat.eq_of_beq_eq_true hb]; exact q
  · cases h
theorem ownJ_eq {G : mH} {a n : Nat} {f : Nat → Int64} (h : ownJ G a = some (n, f)) : G[a]? = some (.inl (2, n, .inr (.inl f))) := by
  unfold ownJ at h
  split at h
  · rename_i t' n' f' q
    cases hb : Nat.beq 2 t' with
    | false => rw [hb] at h; cases h
    | true => rw [hb] at h; cases h; rw [Nat.eq_of_beq_eq_true hb]; exact q
  · cases h
theorem ownQ_eq {G : mH} {a t n : Nat} {f : List (Option Nat)} (h : ownQ G a = some (t, n, f)) : G[a]? = some (.inl (t, n, .inr (.inr f))) ∧ (t = 3 ∨ t = 4) ∧ n = f.length := by
  unfold ownQ at h
  split at h
  · rename_i t' n' f' q
    cases hb : (Nat.beq t' 3 || Nat.beq t' 4) && Nat.beq n' f'.length with
    | false => rw [hb] at h; cases h
    | true =>
      rw [hb] at h
      cases h
      rw [Bool.and_eq_true, Bool.or_eq_true] at hb
      exact ⟨q, hb.1.imp Nat.eq_of_beq_eq_true Nat.eq_of_beq_eq_true, Nat.eq_of_beq_eq_true hb.2⟩
  · cases h
theorem lt_of_at {α : Type} {G : List α} {a : Nat} {q : α} (h : G[a]? = some q) : a < G.length := (List.getElem?_eq_some_iff.mp h).1
theorem xArr_eq {SL : Nat} {sx : Nat → Int32} {a t n : Nat} {f : Nat → Int32} (h : xArr SL sx a = some (t, n, f)) :
    (a = 1000 ∧ t = 0 ∧ n = SL ∧ f = sx) ∨ (a = 1001 ∧ t = 0 ∧ n = 7 ∧ f = fun j => sFirsts.getD j 0) ∨ (a = 1002 ∧ t = 0 ∧ n = 53 ∧ f = fun j => sForms.getD j 0) ∨ ∃ i, i < 4 ∧ a = 1003 + i ∧ t = 1 ∧ n = sLens.getD i 0 ∧ f = fun j => (sTexts.getD i []).getD j 0 := by
  unfold xArr at h
  cases h0 : Nat.beq a 1000 with
  | true =>
    rw [h0] at h
    simp only [cond_true, Option.some.injEq, Prod.mk.injEq] at h
    obtain ⟨rfl, rfl, rfl⟩ := h
    exact Or.inl ⟨Nat.eq_of_beq_eq_true h0, rfl, rfl, rfl⟩
  | false =>
    rw [h0, cond_false] at h
    cases h1 : Nat.beq a 1001 with
    | true =>
      rw [h1] at h
      simp only [cond_true, Option.some.injEq, Prod.mk.injEq] at h
      obtain ⟨rfl, rfl, rfl⟩ := h
      exact Or.inr (Or.inl ⟨Nat.eq_of_beq_eq_true h1, rfl, rfl, rfl⟩)
    | false =>
      rw [h1, cond_false] at h
      cases h2 : Nat.beq a 1002 with
      | true =>
        rw [h2] at h
        simp only [cond_true, Option.some.injEq, Prod.mk.injEq] at h
        obtain ⟨rfl, rfl, rfl⟩ := h
        exact Or.inr (Or.inr (Or.inl ⟨Nat.eq_of_beq_eq_true h2, rfl, rfl, rfl⟩))
      | false =>
        rw [h2, cond_false] at h
        cases h3 : Nat.ble 1003 a && Nat.ble a 1006 with
        | false => rw [h3, cond_false] at h; cases h
        | true =>
          rw [h3] at h
          simp only [cond_true, Option.some.injEq, Prod.mk.injEq] at h
          obtain ⟨rfl, rfl, rfl⟩ := h
          rw [Bool.and_eq_true] at h3
          have q1 := ble_l h3.1
          have q2 := ble_l h3.2
          exact Or.inr (Or.inr (Or.inr ⟨a - 1003, by omega, by omega, rfl, rfl, rfl⟩))
theorem arrI_eq {SL : Nat} {sx : Nat → Int32} {G : mH} {t a n : Nat} {f : Nat → Int32} (h : arrI SL sx G t a = some (n, f)) : (1000 ≤ a ∧ xArr SL sx a = some (t, n, f)) ∨ (a < 1000 ∧ G[a]? = some (.inl (t, n, .inl f))) := by
  unfold arrI at h
  cases ha : Nat.ble 1000 a with
  | true =>
    rw [ha] at h
    dsimp only [cond] at h
    split at h
    · rename_i t' n' f' q
      cases hb : Nat.beq t t' with
      | false => rw [hb] at h; cases h
      | true => rw [hb] at h; cases h; exact Or.inl ⟨ble_l ha, by rw [Nat.eq_of_beq_eq_true hb]; exact q⟩
    · cases h
  | false =>
    rw [ha] at h
    dsimp only [cond] at h
    have hlt : a < 1000 := by
      rcases Nat.lt_or_ge a 1000 with q | q
      · exact q
      · rw [ble_t q] at ha; cases ha
    split at h
    · rename_i t' n' f' q
      cases hb : Nat.beq t t' with
      | false => rw [hb] at h; cases h
      | true => rw [hb] at h; cases h; exact Or.inr ⟨hlt, by rw [Nat.eq_of_beq_eq_true hb]; exact q⟩
    · cases h
theorem inB_in {i : Int32} {n : Nat} (h : inB i n = true) : vp_in i n := by
  unfold inB at h
  rw [Bool.and_eq_true] at h
  have h1 := of_decide_eq_true h.1
  have h2 := blt_l h.2
  rintro (q | q)
  · exact absurd h1 (by rw [Int32.not_le]; exact q)
  · omega
theorem szG_set {G : mH} {a : Nat} {q q' : mC} (h : G[a]? = some q) (hz : szC q' = szC q) : szG (G.set a q') = szG G := by
  unfold szG
  rw [List.map_set, hz]
  congr 1
  apply List.ext_getElem?
  intro i
  rw [List.getElem?_set]
  by_cases hi : a = i
  · subst hi
    rw [if_pos rfl, List.getElem?_map, h]
    have := lt_of_at h
    simp [this]
  · rw [if_neg hi]
theorem bte {a b : Nat} : (bif true then a else b) = a := rfl
theorem bfe {a b : Nat} : (bif false then a else b) = b := rfl
section STP
variable {p : Program} {l : Launch} {e : Env} {R : Room} {s : State} {m : MethodId} {args : Array Value} {below : List Frame} {meth : Method} {c : Code} {Q : State → Prop} {D : va_G} {cA : Nat → ClassId} {xe : Nat → Value} {A : Nat → Prop} {SL : Nat} {sx : Nat → Int32} {dep k pc : Nat} {xa : Nat → Nat} {H : Heap} {locs : List Loc} {cells slots : Nat} {ls : Array Slot} {L st : List Value} {G : mH} {pc' : Nat} {L' st' : List Value} {G' : mH} {nx aux j : Nat}
theorem KK.pure (kk : KK p l e R s m args below meth c Q D cA xe A k xa G cells slots pc' L' st' G) (hW : Wd D cA xe A s xa G H locs) (hL : lR xa xe ls (mMax k) L') : W p l e R s m args below meth c H locs cells slots Q (F0 m pc' ls (st'.map (mvv xa xe))) := kk xa H locs ls cells slots (by simp) (by simp) (fun _ _ => rfl) (fun _ => rfl) hW hL
theorem KK.put {a : Nat} {q q' : mC} (kk : KK p l e R s m args below meth c Q D cA xe A k xa G cells slots pc' L' st' (G.set a q')) (hq : G[a]? = some q) (hz : szC q' = szC q) (hl : G.length ≤ 1000) (hP : va_P D vwCl ((wsW cA xa xe G).set a (xa a, cellW cA xa xe q')) H) (hD : va_D A ((wsW cA xa xe G).set a (xa a, cellW cA xa xe q'))) (hS : va_S A s.heap H locs) (hL : lR xa xe ls (mMax k) L') : W p l e R s m args below meth c H locs cells slots Q (F0 m pc' ls (st'.map (mvv xa xe))) :=
  kk xa H locs ls cells slots (by simp) (by rw [szG_set hq hz]; simp) (fun _ _ => rfl) (fun _ => rfl) ⟨by simpa using hl, by rw [wsW_set]; exact hP, by rw [wsW_set]; exact hD, hS⟩ hL
theorem s_iconst {n : Int} (hC : Cx p R s m args meth c D cA xe A SL sx dep k) (hW : Wd D cA xe A s xa G H locs) (hL : lR xa xe ls (mMax k) L) (ho : chkE k (pc, (.iconst n, nx, aux), j) = true) (h : dstep SL sx dep k pc (.iconst n, nx, aux) L st G = some (.inl (pc', L', st', G'))) (hg : cells + (G'.length - G.length) ≤ R.cells ∧ slots + (szG G' - szG G) ≤ R.slots) (kk : KK p l e R s m args below meth c Q D cA xe A k xa G cells slots pc' L' st' G') : W p l e R s m args below meth c H locs cells slots Q (F0 m pc ls (st.map (mvv xa xe))) := by
  obtain ⟨⟨hx, hb, hr, hlk, hml, hown, hts, hin⟩, hK, hE, hA, hR, hxe⟩ := id hC
  obtain ⟨hd, rfl, hq⟩ := ckd (fun _ => rfl) ho
  rw [dq_iconst] at h
  obtain ⟨rfl, rfl, rfl, rfl⟩ := go_eq h
  exact lv_iconst (rest := st.map (mvv xa xe)) hx hb hd rfl (kk.pure hW hL)
theorem s_bipush {n : Int} (hC : Cx p R s m args meth c D cA xe A SL sx dep k) (hW : Wd D cA xe A s xa G H locs) (hL : lR xa xe ls (mMax k) L) (ho : chkE k (pc, (.bipush n, nx, aux), j) = true) (h : dstep SL sx dep k pc (.bipush n, nx, aux) L st G = some (.inl (pc', L', st', G'))) (hg : cells + (G'.length - G.length) ≤ R.cells ∧ slots + (szG G' - szG G) ≤ R.slots) (kk : KK p l e R s m args below meth c Q D cA xe A k xa G cells slots pc' L' st' G') : W p l e R s m args below meth c H locs cells slots Q (F0 m pc ls (st.map (mvv xa xe))) := by
  obtain ⟨⟨hx, hb, hr, hlk, hml, hown, hts, hin⟩, hK, hE, hA, hR, hxe⟩ := id hC
  obtain ⟨hd, rfl, hq⟩ := ckd (fun _ => rfl) ho
  rw [dq_bipush] at h
  obtain ⟨rfl, rfl, rfl, rfl⟩ := go_eq h
  exact lv_bipush (rest := st.map (mvv xa xe)) hx hb hd rfl (kk.pure hW hL)
theorem s_sipush {n : Int} (hC : Cx p R s m args meth c D cA xe A SL sx dep k) (hW : Wd D cA xe A s xa G H locs) (hL : lR xa xe ls (mMax k) L) (ho : chkE k (pc, (.sipush n, nx, aux), j) = true) (h : dstep SL sx dep k pc (.sipush n, nx, aux) L st G = some (.inl (pc', L', st', G'))) (hg : cells + (G'.length - G.length) ≤ R.cells ∧ slots + (szG G' - szG G) ≤ R.slots) (kk : KK p l e R s m args below meth c Q D cA xe A k xa G cells slots pc' L' st' G') : W p l e R s m args below meth c H locs cells slots Q (F0 m pc ls (st.map (mvv xa xe))) := by
  obtain ⟨⟨hx, hb, hr, hlk, hml, hown, hts, hin⟩, hK, hE, hA, hR, hxe⟩ := id hC
  obtain ⟨hd, rfl, hq⟩ := ckd (fun _ => rfl) ho
  rw [dq_sipush] at h
  obtain ⟨rfl, rfl, rfl, rfl⟩ := go_eq h
  exact lv_sipush (rest := st.map (mvv xa xe)) hx hb hd rfl (kk.pure hW hL)
theorem s_lconst {n : Fin 2} (hC : Cx p R s m args meth c D cA xe A SL sx dep k) (hW : Wd D cA xe A s xa G H locs) (hL : lR xa xe ls (mMax k) L) (ho : chkE k (pc, (.lconst n, nx, aux), j) = true) (h : dstep SL sx dep k pc (.lconst n, nx, aux) L st G = some (.inl (pc', L', st', G'))) (hg : cells + (G'.length - G.length) ≤ R.cells ∧ slots + (szG G' - szG G) ≤ R.slots) (kk : KK p l e R s m args below meth c Q D cA xe A k xa G cells slots pc' L' st' G') : W p l e R s m args below meth c H locs cells slots Q (F0 m pc ls (st.map (mvv xa xe))) := by
  obtain ⟨⟨hx, hb, hr, hlk, hml, hown, hts, hin⟩, hK, hE, hA, hR, hxe⟩ := id hC
  obtain ⟨hd, rfl, hq⟩ := ckd (fun _ => rfl) ho
  rw [dq_lconst] at h
  obtain ⟨rfl, rfl, rfl, rfl⟩ := go_eq h
  exact lv_lconst (rest := st.map (mvv xa xe)) hx hb hd rfl (kk.pure hW hL)
theorem s_iload_n {i : Fin 4} (hC : Cx p R s m args meth c D cA xe A SL sx dep k) (hW : Wd D cA xe A s xa G H locs) (hL : lR xa xe ls (mMax k) L) (ho : chkE k (pc, (.iload_n i, nx, aux), j) = true) (h : dstep SL sx dep k pc (.iload_n i, nx, aux) L st G = some (.inl (pc', L', st', G'))) (hg : cells + (G'.length - G.length) ≤ R.cells ∧ slots + (szG G' - szG G) ≤ R.slots) (kk : KK p l e R s m args below meth c Q D cA xe A k xa G cells slots pc' L' st' G') : W p l e R s m args below meth c H locs cells slots Q (F0 m pc ls (st.map (mvv xa xe))) := by
  obtain ⟨⟨hx, hb, hr, hlk, hml, hown, hts, hin⟩, hK, hE, hA, hR, hxe⟩ := id hC
  obtain ⟨hd, rfl, hq⟩ := ckd (fun _ => rfl) ho
  rw [dq_iload_n] at h
  obtain ⟨x, h1, h⟩ := Option.bind_eq_some_iff.mp h
  obtain ⟨rfl, rfl, rfl, rfl⟩ := go_eq h
  exact lv_iload_n (rest := st.map (mvv xa xe)) hx hb hd rfl (lR_at hL (lI_eq h1) (by simp)) (kk.pure hW hL)
theorem s_iload {i : Nat} (hC : Cx p R s m args meth c D cA xe A SL sx dep k) (hW : Wd D cA xe A s xa G H locs) (hL : lR xa xe ls (mMax k) L) (ho : chkE k (pc, (.iload i, nx, aux), j) = true) (h : dstep SL sx dep k pc (.iload i, nx, aux) L st G = some (.inl (pc', L', st', G'))) (hg : cells + (G'.length - G.length) ≤ R.cells ∧ slots + (szG G' - szG G) ≤ R.slots) (kk : KK p l e R s m args below meth c Q D cA xe A k xa G cells slots pc' L' st' G') : W p l e R s m args below meth c H locs cells slots Q (F0 m pc ls (st.map (mvv xa xe))) := by
  obtain ⟨⟨hx, hb, hr, hlk, hml, hown, hts, hin⟩, hK, hE, hA, hR, hxe⟩ := id hC
  obtain ⟨hd, rfl, hq⟩ := ckd (fun _ => rfl) ho
  rw [dq_iload] at h
  obtain ⟨x, h1, h⟩ := Option.bind_eq_some_iff.mp h
  obtain ⟨rfl, rfl, rfl, rfl⟩ := go_eq h
  exact lv_iload (rest := st.map (mvv xa xe)) hx hb hd (lR_at hL (lI_eq h1) (by simp)) (kk.pure hW hL)
theorem s_lload_n {i : Fin 4} (hC : Cx p R s m args meth c D cA xe A SL sx dep k) (hW : Wd D cA xe A s xa G H locs) (hL : lR xa xe ls (mMax k) L) (ho : chkE k (pc, (.lload_n i, nx, aux), j) = true) (h : dstep SL sx dep k pc (.lload_n i, nx, aux) L st G = some (.inl (pc', L', st', G'))) (hg : cells + (G'.length - G.length) ≤ R.cells ∧ slots + (szG G' - szG G) ≤ R.slots) (kk : KK p l e R s m args below meth c Q D cA xe A k xa G cells slots pc' L' st' G') : W p l e R s m args below meth c H locs cells slots Q (F0 m pc ls (st.map (mvv xa xe))) := by
  obtain ⟨⟨hx, hb, hr, hlk, hml, hown, hts, hin⟩, hK, hE, hA, hR, hxe⟩ := id hC
  obtain ⟨hd, rfl, hq⟩ := ckd (fun _ => rfl) ho
  rw [dq_lload_n] at h
  obtain ⟨x, h1, h⟩ := Option.bind_eq_some_iff.mp h
  obtain ⟨rfl, rfl, rfl, rfl⟩ := go_eq h
  exact lv_lload_n (rest := st.map (mvv xa xe)) hx hb hd rfl (lR_at hL (lJ_eq h1) (by simp)) (kk.pure hW hL)
theorem s_lload {i : Nat} (hC : Cx p R s m args meth c D cA xe A SL sx dep k) (hW : Wd D cA xe A s xa G H locs) (hL : lR xa xe ls (mMax k) L) (ho : chkE k (pc, (.lload i, nx, aux), j) = true) (h : dstep SL sx dep k pc (.lload i, nx, aux) L st G = some (.inl (pc', L', st', G'))) (hg : cells + (G'.length - G.length) ≤ R.cells ∧ slots + (szG G' - szG G) ≤ R.slots) (kk : KK p l e R s m args below meth c Q D cA xe A k xa G cells slots pc' L' st' G') : W p l e R s m args below meth c H locs cells slots Q (F0 m pc ls (st.map (mvv xa xe))) := by
  obtain ⟨⟨hx, hb, hr, hlk, hml, hown, hts, hin⟩, hK, hE, hA, hR, hxe⟩ := id hC
  obtain ⟨hd, rfl, hq⟩ := ckd (fun _ => rfl) ho
  rw [dq_lload] at h
  obtain ⟨x, h1, h⟩ := Option.bind_eq_some_iff.mp h
  obtain ⟨rfl, rfl, rfl, rfl⟩ := go_eq h
  exact lv_lload (rest := st.map (mvv xa xe)) hx hb hd (lR_at hL (lJ_eq h1) (by simp)) (kk.pure hW hL)
theorem s_aload_n {i : Fin 4} (hC : Cx p R s m args meth c D cA xe A SL sx dep k) (hW : Wd D cA xe A s xa G H locs) (hL : lR xa xe ls (mMax k) L) (ho : chkE k (pc, (.aload_n i, nx, aux), j) = true) (h : dstep SL sx dep k pc (.aload_n i, nx, aux) L st G = some (.inl (pc', L', st', G'))) (hg : cells + (G'.length - G.length) ≤ R.cells ∧ slots + (szG G' - szG G) ≤ R.slots) (kk : KK p l e R s m args below meth c Q D cA xe A k xa G cells slots pc' L' st' G') : W p l e R s m args below meth c H locs cells slots Q (F0 m pc ls (st.map (mvv xa xe))) := by
  obtain ⟨⟨hx, hb, hr, hlk, hml, hown, hts, hin⟩, hK, hE, hA, hR, hxe⟩ := id hC
  obtain ⟨hd, rfl, hq⟩ := ckd (fun _ => rfl) ho
  rw [dq_aload_n] at h
  obtain ⟨x, h1, h⟩ := Option.bind_eq_some_iff.mp h
  obtain ⟨hb1, h⟩ := gc1_eq h
  obtain ⟨rfl, rfl, rfl, rfl⟩ := go_eq h
  obtain ⟨q, hq1⟩ := mvv_ref (xa := xa) hxe (blt_l hb1)
  have h2 := lR_at hL (lA_eq h1) (by simp)
  rw [hq1] at h2
  refine lv_aload_n (rest := st.map (mvv xa xe)) hx hb hd rfl h2 ?_
  rw [← hq1]
  exact kk.pure hW hL
theorem s_aload {i : Nat} (hC : Cx p R s m args meth c D cA xe A SL sx dep k) (hW : Wd D cA xe A s xa G H locs) (hL : lR xa xe ls (mMax k) L) (ho : chkE k (pc, (.aload i, nx, aux), j) = true) (h : dstep SL sx dep k pc (.aload i, nx, aux) L st G = some (.inl (pc', L', st', G'))) (hg : cells + (G'.length - G.length) ≤ R.cells ∧ slots + (szG G' - szG G) ≤ R.slots) (kk : KK p l e R s m args below meth c Q D cA xe A k xa G cells slots pc' L' st' G') : W p l e R s m args below meth c H locs cells slots Q (F0 m pc ls (st.map (mvv xa xe))) := by
  obtain ⟨⟨hx, hb, hr, hlk, hml, hown, hts, hin⟩, hK, hE, hA, hR, hxe⟩ := id hC
  obtain ⟨hd, rfl, hq⟩ := ckd (fun _ => rfl) ho
  rw [dq_aload] at h
  obtain ⟨x, h1, h⟩ := Option.bind_eq_some_iff.mp h
  obtain ⟨hb1, h⟩ := gc1_eq h
  obtain ⟨rfl, rfl, rfl, rfl⟩ := go_eq h
  obtain ⟨q, hq1⟩ := mvv_ref (xa := xa) hxe (blt_l hb1)
  have h2 := lR_at hL (lA_eq h1) (by simp)
  rw [hq1] at h2
  refine lv_aload (rest := st.map (mvv xa xe)) hx hb hd h2 ?_
  rw [← hq1]
  exact kk.pure hW hL
theorem s_istore_n {i : Fin 4} (hC : Cx p R s m args meth c D cA xe A SL sx dep k) (hW : Wd D cA xe A s xa G H locs) (hL : lR xa xe ls (mMax k) L) (ho : chkE k (pc, (.istore_n i, nx, aux), j) = true) (h : dstep SL sx dep k pc (.istore_n i, nx, aux) L st G = some (.inl (pc', L', st', G'))) (hg : cells + (G'.length - G.length) ≤ R.cells ∧ slots + (szG G' - szG G) ≤ R.slots) (kk : KK p l e R s m args below meth c Q D cA xe A k xa G cells slots pc' L' st' G') : W p l e R s m args below meth c H locs cells slots Q (F0 m pc ls (st.map (mvv xa xe))) := by
  obtain ⟨⟨hx, hb, hr, hlk, hml, hown, hts, hin⟩, hK, hE, hA, hR, hxe⟩ := id hC
  obtain ⟨hd, rfl, hq⟩ := ckd (fun _ => rfl) ho
  rw [dq_istore_n] at h
  obtain ⟨⟨x, r⟩, h1, h⟩ := Option.bind_eq_some_iff.mp h
  obtain ⟨hb1, h⟩ := gc1_eq h
  obtain ⟨rfl, rfl, rfl, rfl⟩ := go_eq h
  obtain rfl := pI_eq h1
  exact lv_istore_n (rest := r.map (mvv xa xe)) hx hb hd rfl hL.2 (by rw [← hL.1]; exact blt_l hb1) rfl (fun ls' hl' => kk.pure hW (lR_st1 hxe hL.1 hl'))
theorem s_istore {i : Nat} (hC : Cx p R s m args meth c D cA xe A SL sx dep k) (hW : Wd D cA xe A s xa G H locs) (hL : lR xa xe ls (mMax k) L) (ho : chkE k (pc, (.istore i, nx, aux), j) = true) (h : dstep SL sx dep k pc (.istore i, nx, aux) L st G = some (.inl (pc', L', st', G'))) (hg : cells + (G'.length - G.length) ≤ R.cells ∧ slots + (szG G' - szG G) ≤ R.slots) (kk : KK p l e R s m args below meth c Q D cA xe A k xa G cells slots pc' L' st' G') : W p l e R s m args below meth c H locs cells slots Q (F0 m pc ls (st.map (mvv xa xe))) := by
  obtain ⟨⟨hx, hb, hr, hlk, hml, hown, hts, hin⟩, hK, hE, hA, hR, hxe⟩ := id hC
  obtain ⟨hd, rfl, hq⟩ := ckd (fun _ => rfl) ho
  rw [dq_istore] at h
  obtain ⟨⟨x, r⟩, h1, h⟩ := Option.bind_eq_some_iff.mp h
  obtain ⟨hb1, h⟩ := gc1_eq h
  obtain ⟨rfl, rfl, rfl, rfl⟩ := go_eq h
  obtain rfl := pI_eq h1
  exact lv_istore (rest := r.map (mvv xa xe)) hx hb hd hL.2 (by rw [← hL.1]; exact blt_l hb1) rfl (fun ls' hl' => kk.pure hW (lR_st1 hxe hL.1 hl'))
theorem s_lstore_n {i : Fin 4} (hC : Cx p R s m args meth c D cA xe A SL sx dep k) (hW : Wd D cA xe A s xa G H locs) (hL : lR xa xe ls (mMax k) L) (ho : chkE k (pc, (.lstore_n i, nx, aux), j) = true) (h : dstep SL sx dep k pc (.lstore_n i, nx, aux) L st G = some (.inl (pc', L', st', G'))) (hg : cells + (G'.length - G.length) ≤ R.cells ∧ slots + (szG G' - szG G) ≤ R.slots) (kk : KK p l e R s m args below meth c Q D cA xe A k xa G cells slots pc' L' st' G') : W p l e R s m args below meth c H locs cells slots Q (F0 m pc ls (st.map (mvv xa xe))) := by
  obtain ⟨⟨hx, hb, hr, hlk, hml, hown, hts, hin⟩, hK, hE, hA, hR, hxe⟩ := id hC
  obtain ⟨hd, rfl, hq⟩ := ckd (fun _ => rfl) ho
  rw [dq_lstore_n] at h
  obtain ⟨⟨x, r⟩, h1, h⟩ := Option.bind_eq_some_iff.mp h
  obtain ⟨hb1, h⟩ := gc1_eq h
  obtain ⟨rfl, rfl, rfl, rfl⟩ := go_eq h
  obtain rfl := pJ_eq h1
  exact lv_lstore_n (rest := r.map (mvv xa xe)) hx hb hd rfl hL.2 (by rw [← hL.1]; exact blt_l hb1) rfl (fun ls' hl' => kk.pure hW (lR_st2 hxe hL.1 hl'))
theorem s_lstore {i : Nat} (hC : Cx p R s m args meth c D cA xe A SL sx dep k) (hW : Wd D cA xe A s xa G H locs) (hL : lR xa xe ls (mMax k) L) (ho : chkE k (pc, (.lstore i, nx, aux), j) = true) (h : dstep SL sx dep k pc (.lstore i, nx, aux) L st G = some (.inl (pc', L', st', G'))) (hg : cells + (G'.length - G.length) ≤ R.cells ∧ slots + (szG G' - szG G) ≤ R.slots) (kk : KK p l e R s m args below meth c Q D cA xe A k xa G cells slots pc' L' st' G') : W p l e R s m args below meth c H locs cells slots Q (F0 m pc ls (st.map (mvv xa xe))) := by
  obtain ⟨⟨hx, hb, hr, hlk, hml, hown, hts, hin⟩, hK, hE, hA, hR, hxe⟩ := id hC
  obtain ⟨hd, rfl, hq⟩ := ckd (fun _ => rfl) ho
  rw [dq_lstore] at h
  obtain ⟨⟨x, r⟩, h1, h⟩ := Option.bind_eq_some_iff.mp h
  obtain ⟨hb1, h⟩ := gc1_eq h
  obtain ⟨rfl, rfl, rfl, rfl⟩ := go_eq h
  obtain rfl := pJ_eq h1
  exact lv_lstore (rest := r.map (mvv xa xe)) hx hb hd hL.2 (by rw [← hL.1]; exact blt_l hb1) rfl (fun ls' hl' => kk.pure hW (lR_st2 hxe hL.1 hl'))
theorem s_astore_n {i : Fin 4} (hC : Cx p R s m args meth c D cA xe A SL sx dep k) (hW : Wd D cA xe A s xa G H locs) (hL : lR xa xe ls (mMax k) L) (ho : chkE k (pc, (.astore_n i, nx, aux), j) = true) (h : dstep SL sx dep k pc (.astore_n i, nx, aux) L st G = some (.inl (pc', L', st', G'))) (hg : cells + (G'.length - G.length) ≤ R.cells ∧ slots + (szG G' - szG G) ≤ R.slots) (kk : KK p l e R s m args below meth c Q D cA xe A k xa G cells slots pc' L' st' G') : W p l e R s m args below meth c H locs cells slots Q (F0 m pc ls (st.map (mvv xa xe))) := by
  obtain ⟨⟨hx, hb, hr, hlk, hml, hown, hts, hin⟩, hK, hE, hA, hR, hxe⟩ := id hC
  obtain ⟨hd, rfl, hq⟩ := ckd (fun _ => rfl) ho
  rw [dq_astore_n] at h
  obtain ⟨⟨x, r⟩, h1, h⟩ := Option.bind_eq_some_iff.mp h
  obtain ⟨hb1, h⟩ := gc1_eq h
  obtain ⟨rfl, rfl, rfl, rfl⟩ := go_eq h
  obtain rfl := pA_eq h1
  rw [Bool.and_eq_true] at hb1
  obtain ⟨q, hq1⟩ := mvv_ref (xa := xa) hxe (blt_l hb1.2)
  show W p l e R s m args below meth c H locs cells slots Q (F0 m pc ls (mvv xa xe (.ref x) :: r.map (mvv xa xe)))
  rw [hq1]
  exact lv_astore_n (rest := r.map (mvv xa xe)) hx hb hd rfl hL.2 (by rw [← hL.1]; exact blt_l hb1.1) rfl (fun ls' hl' => kk.pure hW (lR_st1 (v := .ref x) hxe hL.1 (by rw [hq1]; exact hl')))
theorem s_astore {i : Nat} (hC : Cx p R s m args meth c D cA xe A SL sx dep k) (hW : Wd D cA xe A s xa G H locs) (hL : lR xa xe ls (mMax k) L) (ho : chkE k (pc, (.astore i, nx, aux), j) = true) (h : dstep SL sx dep k pc (.astore i, nx, aux) L st G = some (.inl (pc', L', st', G'))) (hg : cells + (G'.length - G.length) ≤ R.cells ∧ slots + (szG G' - szG G) ≤ R.slots) (kk : KK p l e R s m args below meth c Q D cA xe A k xa G cells slots pc' L' st' G') : W p l e R s m args below meth c H locs cells slots Q (F0 m pc ls (st.map (mvv xa xe))) := by
  obtain ⟨⟨hx, hb, hr, hlk, hml, hown, hts, hin⟩, hK, hE, hA, hR, hxe⟩ := id hC
  obtain ⟨hd, rfl, hq⟩ := ckd (fun _ => rfl) ho
  rw [dq_astore] at h
  obtain ⟨⟨x, r⟩, h1, h⟩ := Option.bind_eq_some_iff.mp h
  obtain ⟨hb1, h⟩ := gc1_eq h
  obtain ⟨rfl, rfl, rfl, rfl⟩ := go_eq h
  obtain rfl := pA_eq h1
  rw [Bool.and_eq_true] at hb1
  obtain ⟨q, hq1⟩ := mvv_ref (xa := xa) hxe (blt_l hb1.2)
  show W p l e R s m args below meth c H locs cells slots Q (F0 m pc ls (mvv xa xe (.ref x) :: r.map (mvv xa xe)))
  rw [hq1]
  exact lv_astore (rest := r.map (mvv xa xe)) hx hb hd hL.2 (by rw [← hL.1]; exact blt_l hb1.1) rfl (fun ls' hl' => kk.pure hW (lR_st1 (v := .ref x) hxe hL.1 (by rw [hq1]; exact hl')))
theorem s_iinc {i : Nat} {n : Int} (hC : Cx p R s m args meth c D cA xe A SL sx dep k) (hW : Wd D cA xe A s xa G H locs) (hL : lR xa xe ls (mMax k) L) (ho : chkE k (pc, (.iinc i n, nx, aux), j) = true) (h : dstep SL sx dep k pc (.iinc i n, nx, aux) L st G = some (.inl (pc', L', st', G'))) (hg : cells + (G'.length - G.length) ≤ R.cells ∧ slots + (szG G' - szG G) ≤ R.slots) (kk : KK p l e R s m args below meth c Q D cA xe A k xa G cells slots pc' L' st' G') : W p l e R s m args below meth c H locs cells slots Q (F0 m pc ls (st.map (mvv xa xe))) := by
  obtain ⟨⟨hx, hb, hr, hlk, hml, hown, hts, hin⟩, hK, hE, hA, hR, hxe⟩ := id hC
  obtain ⟨hd, rfl, hq⟩ := ckd (fun _ => rfl) ho
  rw [dq_iinc] at h
  obtain ⟨x, h1, h⟩ := Option.bind_eq_some_iff.mp h
  obtain ⟨rfl, rfl, rfl, rfl⟩ := go_eq h
  have h2 := lI_eq h1
  obtain ⟨k0, hk0⟩ := List.getElem?_of_mem (lvO_mem (xa := xa) (xe := xe).mpr ⟨_, h2, by simp, rfl⟩)
  exact lv_iinc (rest := st.map (mvv xa xe)) hx hb hd hL.2 hk0 rfl (by rw [← hL.1]; exact lt_of_at h2) rfl (fun ls' hl' => kk.pure hW (lR_st1 (v := .int _) hxe hL.1 hl'))
theorem s_iadd (hC : Cx p R s m args meth c D cA xe A SL sx dep k) (hW : Wd D cA xe A s xa G H locs) (hL : lR xa xe ls (mMax k) L) (ho : chkE k (pc, (.iadd, nx, aux), j) = true) (h : dstep SL sx dep k pc (.iadd, nx, aux) L st G = some (.inl (pc', L', st', G'))) (hg : cells + (G'.length - G.length) ≤ R.cells ∧ slots + (szG G' - szG G) ≤ R.slots) (kk : KK p l e R s m args below meth c Q D cA xe A k xa G cells slots pc' L' st' G') : W p l e R s m args below meth c H locs cells slots Q (F0 m pc ls (st.map (mvv xa xe))) := by
  obtain ⟨⟨hx, hb, hr, hlk, hml, hown, hts, hin⟩, hK, hE, hA, hR, hxe⟩ := id hC
  obtain ⟨hd, rfl, hq⟩ := ckd (fun _ => rfl) ho
  rw [dq_iadd] at h
  obtain ⟨⟨y, r1⟩, h1, h⟩ := Option.bind_eq_some_iff.mp h
  obtain ⟨⟨x, r⟩, h2, h⟩ := Option.bind_eq_some_iff.mp h
  obtain ⟨rfl, rfl, rfl, rfl⟩ := go_eq h
  obtain rfl := pI_eq h1
  obtain rfl := pI_eq h2
  exact lv_iadd (x := x) (y := y) (rest := r.map (mvv xa xe)) hx hb hd (kk.pure hW hL)
theorem s_isub (hC : Cx p R s m args meth c D cA xe A SL sx dep k) (hW : Wd D cA xe A s xa G H locs) (hL : lR xa xe ls (mMax k) L) (ho : chkE k (pc, (.isub, nx, aux), j) = true) (h : dstep SL sx dep k pc (.isub, nx, aux) L st G = some (.inl (pc', L', st', G'))) (hg : cells + (G'.length - G.length) ≤ R.cells ∧ slots + (szG G' - szG G) ≤ R.slots) (kk : KK p l e R s m args below meth c Q D cA xe A k xa G cells slots pc' L' st' G') : W p l e R s m args below meth c H locs cells slots Q (F0 m pc ls (st.map (mvv xa xe))) := by
  obtain ⟨⟨hx, hb, hr, hlk, hml, hown, hts, hin⟩, hK, hE, hA, hR, hxe⟩ := id hC
  obtain ⟨hd, rfl, hq⟩ := ckd (fun _ => rfl) ho
  rw [dq_isub] at h
  obtain ⟨⟨y, r1⟩, h1, h⟩ := Option.bind_eq_some_iff.mp h
  obtain ⟨⟨x, r⟩, h2, h⟩ := Option.bind_eq_some_iff.mp h
  obtain ⟨rfl, rfl, rfl, rfl⟩ := go_eq h
  obtain rfl := pI_eq h1
  obtain rfl := pI_eq h2
  exact lv_isub (x := x) (y := y) (rest := r.map (mvv xa xe)) hx hb hd (kk.pure hW hL)
theorem s_imul (hC : Cx p R s m args meth c D cA xe A SL sx dep k) (hW : Wd D cA xe A s xa G H locs) (hL : lR xa xe ls (mMax k) L) (ho : chkE k (pc, (.imul, nx, aux), j) = true) (h : dstep SL sx dep k pc (.imul, nx, aux) L st G = some (.inl (pc', L', st', G'))) (hg : cells + (G'.length - G.length) ≤ R.cells ∧ slots + (szG G' - szG G) ≤ R.slots) (kk : KK p l e R s m args below meth c Q D cA xe A k xa G cells slots pc' L' st' G') : W p l e R s m args below meth c H locs cells slots Q (F0 m pc ls (st.map (mvv xa xe))) := by
  obtain ⟨⟨hx, hb, hr, hlk, hml, hown, hts, hin⟩, hK, hE, hA, hR, hxe⟩ := id hC
  obtain ⟨hd, rfl, hq⟩ := ckd (fun _ => rfl) ho
  rw [dq_imul] at h
  obtain ⟨⟨y, r1⟩, h1, h⟩ := Option.bind_eq_some_iff.mp h
  obtain ⟨⟨x, r⟩, h2, h⟩ := Option.bind_eq_some_iff.mp h
  obtain ⟨rfl, rfl, rfl, rfl⟩ := go_eq h
  obtain rfl := pI_eq h1
  obtain rfl := pI_eq h2
  exact lv_imul (x := x) (y := y) (rest := r.map (mvv xa xe)) hx hb hd (kk.pure hW hL)
theorem s_iand (hC : Cx p R s m args meth c D cA xe A SL sx dep k) (hW : Wd D cA xe A s xa G H locs) (hL : lR xa xe ls (mMax k) L) (ho : chkE k (pc, (.iand, nx, aux), j) = true) (h : dstep SL sx dep k pc (.iand, nx, aux) L st G = some (.inl (pc', L', st', G'))) (hg : cells + (G'.length - G.length) ≤ R.cells ∧ slots + (szG G' - szG G) ≤ R.slots) (kk : KK p l e R s m args below meth c Q D cA xe A k xa G cells slots pc' L' st' G') : W p l e R s m args below meth c H locs cells slots Q (F0 m pc ls (st.map (mvv xa xe))) := by
  obtain ⟨⟨hx, hb, hr, hlk, hml, hown, hts, hin⟩, hK, hE, hA, hR, hxe⟩ := id hC
  obtain ⟨hd, rfl, hq⟩ := ckd (fun _ => rfl) ho
  rw [dq_iand] at h
  obtain ⟨⟨y, r1⟩, h1, h⟩ := Option.bind_eq_some_iff.mp h
  obtain ⟨⟨x, r⟩, h2, h⟩ := Option.bind_eq_some_iff.mp h
  obtain ⟨rfl, rfl, rfl, rfl⟩ := go_eq h
  obtain rfl := pI_eq h1
  obtain rfl := pI_eq h2
  exact lv_iand (x := x) (y := y) (rest := r.map (mvv xa xe)) hx hb hd (kk.pure hW hL)
theorem s_ior (hC : Cx p R s m args meth c D cA xe A SL sx dep k) (hW : Wd D cA xe A s xa G H locs) (hL : lR xa xe ls (mMax k) L) (ho : chkE k (pc, (.ior, nx, aux), j) = true) (h : dstep SL sx dep k pc (.ior, nx, aux) L st G = some (.inl (pc', L', st', G'))) (hg : cells + (G'.length - G.length) ≤ R.cells ∧ slots + (szG G' - szG G) ≤ R.slots) (kk : KK p l e R s m args below meth c Q D cA xe A k xa G cells slots pc' L' st' G') : W p l e R s m args below meth c H locs cells slots Q (F0 m pc ls (st.map (mvv xa xe))) := by
  obtain ⟨⟨hx, hb, hr, hlk, hml, hown, hts, hin⟩, hK, hE, hA, hR, hxe⟩ := id hC
  obtain ⟨hd, rfl, hq⟩ := ckd (fun _ => rfl) ho
  rw [dq_ior] at h
  obtain ⟨⟨y, r1⟩, h1, h⟩ := Option.bind_eq_some_iff.mp h
  obtain ⟨⟨x, r⟩, h2, h⟩ := Option.bind_eq_some_iff.mp h
  obtain ⟨rfl, rfl, rfl, rfl⟩ := go_eq h
  obtain rfl := pI_eq h1
  obtain rfl := pI_eq h2
  exact lv_ior (x := x) (y := y) (rest := r.map (mvv xa xe)) hx hb hd (kk.pure hW hL)
theorem s_ixor (hC : Cx p R s m args meth c D cA xe A SL sx dep k) (hW : Wd D cA xe A s xa G H locs) (hL : lR xa xe ls (mMax k) L) (ho : chkE k (pc, (.ixor, nx, aux), j) = true) (h : dstep SL sx dep k pc (.ixor, nx, aux) L st G = some (.inl (pc', L', st', G'))) (hg : cells + (G'.length - G.length) ≤ R.cells ∧ slots + (szG G' - szG G) ≤ R.slots) (kk : KK p l e R s m args below meth c Q D cA xe A k xa G cells slots pc' L' st' G') : W p l e R s m args below meth c H locs cells slots Q (F0 m pc ls (st.map (mvv xa xe))) := by
  obtain ⟨⟨hx, hb, hr, hlk, hml, hown, hts, hin⟩, hK, hE, hA, hR, hxe⟩ := id hC
  obtain ⟨hd, rfl, hq⟩ := ckd (fun _ => rfl) ho
  rw [dq_ixor] at h
  obtain ⟨⟨y, r1⟩, h1, h⟩ := Option.bind_eq_some_iff.mp h
  obtain ⟨⟨x, r⟩, h2, h⟩ := Option.bind_eq_some_iff.mp h
  obtain ⟨rfl, rfl, rfl, rfl⟩ := go_eq h
  obtain rfl := pI_eq h1
  obtain rfl := pI_eq h2
  exact lv_ixor (x := x) (y := y) (rest := r.map (mvv xa xe)) hx hb hd (kk.pure hW hL)
theorem s_ishl (hC : Cx p R s m args meth c D cA xe A SL sx dep k) (hW : Wd D cA xe A s xa G H locs) (hL : lR xa xe ls (mMax k) L) (ho : chkE k (pc, (.ishl, nx, aux), j) = true) (h : dstep SL sx dep k pc (.ishl, nx, aux) L st G = some (.inl (pc', L', st', G'))) (hg : cells + (G'.length - G.length) ≤ R.cells ∧ slots + (szG G' - szG G) ≤ R.slots) (kk : KK p l e R s m args below meth c Q D cA xe A k xa G cells slots pc' L' st' G') : W p l e R s m args below meth c H locs cells slots Q (F0 m pc ls (st.map (mvv xa xe))) := by
  obtain ⟨⟨hx, hb, hr, hlk, hml, hown, hts, hin⟩, hK, hE, hA, hR, hxe⟩ := id hC
  obtain ⟨hd, rfl, hq⟩ := ckd (fun _ => rfl) ho
  rw [dq_ishl] at h
  obtain ⟨⟨y, r1⟩, h1, h⟩ := Option.bind_eq_some_iff.mp h
  obtain ⟨⟨x, r⟩, h2, h⟩ := Option.bind_eq_some_iff.mp h
  obtain ⟨rfl, rfl, rfl, rfl⟩ := go_eq h
  obtain rfl := pI_eq h1
  obtain rfl := pI_eq h2
  exact lv_ishl (x := x) (y := y) (rest := r.map (mvv xa xe)) hx hb hd (kk.pure hW hL)
theorem s_ishr (hC : Cx p R s m args meth c D cA xe A SL sx dep k) (hW : Wd D cA xe A s xa G H locs) (hL : lR xa xe ls (mMax k) L) (ho : chkE k (pc, (.ishr, nx, aux), j) = true) (h : dstep SL sx dep k pc (.ishr, nx, aux) L st G = some (.inl (pc', L', st', G'))) (hg : cells + (G'.length - G.length) ≤ R.cells ∧ slots + (szG G' - szG G) ≤ R.slots) (kk : KK p l e R s m args below meth c Q D cA xe A k xa G cells slots pc' L' st' G') : W p l e R s m args below meth c H locs cells slots Q (F0 m pc ls (st.map (mvv xa xe))) := by
  obtain ⟨⟨hx, hb, hr, hlk, hml, hown, hts, hin⟩, hK, hE, hA, hR, hxe⟩ := id hC
  obtain ⟨hd, rfl, hq⟩ := ckd (fun _ => rfl) ho
  rw [dq_ishr] at h
  obtain ⟨⟨y, r1⟩, h1, h⟩ := Option.bind_eq_some_iff.mp h
  obtain ⟨⟨x, r⟩, h2, h⟩ := Option.bind_eq_some_iff.mp h
  obtain ⟨rfl, rfl, rfl, rfl⟩ := go_eq h
  obtain rfl := pI_eq h1
  obtain rfl := pI_eq h2
  exact lv_ishr (x := x) (y := y) (rest := r.map (mvv xa xe)) hx hb hd (kk.pure hW hL)
theorem s_iushr (hC : Cx p R s m args meth c D cA xe A SL sx dep k) (hW : Wd D cA xe A s xa G H locs) (hL : lR xa xe ls (mMax k) L) (ho : chkE k (pc, (.iushr, nx, aux), j) = true) (h : dstep SL sx dep k pc (.iushr, nx, aux) L st G = some (.inl (pc', L', st', G'))) (hg : cells + (G'.length - G.length) ≤ R.cells ∧ slots + (szG G' - szG G) ≤ R.slots) (kk : KK p l e R s m args below meth c Q D cA xe A k xa G cells slots pc' L' st' G') : W p l e R s m args below meth c H locs cells slots Q (F0 m pc ls (st.map (mvv xa xe))) := by
  obtain ⟨⟨hx, hb, hr, hlk, hml, hown, hts, hin⟩, hK, hE, hA, hR, hxe⟩ := id hC
  obtain ⟨hd, rfl, hq⟩ := ckd (fun _ => rfl) ho
  rw [dq_iushr] at h
  obtain ⟨⟨y, r1⟩, h1, h⟩ := Option.bind_eq_some_iff.mp h
  obtain ⟨⟨x, r⟩, h2, h⟩ := Option.bind_eq_some_iff.mp h
  obtain ⟨rfl, rfl, rfl, rfl⟩ := go_eq h
  obtain rfl := pI_eq h1
  obtain rfl := pI_eq h2
  exact lv_iushr (x := x) (y := y) (rest := r.map (mvv xa xe)) hx hb hd rfl (kk.pure hW hL)
theorem s_idiv (hC : Cx p R s m args meth c D cA xe A SL sx dep k) (hW : Wd D cA xe A s xa G H locs) (hL : lR xa xe ls (mMax k) L) (ho : chkE k (pc, (.idiv, nx, aux), j) = true) (h : dstep SL sx dep k pc (.idiv, nx, aux) L st G = some (.inl (pc', L', st', G'))) (hg : cells + (G'.length - G.length) ≤ R.cells ∧ slots + (szG G' - szG G) ≤ R.slots) (kk : KK p l e R s m args below meth c Q D cA xe A k xa G cells slots pc' L' st' G') : W p l e R s m args below meth c H locs cells slots Q (F0 m pc ls (st.map (mvv xa xe))) := by
  obtain ⟨⟨hx, hb, hr, hlk, hml, hown, hts, hin⟩, hK, hE, hA, hR, hxe⟩ := id hC
  obtain ⟨hd, rfl, hq⟩ := ckd (fun _ => rfl) ho
  rw [dq_idiv] at h
  obtain ⟨⟨y, r1⟩, h1, h⟩ := Option.bind_eq_some_iff.mp h
  obtain ⟨⟨x, r⟩, h2, h⟩ := Option.bind_eq_some_iff.mp h
  obtain ⟨hb1, h⟩ := gc1_eq h
  obtain ⟨rfl, rfl, rfl, rfl⟩ := go_eq h
  obtain rfl := pI_eq h1
  obtain rfl := pI_eq h2
  exact lv_idiv (x := x) (y := y) (rest := r.map (mvv xa xe)) hx hb hd (of_decide_eq_true hb1) (kk.pure hW hL)
theorem s_irem (hC : Cx p R s m args meth c D cA xe A SL sx dep k) (hW : Wd D cA xe A s xa G H locs) (hL : lR xa xe ls (mMax k) L) (ho : chkE k (pc, (.irem, nx, aux), j) = true) (h : dstep SL sx dep k pc (.irem, nx, aux) L st G = some (.inl (pc', L', st', G'))) (hg : cells + (G'.length - G.length) ≤ R.cells ∧ slots + (szG G' - szG G) ≤ R.slots) (kk : KK p l e R s m args below meth c Q D cA xe A k xa G cells slots pc' L' st' G') : W p l e R s m args below meth c H locs cells slots Q (F0 m pc ls (st.map (mvv xa xe))) := by
  obtain ⟨⟨hx, hb, hr, hlk, hml, hown, hts, hin⟩, hK, hE, hA, hR, hxe⟩ := id hC
  obtain ⟨hd, rfl, hq⟩ := ckd (fun _ => rfl) ho
  rw [dq_irem] at h
  obtain ⟨⟨y, r1⟩, h1, h⟩ := Option.bind_eq_some_iff.mp h
  obtain ⟨⟨x, r⟩, h2, h⟩ := Option.bind_eq_some_iff.mp h
  obtain ⟨hb1, h⟩ := gc1_eq h
  obtain ⟨rfl, rfl, rfl, rfl⟩ := go_eq h
  obtain rfl := pI_eq h1
  obtain rfl := pI_eq h2
  exact lv_irem (x := x) (y := y) (rest := r.map (mvv xa xe)) hx hb hd (of_decide_eq_true hb1) (kk.pure hW hL)
theorem s_ldiv (hC : Cx p R s m args meth c D cA xe A SL sx dep k) (hW : Wd D cA xe A s xa G H locs) (hL : lR xa xe ls (mMax k) L) (ho : chkE k (pc, (.ldiv, nx, aux), j) = true) (h : dstep SL sx dep k pc (.ldiv, nx, aux) L st G = some (.inl (pc', L', st', G'))) (hg : cells + (G'.length - G.length) ≤ R.cells ∧ slots + (szG G' - szG G) ≤ R.slots) (kk : KK p l e R s m args below meth c Q D cA xe A k xa G cells slots pc' L' st' G') : W p l e R s m args below meth c H locs cells slots Q (F0 m pc ls (st.map (mvv xa xe))) := by
  obtain ⟨⟨hx, hb, hr, hlk, hml, hown, hts, hin⟩, hK, hE, hA, hR, hxe⟩ := id hC
  obtain ⟨hd, rfl, hq⟩ := ckd (fun _ => rfl) ho
  rw [dq_ldiv] at h
  obtain ⟨⟨y, r1⟩, h1, h⟩ := Option.bind_eq_some_iff.mp h
  obtain ⟨⟨x, r⟩, h2, h⟩ := Option.bind_eq_some_iff.mp h
  obtain ⟨hb1, h⟩ := gc1_eq h
  obtain ⟨rfl, rfl, rfl, rfl⟩ := go_eq h
  obtain rfl := pJ_eq h1
  obtain rfl := pJ_eq h2
  exact lv_ldiv (x := x) (y := y) (rest := r.map (mvv xa xe)) hx hb hd (of_decide_eq_true hb1) (kk.pure hW hL)
theorem s_lrem (hC : Cx p R s m args meth c D cA xe A SL sx dep k) (hW : Wd D cA xe A s xa G H locs) (hL : lR xa xe ls (mMax k) L) (ho : chkE k (pc, (.lrem, nx, aux), j) = true) (h : dstep SL sx dep k pc (.lrem, nx, aux) L st G = some (.inl (pc', L', st', G'))) (hg : cells + (G'.length - G.length) ≤ R.cells ∧ slots + (szG G' - szG G) ≤ R.slots) (kk : KK p l e R s m args below meth c Q D cA xe A k xa G cells slots pc' L' st' G') : W p l e R s m args below meth c H locs cells slots Q (F0 m pc ls (st.map (mvv xa xe))) := by
  obtain ⟨⟨hx, hb, hr, hlk, hml, hown, hts, hin⟩, hK, hE, hA, hR, hxe⟩ := id hC
  obtain ⟨hd, rfl, hq⟩ := ckd (fun _ => rfl) ho
  rw [dq_lrem] at h
  obtain ⟨⟨y, r1⟩, h1, h⟩ := Option.bind_eq_some_iff.mp h
  obtain ⟨⟨x, r⟩, h2, h⟩ := Option.bind_eq_some_iff.mp h
  obtain ⟨hb1, h⟩ := gc1_eq h
  obtain ⟨rfl, rfl, rfl, rfl⟩ := go_eq h
  obtain rfl := pJ_eq h1
  obtain rfl := pJ_eq h2
  exact lv_lrem (x := x) (y := y) (rest := r.map (mvv xa xe)) hx hb hd (of_decide_eq_true hb1) (kk.pure hW hL)
theorem s_ladd (hC : Cx p R s m args meth c D cA xe A SL sx dep k) (hW : Wd D cA xe A s xa G H locs) (hL : lR xa xe ls (mMax k) L) (ho : chkE k (pc, (.ladd, nx, aux), j) = true) (h : dstep SL sx dep k pc (.ladd, nx, aux) L st G = some (.inl (pc', L', st', G'))) (hg : cells + (G'.length - G.length) ≤ R.cells ∧ slots + (szG G' - szG G) ≤ R.slots) (kk : KK p l e R s m args below meth c Q D cA xe A k xa G cells slots pc' L' st' G') : W p l e R s m args below meth c H locs cells slots Q (F0 m pc ls (st.map (mvv xa xe))) := by
  obtain ⟨⟨hx, hb, hr, hlk, hml, hown, hts, hin⟩, hK, hE, hA, hR, hxe⟩ := id hC
  obtain ⟨hd, rfl, hq⟩ := ckd (fun _ => rfl) ho
  rw [dq_ladd] at h
  obtain ⟨⟨y, r1⟩, h1, h⟩ := Option.bind_eq_some_iff.mp h
  obtain ⟨⟨x, r⟩, h2, h⟩ := Option.bind_eq_some_iff.mp h
  obtain ⟨rfl, rfl, rfl, rfl⟩ := go_eq h
  obtain rfl := pJ_eq h1
  obtain rfl := pJ_eq h2
  exact lv_ladd (x := x) (y := y) (rest := r.map (mvv xa xe)) hx hb hd (kk.pure hW hL)
theorem s_lsub (hC : Cx p R s m args meth c D cA xe A SL sx dep k) (hW : Wd D cA xe A s xa G H locs) (hL : lR xa xe ls (mMax k) L) (ho : chkE k (pc, (.lsub, nx, aux), j) = true) (h : dstep SL sx dep k pc (.lsub, nx, aux) L st G = some (.inl (pc', L', st', G'))) (hg : cells + (G'.length - G.length) ≤ R.cells ∧ slots + (szG G' - szG G) ≤ R.slots) (kk : KK p l e R s m args below meth c Q D cA xe A k xa G cells slots pc' L' st' G') : W p l e R s m args below meth c H locs cells slots Q (F0 m pc ls (st.map (mvv xa xe))) := by
  obtain ⟨⟨hx, hb, hr, hlk, hml, hown, hts, hin⟩, hK, hE, hA, hR, hxe⟩ := id hC
  obtain ⟨hd, rfl, hq⟩ := ckd (fun _ => rfl) ho
  rw [dq_lsub] at h
  obtain ⟨⟨y, r1⟩, h1, h⟩ := Option.bind_eq_some_iff.mp h
  obtain ⟨⟨x, r⟩, h2, h⟩ := Option.bind_eq_some_iff.mp h
  obtain ⟨rfl, rfl, rfl, rfl⟩ := go_eq h
  obtain rfl := pJ_eq h1
  obtain rfl := pJ_eq h2
  exact lv_lsub (x := x) (y := y) (rest := r.map (mvv xa xe)) hx hb hd (kk.pure hW hL)
theorem s_lmul (hC : Cx p R s m args meth c D cA xe A SL sx dep k) (hW : Wd D cA xe A s xa G H locs) (hL : lR xa xe ls (mMax k) L) (ho : chkE k (pc, (.lmul, nx, aux), j) = true) (h : dstep SL sx dep k pc (.lmul, nx, aux) L st G = some (.inl (pc', L', st', G'))) (hg : cells + (G'.length - G.length) ≤ R.cells ∧ slots + (szG G' - szG G) ≤ R.slots) (kk : KK p l e R s m args below meth c Q D cA xe A k xa G cells slots pc' L' st' G') : W p l e R s m args below meth c H locs cells slots Q (F0 m pc ls (st.map (mvv xa xe))) := by
  obtain ⟨⟨hx, hb, hr, hlk, hml, hown, hts, hin⟩, hK, hE, hA, hR, hxe⟩ := id hC
  obtain ⟨hd, rfl, hq⟩ := ckd (fun _ => rfl) ho
  rw [dq_lmul] at h
  obtain ⟨⟨y, r1⟩, h1, h⟩ := Option.bind_eq_some_iff.mp h
  obtain ⟨⟨x, r⟩, h2, h⟩ := Option.bind_eq_some_iff.mp h
  obtain ⟨rfl, rfl, rfl, rfl⟩ := go_eq h
  obtain rfl := pJ_eq h1
  obtain rfl := pJ_eq h2
  exact lv_lmul (x := x) (y := y) (rest := r.map (mvv xa xe)) hx hb hd (kk.pure hW hL)
theorem s_lcmp (hC : Cx p R s m args meth c D cA xe A SL sx dep k) (hW : Wd D cA xe A s xa G H locs) (hL : lR xa xe ls (mMax k) L) (ho : chkE k (pc, (.lcmp, nx, aux), j) = true) (h : dstep SL sx dep k pc (.lcmp, nx, aux) L st G = some (.inl (pc', L', st', G'))) (hg : cells + (G'.length - G.length) ≤ R.cells ∧ slots + (szG G' - szG G) ≤ R.slots) (kk : KK p l e R s m args below meth c Q D cA xe A k xa G cells slots pc' L' st' G') : W p l e R s m args below meth c H locs cells slots Q (F0 m pc ls (st.map (mvv xa xe))) := by
  obtain ⟨⟨hx, hb, hr, hlk, hml, hown, hts, hin⟩, hK, hE, hA, hR, hxe⟩ := id hC
  obtain ⟨hd, rfl, hq⟩ := ckd (fun _ => rfl) ho
  rw [dq_lcmp] at h
  obtain ⟨⟨y, r1⟩, h1, h⟩ := Option.bind_eq_some_iff.mp h
  obtain ⟨⟨x, r⟩, h2, h⟩ := Option.bind_eq_some_iff.mp h
  obtain ⟨rfl, rfl, rfl, rfl⟩ := go_eq h
  obtain rfl := pJ_eq h1
  obtain rfl := pJ_eq h2
  exact W.lcmp (x := x) (y := y) (rest := r.map (mvv xa xe)) hx hb hd (kk.pure hW hL)
theorem s_ineg (hC : Cx p R s m args meth c D cA xe A SL sx dep k) (hW : Wd D cA xe A s xa G H locs) (hL : lR xa xe ls (mMax k) L) (ho : chkE k (pc, (.ineg, nx, aux), j) = true) (h : dstep SL sx dep k pc (.ineg, nx, aux) L st G = some (.inl (pc', L', st', G'))) (hg : cells + (G'.length - G.length) ≤ R.cells ∧ slots + (szG G' - szG G) ≤ R.slots) (kk : KK p l e R s m args below meth c Q D cA xe A k xa G cells slots pc' L' st' G') : W p l e R s m args below meth c H locs cells slots Q (F0 m pc ls (st.map (mvv xa xe))) := by
  obtain ⟨⟨hx, hb, hr, hlk, hml, hown, hts, hin⟩, hK, hE, hA, hR, hxe⟩ := id hC
  obtain ⟨hd, rfl, hq⟩ := ckd (fun _ => rfl) ho
  rw [dq_ineg] at h
  obtain ⟨⟨x, r⟩, h1, h⟩ := Option.bind_eq_some_iff.mp h
  obtain ⟨rfl, rfl, rfl, rfl⟩ := go_eq h
  obtain rfl := pI_eq h1
  exact lv_ineg (x := x) (rest := r.map (mvv xa xe)) hx hb hd (kk.pure hW hL)
theorem s_lneg (hC : Cx p R s m args meth c D cA xe A SL sx dep k) (hW : Wd D cA xe A s xa G H locs) (hL : lR xa xe ls (mMax k) L) (ho : chkE k (pc, (.lneg, nx, aux), j) = true) (h : dstep SL sx dep k pc (.lneg, nx, aux) L st G = some (.inl (pc', L', st', G'))) (hg : cells + (G'.length - G.length) ≤ R.cells ∧ slots + (szG G' - szG G) ≤ R.slots) (kk : KK p l e R s m args below meth c Q D cA xe A k xa G cells slots pc' L' st' G') : W p l e R s m args below meth c H locs cells slots Q (F0 m pc ls (st.map (mvv xa xe))) := by
  obtain ⟨⟨hx, hb, hr, hlk, hml, hown, hts, hin⟩, hK, hE, hA, hR, hxe⟩ := id hC
  obtain ⟨hd, rfl, hq⟩ := ckd (fun _ => rfl) ho
  rw [dq_lneg] at h
  obtain ⟨⟨x, r⟩, h1, h⟩ := Option.bind_eq_some_iff.mp h
  obtain ⟨rfl, rfl, rfl, rfl⟩ := go_eq h
  obtain rfl := pJ_eq h1
  exact lv_lneg (x := x) (rest := r.map (mvv xa xe)) hx hb hd (kk.pure hW hL)
theorem s_i2l (hC : Cx p R s m args meth c D cA xe A SL sx dep k) (hW : Wd D cA xe A s xa G H locs) (hL : lR xa xe ls (mMax k) L) (ho : chkE k (pc, (.i2l, nx, aux), j) = true) (h : dstep SL sx dep k pc (.i2l, nx, aux) L st G = some (.inl (pc', L', st', G'))) (hg : cells + (G'.length - G.length) ≤ R.cells ∧ slots + (szG G' - szG G) ≤ R.slots) (kk : KK p l e R s m args below meth c Q D cA xe A k xa G cells slots pc' L' st' G') : W p l e R s m args below meth c H locs cells slots Q (F0 m pc ls (st.map (mvv xa xe))) := by
  obtain ⟨⟨hx, hb, hr, hlk, hml, hown, hts, hin⟩, hK, hE, hA, hR, hxe⟩ := id hC
  obtain ⟨hd, rfl, hq⟩ := ckd (fun _ => rfl) ho
  rw [dq_i2l] at h
  obtain ⟨⟨x, r⟩, h1, h⟩ := Option.bind_eq_some_iff.mp h
  obtain ⟨rfl, rfl, rfl, rfl⟩ := go_eq h
  obtain rfl := pI_eq h1
  exact lv_i2l (x := x) (rest := r.map (mvv xa xe)) hx hb hd rfl (kk.pure hW hL)
theorem s_l2i (hC : Cx p R s m args meth c D cA xe A SL sx dep k) (hW : Wd D cA xe A s xa G H locs) (hL : lR xa xe ls (mMax k) L) (ho : chkE k (pc, (.l2i, nx, aux), j) = true) (h : dstep SL sx dep k pc (.l2i, nx, aux) L st G = some (.inl (pc', L', st', G'))) (hg : cells + (G'.length - G.length) ≤ R.cells ∧ slots + (szG G' - szG G) ≤ R.slots) (kk : KK p l e R s m args below meth c Q D cA xe A k xa G cells slots pc' L' st' G') : W p l e R s m args below meth c H locs cells slots Q (F0 m pc ls (st.map (mvv xa xe))) := by
  obtain ⟨⟨hx, hb, hr, hlk, hml, hown, hts, hin⟩, hK, hE, hA, hR, hxe⟩ := id hC
  obtain ⟨hd, rfl, hq⟩ := ckd (fun _ => rfl) ho
  rw [dq_l2i] at h
  obtain ⟨⟨x, r⟩, h1, h⟩ := Option.bind_eq_some_iff.mp h
  obtain ⟨rfl, rfl, rfl, rfl⟩ := go_eq h
  obtain rfl := pJ_eq h1
  exact lv_l2i (x := x) (rest := r.map (mvv xa xe)) hx hb hd rfl (kk.pure hW hL)
theorem s_i2b (hC : Cx p R s m args meth c D cA xe A SL sx dep k) (hW : Wd D cA xe A s xa G H locs) (hL : lR xa xe ls (mMax k) L) (ho : chkE k (pc, (.i2b, nx, aux), j) = true) (h : dstep SL sx dep k pc (.i2b, nx, aux) L st G = some (.inl (pc', L', st', G'))) (hg : cells + (G'.length - G.length) ≤ R.cells ∧ slots + (szG G' - szG G) ≤ R.slots) (kk : KK p l e R s m args below meth c Q D cA xe A k xa G cells slots pc' L' st' G') : W p l e R s m args below meth c H locs cells slots Q (F0 m pc ls (st.map (mvv xa xe))) := by
  obtain ⟨⟨hx, hb, hr, hlk, hml, hown, hts, hin⟩, hK, hE, hA, hR, hxe⟩ := id hC
  obtain ⟨hd, rfl, hq⟩ := ckd (fun _ => rfl) ho
  rw [dq_i2b] at h
  obtain ⟨⟨x, r⟩, h1, h⟩ := Option.bind_eq_some_iff.mp h
  obtain ⟨rfl, rfl, rfl, rfl⟩ := go_eq h
  obtain rfl := pI_eq h1
  exact lv_i2b (x := x) (rest := r.map (mvv xa xe)) hx hb hd rfl (kk.pure hW hL)
theorem s_i2c (hC : Cx p R s m args meth c D cA xe A SL sx dep k) (hW : Wd D cA xe A s xa G H locs) (hL : lR xa xe ls (mMax k) L) (ho : chkE k (pc, (.i2c, nx, aux), j) = true) (h : dstep SL sx dep k pc (.i2c, nx, aux) L st G = some (.inl (pc', L', st', G'))) (hg : cells + (G'.length - G.length) ≤ R.cells ∧ slots + (szG G' - szG G) ≤ R.slots) (kk : KK p l e R s m args below meth c Q D cA xe A k xa G cells slots pc' L' st' G') : W p l e R s m args below meth c H locs cells slots Q (F0 m pc ls (st.map (mvv xa xe))) := by
  obtain ⟨⟨hx, hb, hr, hlk, hml, hown, hts, hin⟩, hK, hE, hA, hR, hxe⟩ := id hC
  obtain ⟨hd, rfl, hq⟩ := ckd (fun _ => rfl) ho
  rw [dq_i2c] at h
  obtain ⟨⟨x, r⟩, h1, h⟩ := Option.bind_eq_some_iff.mp h
  obtain ⟨rfl, rfl, rfl, rfl⟩ := go_eq h
  obtain rfl := pI_eq h1
  exact lv_i2c (x := x) (rest := r.map (mvv xa xe)) hx hb hd rfl (kk.pure hW hL)
theorem s_dup (hC : Cx p R s m args meth c D cA xe A SL sx dep k) (hW : Wd D cA xe A s xa G H locs) (hL : lR xa xe ls (mMax k) L) (ho : chkE k (pc, (.dup, nx, aux), j) = true) (h : dstep SL sx dep k pc (.dup, nx, aux) L st G = some (.inl (pc', L', st', G'))) (hg : cells + (G'.length - G.length) ≤ R.cells ∧ slots + (szG G' - szG G) ≤ R.slots) (kk : KK p l e R s m args below meth c Q D cA xe A k xa G cells slots pc' L' st' G') : W p l e R s m args below meth c H locs cells slots Q (F0 m pc ls (st.map (mvv xa xe))) := by
  obtain ⟨⟨hx, hb, hr, hlk, hml, hown, hts, hin⟩, hK, hE, hA, hR, hxe⟩ := id hC
  obtain ⟨hd, rfl, hq⟩ := ckd (fun _ => rfl) ho
  rw [dq_dup] at h
  rcases st with _ | ⟨v, r⟩
  · cases h
  obtain ⟨hb1, h⟩ := gc1_eq h
  obtain ⟨rfl, rfl, rfl, rfl⟩ := go_eq h
  exact lv_dup (va := mvv xa xe v) (rest := r.map (mvv xa xe)) hx hb hd (by rw [mvv_cat hxe]; exact Nat.eq_of_beq_eq_true hb1) (kk.pure hW hL)
theorem s_pop (hC : Cx p R s m args meth c D cA xe A SL sx dep k) (hW : Wd D cA xe A s xa G H locs) (hL : lR xa xe ls (mMax k) L) (ho : chkE k (pc, (.pop, nx, aux), j) = true) (h : dstep SL sx dep k pc (.pop, nx, aux) L st G = some (.inl (pc', L', st', G'))) (hg : cells + (G'.length - G.length) ≤ R.cells ∧ slots + (szG G' - szG G) ≤ R.slots) (kk : KK p l e R s m args below meth c Q D cA xe A k xa G cells slots pc' L' st' G') : W p l e R s m args below meth c H locs cells slots Q (F0 m pc ls (st.map (mvv xa xe))) := by
  obtain ⟨⟨hx, hb, hr, hlk, hml, hown, hts, hin⟩, hK, hE, hA, hR, hxe⟩ := id hC
  obtain ⟨hd, rfl, hq⟩ := ckd (fun _ => rfl) ho
  rw [dq_pop] at h
  rcases st with _ | ⟨v, r⟩
  · cases h
  obtain ⟨hb1, h⟩ := gc1_eq h
  obtain ⟨rfl, rfl, rfl, rfl⟩ := go_eq h
  exact lv_pop (va := mvv xa xe v) (rest := r.map (mvv xa xe)) hx hb hd (by rw [mvv_cat hxe]; exact Nat.eq_of_beq_eq_true hb1) (kk.pure hW hL)
theorem s_dup2 (hC : Cx p R s m args meth c D cA xe A SL sx dep k) (hW : Wd D cA xe A s xa G H locs) (hL : lR xa xe ls (mMax k) L) (ho : chkE k (pc, (.dup2, nx, aux), j) = true) (h : dstep SL sx dep k pc (.dup2, nx, aux) L st G = some (.inl (pc', L', st', G'))) (hg : cells + (G'.length - G.length) ≤ R.cells ∧ slots + (szG G' - szG G) ≤ R.slots) (kk : KK p l e R s m args below meth c Q D cA xe A k xa G cells slots pc' L' st' G') : W p l e R s m args below meth c H locs cells slots Q (F0 m pc ls (st.map (mvv xa xe))) := by
  obtain ⟨⟨hx, hb, hr, hlk, hml, hown, hts, hin⟩, hK, hE, hA, hR, hxe⟩ := id hC
  obtain ⟨hd, rfl, hq⟩ := ckd (fun _ => rfl) ho
  rw [dq_dup2] at h
  rcases st with _ | ⟨v, _ | ⟨w, r⟩⟩
  · cases h
  · cases h
  obtain ⟨hb1, h⟩ := gc1_eq h
  obtain ⟨rfl, rfl, rfl, rfl⟩ := go_eq h
  rw [Bool.and_eq_true] at hb1
  exact lv_dup2_11 (va := mvv xa xe v) (vb := mvv xa xe w) (rest := r.map (mvv xa xe)) hx hb hd (by rw [mvv_cat hxe]; exact Nat.eq_of_beq_eq_true hb1.1) (by rw [mvv_cat hxe]; exact Nat.eq_of_beq_eq_true hb1.2) (kk.pure hW hL)
theorem s_if_eq {o : Int} (hC : Cx p R s m args meth c D cA xe A SL sx dep k) (hW : Wd D cA xe A s xa G H locs) (hL : lR xa xe ls (mMax k) L) (ho : chkE k (pc, (.ifCond .eq o, nx, aux), j) = true) (h : dstep SL sx dep k pc (.ifCond .eq o, nx, aux) L st G = some (.inl (pc', L', st', G'))) (hg : cells + (G'.length - G.length) ≤ R.cells ∧ slots + (szG G' - szG G) ≤ R.slots) (kk : KK p l e R s m args below meth c Q D cA xe A k xa G cells slots pc' L' st' G') : W p l e R s m args below meth c H locs cells slots Q (F0 m pc ls (st.map (mvv xa xe))) := by
  obtain ⟨⟨hx, hb, hr, hlk, hml, hown, hts, hin⟩, hK, hE, hA, hR, hxe⟩ := id hC
  obtain ⟨hd, rfl, hq⟩ := ckd (fun _ => rfl) ho
  rw [dq_ifCond] at h
  obtain ⟨⟨x, r⟩, h1, h⟩ := Option.bind_eq_some_iff.mp h
  simp only [Option.some.injEq, Sum.inl.injEq, Prod.mk.injEq] at h
  obtain ⟨rfl, rfl, rfl, rfl⟩ := h
  obtain rfl := pI_eq h1
  refine lv_if_eq (x := x) (rest := r.map (mvv xa xe)) (tgt := aux) hx hb hd (of_decide_eq_true hq) (fun hc => ?_) (fun hc => ?_)
  · rw [show cnd .eq x 0 = true from decide_eq_true hc, bte] at kk
    exact kk.pure hW hL
  · rw [show cnd .eq x 0 = false from by simp only [cnd, decide_eq_false_iff_not]; first | exact hc | exact fun q => q hc, bfe] at kk
    exact kk.pure hW hL
theorem s_icmp_eq {o : Int} (hC : Cx p R s m args meth c D cA xe A SL sx dep k) (hW : Wd D cA xe A s xa G H locs) (hL : lR xa xe ls (mMax k) L) (ho : chkE k (pc, (.if_icmp .eq o, nx, aux), j) = true) (h : dstep SL sx dep k pc (.if_icmp .eq o, nx, aux) L st G = some (.inl (pc', L', st', G'))) (hg : cells + (G'.length - G.length) ≤ R.cells ∧ slots + (szG G' - szG G) ≤ R.slots) (kk : KK p l e R s m args below meth c Q D cA xe A k xa G cells slots pc' L' st' G') : W p l e R s m args below meth c H locs cells slots Q (F0 m pc ls (st.map (mvv xa xe))) := by
  obtain ⟨⟨hx, hb, hr, hlk, hml, hown, hts, hin⟩, hK, hE, hA, hR, hxe⟩ := id hC
  obtain ⟨hd, rfl, hq⟩ := ckd (fun _ => rfl) ho
  rw [dq_if_icmp] at h
  obtain ⟨⟨y, r1⟩, h1, h⟩ := Option.bind_eq_some_iff.mp h
  obtain ⟨⟨x, r⟩, h2, h⟩ := Option.bind_eq_some_iff.mp h
  simp only [Option.some.injEq, Sum.inl.injEq, Prod.mk.injEq] at h
  obtain ⟨rfl, rfl, rfl, rfl⟩ := h
  obtain rfl := pI_eq h1
  obtain rfl := pI_eq h2
  refine lv_icmp_eq (x := x) (y := y) (rest := r.map (mvv xa xe)) (tgt := aux) hx hb hd (of_decide_eq_true hq) (fun hc => ?_) (fun hc => ?_)
  · rw [show cnd .eq x y = true from decide_eq_true hc, bte] at kk
    exact kk.pure hW hL
  · rw [show cnd .eq x y = false from by simp only [cnd, decide_eq_false_iff_not]; first | exact hc | exact fun q => q hc, bfe] at kk
    exact kk.pure hW hL
theorem s_if_ne {o : Int} (hC : Cx p R s m args meth c D cA xe A SL sx dep k) (hW : Wd D cA xe A s xa G H locs) (hL : lR xa xe ls (mMax k) L) (ho : chkE k (pc, (.ifCond .ne o, nx, aux), j) = true) (h : dstep SL sx dep k pc (.ifCond .ne o, nx, aux) L st G = some (.inl (pc', L', st', G'))) (hg : cells + (G'.length - G.length) ≤ R.cells ∧ slots + (szG G' - szG G) ≤ R.slots) (kk : KK p l e R s m args below meth c Q D cA xe A k xa G cells slots pc' L' st' G') : W p l e R s m args below meth c H locs cells slots Q (F0 m pc ls (st.map (mvv xa xe))) := by
  obtain ⟨⟨hx, hb, hr, hlk, hml, hown, hts, hin⟩, hK, hE, hA, hR, hxe⟩ := id hC
  obtain ⟨hd, rfl, hq⟩ := ckd (fun _ => rfl) ho
  rw [dq_ifCond] at h
  obtain ⟨⟨x, r⟩, h1, h⟩ := Option.bind_eq_some_iff.mp h
  simp only [Option.some.injEq, Sum.inl.injEq, Prod.mk.injEq] at h
  obtain ⟨rfl, rfl, rfl, rfl⟩ := h
  obtain rfl := pI_eq h1
  refine lv_if_ne (x := x) (rest := r.map (mvv xa xe)) (tgt := aux) hx hb hd (of_decide_eq_true hq) (fun hc => ?_) (fun hc => ?_)
  · rw [show cnd .ne x 0 = true from decide_eq_true hc, bte] at kk
    exact kk.pure hW hL
  · rw [show cnd .ne x 0 = false from by simp only [cnd, decide_eq_false_iff_not]; first | exact hc | exact fun q => q hc, bfe] at kk
    exact kk.pure hW hL
theorem s_icmp_ne {o : Int} (hC : Cx p R s m args meth c D cA xe A SL sx dep k) (hW : Wd D cA xe A s xa G H locs) (hL : lR xa xe ls (mMax k) L) (ho : chkE k (pc, (.if_icmp .ne o, nx, aux), j) = true) (h : dstep SL sx dep k pc (.if_icmp .ne o, nx, aux) L st G = some (.inl (pc', L', st', G'))) (hg : cells + (G'.length - G.length) ≤ R.cells ∧ slots + (szG G' - szG G) ≤ R.slots) (kk : KK p l e R s m args below meth c Q D cA xe A k xa G cells slots pc' L' st' G') : W p l e R s m args below meth c H locs cells slots Q (F0 m pc ls (st.map (mvv xa xe))) := by
  obtain ⟨⟨hx, hb, hr, hlk, hml, hown, hts, hin⟩, hK, hE, hA, hR, hxe⟩ := id hC
  obtain ⟨hd, rfl, hq⟩ := ckd (fun _ => rfl) ho
  rw [dq_if_icmp] at h
  obtain ⟨⟨y, r1⟩, h1, h⟩ := Option.bind_eq_some_iff.mp h
  obtain ⟨⟨x, r⟩, h2, h⟩ := Option.bind_eq_some_iff.mp h
  simp only [Option.some.injEq, Sum.inl.injEq, Prod.mk.injEq] at h
  obtain ⟨rfl, rfl, rfl, rfl⟩ := h
  obtain rfl := pI_eq h1
  obtain rfl := pI_eq h2
  refine lv_icmp_ne (x := x) (y := y) (rest := r.map (mvv xa xe)) (tgt := aux) hx hb hd (of_decide_eq_true hq) (fun hc => ?_) (fun hc => ?_)
  · rw [show cnd .ne x y = true from decide_eq_true hc, bte] at kk
    exact kk.pure hW hL
  · rw [show cnd .ne x y = false from by simp only [cnd, decide_eq_false_iff_not]; first | exact hc | exact fun q => q hc, bfe] at kk
    exact kk.pure hW hL
theorem s_if_lt {o : Int} (hC : Cx p R s m args meth c D cA xe A SL sx dep k) (hW : Wd D cA xe A s xa G H locs) (hL : lR xa xe ls (mMax k) L) (ho : chkE k (pc, (.ifCond .lt o, nx, aux), j) = true) (h : dstep SL sx dep k pc (.ifCond .lt o, nx, aux) L st G = some (.inl (pc', L', st', G'))) (hg : cells + (G'.length - G.length) ≤ R.cells ∧ slots + (szG G' - szG G) ≤ R.slots) (kk : KK p l e R s m args below meth c Q D cA xe A k xa G cells slots pc' L' st' G') : W p l e R s m args below meth c H locs cells slots Q (F0 m pc ls (st.map (mvv xa xe))) := by
  obtain ⟨⟨hx, hb, hr, hlk, hml, hown, hts, hin⟩, hK, hE, hA, hR, hxe⟩ := id hC
  obtain ⟨hd, rfl, hq⟩ := ckd (fun _ => rfl) ho
  rw [dq_ifCond] at h
  obtain ⟨⟨x, r⟩, h1, h⟩ := Option.bind_eq_some_iff.mp h
  simp only [Option.some.injEq, Sum.inl.injEq, Prod.mk.injEq] at h
  obtain ⟨rfl, rfl, rfl, rfl⟩ := h
  obtain rfl := pI_eq h1
  refine lv_if_lt (x := x) (rest := r.map (mvv xa xe)) (tgt := aux) hx hb hd (of_decide_eq_true hq) (fun hc => ?_) (fun hc => ?_)
  · rw [show cnd .lt x 0 = true from decide_eq_true hc, bte] at kk
    exact kk.pure hW hL
  · rw [show cnd .lt x 0 = false from by simp only [cnd, decide_eq_false_iff_not]; first | exact hc | exact fun q => q hc, bfe] at kk
    exact kk.pure hW hL
theorem s_icmp_lt {o : Int} (hC : Cx p R s m args meth c D cA xe A SL sx dep k) (hW : Wd D cA xe A s xa G H locs) (hL : lR xa xe ls (mMax k) L) (ho : chkE k (pc, (.if_icmp .lt o, nx, aux), j) = true) (h : dstep SL sx dep k pc (.if_icmp .lt o, nx, aux) L st G = some (.inl (pc', L', st', G'))) (hg : cells + (G'.length - G.length) ≤ R.cells ∧ slots + (szG G' - szG G) ≤ R.slots) (kk : KK p l e R s m args below meth c Q D cA xe A k xa G cells slots pc' L' st' G') : W p l e R s m args below meth c H locs cells slots Q (F0 m pc ls (st.map (mvv xa xe))) := by
  obtain ⟨⟨hx, hb, hr, hlk, hml, hown, hts, hin⟩, hK, hE, hA, hR, hxe⟩ := id hC
  obtain ⟨hd, rfl, hq⟩ := ckd (fun _ => rfl) ho
  rw [dq_if_icmp] at h
  obtain ⟨⟨y, r1⟩, h1, h⟩ := Option.bind_eq_some_iff.mp h
  obtain ⟨⟨x, r⟩, h2, h⟩ := Option.bind_eq_some_iff.mp h
  simp only [Option.some.injEq, Sum.inl.injEq, Prod.mk.injEq] at h
  obtain ⟨rfl, rfl, rfl, rfl⟩ := h
  obtain rfl := pI_eq h1
  obtain rfl := pI_eq h2
  refine lv_icmp_lt (x := x) (y := y) (rest := r.map (mvv xa xe)) (tgt := aux) hx hb hd (of_decide_eq_true hq) (fun hc => ?_) (fun hc => ?_)
  · rw [show cnd .lt x y = true from decide_eq_true hc, bte] at kk
    exact kk.pure hW hL
  · rw [show cnd .lt x y = false from by simp only [cnd, decide_eq_false_iff_not]; first | exact hc | exact fun q => q hc, bfe] at kk
    exact kk.pure hW hL
theorem s_if_ge {o : Int} (hC : Cx p R s m args meth c D cA xe A SL sx dep k) (hW : Wd D cA xe A s xa G H locs) (hL : lR xa xe ls (mMax k) L) (ho : chkE k (pc, (.ifCond .ge o, nx, aux), j) = true) (h : dstep SL sx dep k pc (.ifCond .ge o, nx, aux) L st G = some (.inl (pc', L', st', G'))) (hg : cells + (G'.length - G.length) ≤ R.cells ∧ slots + (szG G' - szG G) ≤ R.slots) (kk : KK p l e R s m args below meth c Q D cA xe A k xa G cells slots pc' L' st' G') : W p l e R s m args below meth c H locs cells slots Q (F0 m pc ls (st.map (mvv xa xe))) := by
  obtain ⟨⟨hx, hb, hr, hlk, hml, hown, hts, hin⟩, hK, hE, hA, hR, hxe⟩ := id hC
  obtain ⟨hd, rfl, hq⟩ := ckd (fun _ => rfl) ho
  rw [dq_ifCond] at h
  obtain ⟨⟨x, r⟩, h1, h⟩ := Option.bind_eq_some_iff.mp h
  simp only [Option.some.injEq, Sum.inl.injEq, Prod.mk.injEq] at h
  obtain ⟨rfl, rfl, rfl, rfl⟩ := h
  obtain rfl := pI_eq h1
  refine lv_if_ge (x := x) (rest := r.map (mvv xa xe)) (tgt := aux) hx hb hd (of_decide_eq_true hq) (fun hc => ?_) (fun hc => ?_)
  · rw [show cnd .ge x 0 = true from decide_eq_true hc, bte] at kk
    exact kk.pure hW hL
  · rw [show cnd .ge x 0 = false from by simp only [cnd, decide_eq_false_iff_not]; first | exact hc | exact fun q => q hc, bfe] at kk
    exact kk.pure hW hL
theorem s_icmp_ge {o : Int} (hC : Cx p R s m args meth c D cA xe A SL sx dep k) (hW : Wd D cA xe A s xa G H locs) (hL : lR xa xe ls (mMax k) L) (ho : chkE k (pc, (.if_icmp .ge o, nx, aux), j) = true) (h : dstep SL sx dep k pc (.if_icmp .ge o, nx, aux) L st G = some (.inl (pc', L', st', G'))) (hg : cells + (G'.length - G.length) ≤ R.cells ∧ slots + (szG G' - szG G) ≤ R.slots) (kk : KK p l e R s m args below meth c Q D cA xe A k xa G cells slots pc' L' st' G') : W p l e R s m args below meth c H locs cells slots Q (F0 m pc ls (st.map (mvv xa xe))) := by
  obtain ⟨⟨hx, hb, hr, hlk, hml, hown, hts, hin⟩, hK, hE, hA, hR, hxe⟩ := id hC
  obtain ⟨hd, rfl, hq⟩ := ckd (fun _ => rfl) ho
  rw [dq_if_icmp] at h
  obtain ⟨⟨y, r1⟩, h1, h⟩ := Option.bind_eq_some_iff.mp h
  obtain ⟨⟨x, r⟩, h2, h⟩ := Option.bind_eq_some_iff.mp h
  simp only [Option.some.injEq, Sum.inl.injEq, Prod.mk.injEq] at h
  obtain ⟨rfl, rfl, rfl, rfl⟩ := h
  obtain rfl := pI_eq h1
  obtain rfl := pI_eq h2
  refine lv_icmp_ge (x := x) (y := y) (rest := r.map (mvv xa xe)) (tgt := aux) hx hb hd (of_decide_eq_true hq) (fun hc => ?_) (fun hc => ?_)
  · rw [show cnd .ge x y = true from decide_eq_true hc, bte] at kk
    exact kk.pure hW hL
  · rw [show cnd .ge x y = false from by simp only [cnd, decide_eq_false_iff_not]; first | exact hc | exact fun q => q hc, bfe] at kk
    exact kk.pure hW hL
theorem s_if_gt {o : Int} (hC : Cx p R s m args meth c D cA xe A SL sx dep k) (hW : Wd D cA xe A s xa G H locs) (hL : lR xa xe ls (mMax k) L) (ho : chkE k (pc, (.ifCond .gt o, nx, aux), j) = true) (h : dstep SL sx dep k pc (.ifCond .gt o, nx, aux) L st G = some (.inl (pc', L', st', G'))) (hg : cells + (G'.length - G.length) ≤ R.cells ∧ slots + (szG G' - szG G) ≤ R.slots) (kk : KK p l e R s m args below meth c Q D cA xe A k xa G cells slots pc' L' st' G') : W p l e R s m args below meth c H locs cells slots Q (F0 m pc ls (st.map (mvv xa xe))) := by
  obtain ⟨⟨hx, hb, hr, hlk, hml, hown, hts, hin⟩, hK, hE, hA, hR, hxe⟩ := id hC
  obtain ⟨hd, rfl, hq⟩ := ckd (fun _ => rfl) ho
  rw [dq_ifCond] at h
  obtain ⟨⟨x, r⟩, h1, h⟩ := Option.bind_eq_some_iff.mp h
  simp only [Option.some.injEq, Sum.inl.injEq, Prod.mk.injEq] at h
  obtain ⟨rfl, rfl, rfl, rfl⟩ := h
  obtain rfl := pI_eq h1
  refine lv_if_gt (x := x) (rest := r.map (mvv xa xe)) (tgt := aux) hx hb hd (of_decide_eq_true hq) (fun hc => ?_) (fun hc => ?_)
  · rw [show cnd .gt x 0 = true from decide_eq_true hc, bte] at kk
    exact kk.pure hW hL
  · rw [show cnd .gt x 0 = false from by simp only [cnd, decide_eq_false_iff_not]; first | exact hc | exact fun q => q hc, bfe] at kk
    exact kk.pure hW hL
theorem s_icmp_gt {o : Int} (hC : Cx p R s m args meth c D cA xe A SL sx dep k) (hW : Wd D cA xe A s xa G H locs) (hL : lR xa xe ls (mMax k) L) (ho : chkE k (pc, (.if_icmp .gt o, nx, aux), j) = true) (h : dstep SL sx dep k pc (.if_icmp .gt o, nx, aux) L st G = some (.inl (pc', L', st', G'))) (hg : cells + (G'.length - G.length) ≤ R.cells ∧ slots + (szG G' - szG G) ≤ R.slots) (kk : KK p l e R s m args below meth c Q D cA xe A k xa G cells slots pc' L' st' G') : W p l e R s m args below meth c H locs cells slots Q (F0 m pc ls (st.map (mvv xa xe))) := by
  obtain ⟨⟨hx, hb, hr, hlk, hml, hown, hts, hin⟩, hK, hE, hA, hR, hxe⟩ := id hC
  obtain ⟨hd, rfl, hq⟩ := ckd (fun _ => rfl) ho
  rw [dq_if_icmp] at h
  obtain ⟨⟨y, r1⟩, h1, h⟩ := Option.bind_eq_some_iff.mp h
  obtain ⟨⟨x, r⟩, h2, h⟩ := Option.bind_eq_some_iff.mp h
  simp only [Option.some.injEq, Sum.inl.injEq, Prod.mk.injEq] at h
  obtain ⟨rfl, rfl, rfl, rfl⟩ := h
  obtain rfl := pI_eq h1
  obtain rfl := pI_eq h2
  refine lv_icmp_gt (x := x) (y := y) (rest := r.map (mvv xa xe)) (tgt := aux) hx hb hd (of_decide_eq_true hq) (fun hc => ?_) (fun hc => ?_)
  · rw [show cnd .gt x y = true from decide_eq_true hc, bte] at kk
    exact kk.pure hW hL
  · rw [show cnd .gt x y = false from by simp only [cnd, decide_eq_false_iff_not]; first | exact hc | exact fun q => q hc, bfe] at kk
    exact kk.pure hW hL
theorem s_if_le {o : Int} (hC : Cx p R s m args meth c D cA xe A SL sx dep k) (hW : Wd D cA xe A s xa G H locs) (hL : lR xa xe ls (mMax k) L) (ho : chkE k (pc, (.ifCond .le o, nx, aux), j) = true) (h : dstep SL sx dep k pc (.ifCond .le o, nx, aux) L st G = some (.inl (pc', L', st', G'))) (hg : cells + (G'.length - G.length) ≤ R.cells ∧ slots + (szG G' - szG G) ≤ R.slots) (kk : KK p l e R s m args below meth c Q D cA xe A k xa G cells slots pc' L' st' G') : W p l e R s m args below meth c H locs cells slots Q (F0 m pc ls (st.map (mvv xa xe))) := by
  obtain ⟨⟨hx, hb, hr, hlk, hml, hown, hts, hin⟩, hK, hE, hA, hR, hxe⟩ := id hC
  obtain ⟨hd, rfl, hq⟩ := ckd (fun _ => rfl) ho
  rw [dq_ifCond] at h
  obtain ⟨⟨x, r⟩, h1, h⟩ := Option.bind_eq_some_iff.mp h
  simp only [Option.some.injEq, Sum.inl.injEq, Prod.mk.injEq] at h
  obtain ⟨rfl, rfl, rfl, rfl⟩ := h
  obtain rfl := pI_eq h1
  refine lv_if_le (x := x) (rest := r.map (mvv xa xe)) (tgt := aux) hx hb hd (of_decide_eq_true hq) (fun hc => ?_) (fun hc => ?_)
  · rw [show cnd .le x 0 = true from decide_eq_true hc, bte] at kk
    exact kk.pure hW hL
  · rw [show cnd .le x 0 = false from by simp only [cnd, decide_eq_false_iff_not]; first | exact hc | exact fun q => q hc, bfe] at kk
    exact kk.pure hW hL
theorem s_icmp_le {o : Int} (hC : Cx p R s m args meth c D cA xe A SL sx dep k) (hW : Wd D cA xe A s xa G H locs) (hL : lR xa xe ls (mMax k) L) (ho : chkE k (pc, (.if_icmp .le o, nx, aux), j) = true) (h : dstep SL sx dep k pc (.if_icmp .le o, nx, aux) L st G = some (.inl (pc', L', st', G'))) (hg : cells + (G'.length - G.length) ≤ R.cells ∧ slots + (szG G' - szG G) ≤ R.slots) (kk : KK p l e R s m args below meth c Q D cA xe A k xa G cells slots pc' L' st' G') : W p l e R s m args below meth c H locs cells slots Q (F0 m pc ls (st.map (mvv xa xe))) := by
  obtain ⟨⟨hx, hb, hr, hlk, hml, hown, hts, hin⟩, hK, hE, hA, hR, hxe⟩ := id hC
  obtain ⟨hd, rfl, hq⟩ := ckd (fun _ => rfl) ho
  rw [dq_if_icmp] at h
  obtain ⟨⟨y, r1⟩, h1, h⟩ := Option.bind_eq_some_iff.mp h
  obtain ⟨⟨x, r⟩, h2, h⟩ := Option.bind_eq_some_iff.mp h
  simp only [Option.some.injEq, Sum.inl.injEq, Prod.mk.injEq] at h
  obtain ⟨rfl, rfl, rfl, rfl⟩ := h
  obtain rfl := pI_eq h1
  obtain rfl := pI_eq h2
  refine lv_icmp_le (x := x) (y := y) (rest := r.map (mvv xa xe)) (tgt := aux) hx hb hd (of_decide_eq_true hq) (fun hc => ?_) (fun hc => ?_)
  · rw [show cnd .le x y = true from decide_eq_true hc, bte] at kk
    exact kk.pure hW hL
  · rw [show cnd .le x y = false from by simp only [cnd, decide_eq_false_iff_not]; first | exact hc | exact fun q => q hc, bfe] at kk
    exact kk.pure hW hL
theorem s_goto {o : Int} (hC : Cx p R s m args meth c D cA xe A SL sx dep k) (hW : Wd D cA xe A s xa G H locs) (hL : lR xa xe ls (mMax k) L) (ho : chkE k (pc, (.goto o, nx, aux), j) = true) (h : dstep SL sx dep k pc (.goto o, nx, aux) L st G = some (.inl (pc', L', st', G'))) (hg : cells + (G'.length - G.length) ≤ R.cells ∧ slots + (szG G' - szG G) ≤ R.slots) (kk : KK p l e R s m args below meth c Q D cA xe A k xa G cells slots pc' L' st' G') : W p l e R s m args below meth c H locs cells slots Q (F0 m pc ls (st.map (mvv xa xe))) := by
  obtain ⟨⟨hx, hb, hr, hlk, hml, hown, hts, hin⟩, hK, hE, hA, hR, hxe⟩ := id hC
  obtain ⟨hd, rfl, hq⟩ := ckd (fun _ => rfl) ho
  rw [dq_goto] at h
  simp only [Option.some.injEq, Sum.inl.injEq, Prod.mk.injEq] at h
  obtain ⟨rfl, rfl, rfl, rfl⟩ := h
  exact lv_goto (rest := st.map (mvv xa xe)) hx hb hd (of_decide_eq_true hq) (kk.pure hW hL)
theorem s_tableswitch {d lo hi : Int} {offs : Array Int} (hC : Cx p R s m args meth c D cA xe A SL sx dep k) (hW : Wd D cA xe A s xa G H locs) (hL : lR xa xe ls (mMax k) L) (ho : chkE k (pc, (.tableswitch d lo hi offs, nx, aux), j) = true) (h : dstep SL sx dep k pc (.tableswitch d lo hi offs, nx, aux) L st G = some (.inl (pc', L', st', G'))) (hg : cells + (G'.length - G.length) ≤ R.cells ∧ slots + (szG G' - szG G) ≤ R.slots) (kk : KK p l e R s m args below meth c Q D cA xe A k xa G cells slots pc' L' st' G') : W p l e R s m args below meth c H locs cells slots Q (F0 m pc ls (st.map (mvv xa xe))) := by
  obtain ⟨⟨hx, hb, hr, hlk, hml, hown, hts, hin⟩, hK, hE, hA, hR, hxe⟩ := id hC
  obtain ⟨n0, hd, hq⟩ := ckt ho
  rw [dq_tableswitch] at h
  obtain ⟨⟨x, r⟩, h1, h⟩ := Option.bind_eq_some_iff.mp h
  simp only [Option.some.injEq, Sum.inl.injEq, Prod.mk.injEq] at h
  obtain ⟨rfl, rfl, rfl, rfl⟩ := h
  obtain rfl := pI_eq h1
  simp only [chkX, Bool.and_eq_true, decide_eq_true_eq] at hq
  obtain ⟨⟨⟨hq1, hq2⟩, hq3⟩, hq4⟩ := hq
  have hq2 := Nat.eq_of_beq_eq_true hq2
  by_cases ho1 : x.toInt < lo ∨ hi < x.toInt
  · have e1 : (decide (x.toInt < lo) || decide (hi < x.toInt)) = true := by simpa using ho1
    rw [e1, bte] at kk
    exact lv_tableOut (x := x) (rest := r.map (mvv xa xe)) hx hb hd ho1 (Int.toNat_of_nonneg hq1).symm (kk.pure hW hL)
  · have e1 : (decide (x.toInt < lo) || decide (hi < x.toInt)) = false := by simpa using ho1
    rw [e1, bfe] at kk
    have hlt : (x.toInt - lo).toNat < offs.size := by rw [hq2]; omega
    have ho2 : offs[(x.toInt - lo).toNat]? = some (offs.getD (x.toInt - lo).toNat 0) := by simp [hlt]
    have ho3 : 0 ≤ (pc : Int) + offs.getD (x.toInt - lo).toNat 0 := by
      rw [Array.all_eq_true] at hq4
      have := hq4 _ hlt
      simpa [hlt] using this
    exact lv_tableIn (x := x) (rest := r.map (mvv xa xe)) hx hb hd (by omega) (by omega) ho2 (Int.toNat_of_nonneg ho3).symm (kk.pure hW hL)
end STP
