/-! THE SMALL MACHINE IN THE GREAT ONE: how values, cells and locals stand in it -/
theorem blt_t {a b : Nat} (h : a < b) : Nat.blt a b = true := Nat.blt_eq.mpr h
theorem blt_l {a b : Nat} (h : Nat.blt a b = true) : a < b := Nat.blt_eq.mp h
theorem ble_l {a b : Nat} (h : Nat.ble a b = true) : a ≤ b := Nat.le_of_ble_eq_true h
theorem ble_t {a b : Nat} (h : a ≤ b) : Nat.ble a b = true := Nat.ble_eq.mpr h
theorem gc1_eq {b : Bool} {r : Option mR} {x : mR} (h : gc1 b r = some x) : b = true ∧ r = some x := by
  cases b with
  | false => cases h
  | true => exact ⟨rfl, h⟩
theorem pI_eq {st r : List Value} {x : Int32} (h : pI st = some (x, r)) : st = .int x :: r := by
  unfold pI at h
  split at h
  · cases h; rfl
  · cases h
theorem pJ_eq {st r : List Value} {x : Int64} (h : pJ st = some (x, r)) : st = .long x :: r := by
  unfold pJ at h
  split at h
  · cases h; rfl
  · cases h
theorem pA_eq {st r : List Value} {x : Nat} (h : pA st = some (x, r)) : st = .ref x :: r := by
  unfold pA at h
  split at h
  · cases h; rfl
  · cases h
theorem lI_eq {L : List Value} {i : Nat} {x : Int32} (h : lI L i = some x) : L[i]? = some (.int x) := by
  unfold lI at h
  split at h
  · rename_i q; cases h; exact q
  · cases h
theorem lJ_eq {L : List Value} {i : Nat} {x : Int64} (h : lJ L i = some x) : L[i]? = some (.long x) := by
  unfold lJ at h
  split at h
  · rename_i q; cases h; exact q
  · cases h
theorem lA_eq {L : List Value} {i : Nat} {x : Nat} (h : lA L i = some x) : L[i]? = some (.ref x) := by
  unfold lA at h
  split at h
  · rename_i q; cases h; exact q
  · cases h
/-- a value of the small machine, in the great one -/
def mvv (xa : Nat → Nat) (xe : Nat → Value) : Value → Value
  | .ref k => bif Nat.blt k 1000 then .ref (xa k) else xe (k - 1000)
  | v => v
def xeOk (xe : Nat → Value) : Prop := (∀ j, j < 20 → ∃ q, xe j = .ref q) ∧ ∀ j, xe j = .null ∨ ∃ q, xe j = .ref q
theorem mvv_own {xa : Nat → Nat} {xe : Nat → Value} {k : Nat} (h : k < 1000) : mvv xa xe (.ref k) = .ref (xa k) := by
  show (bif Nat.blt k 1000 then _ else _) = _
  rw [blt_t h]; rfl
theorem mvv_out {xa : Nat → Nat} {xe : Nat → Value} {k : Nat} (h : 1000 ≤ k) : mvv xa xe (.ref k) = xe (k - 1000) := by
  show (bif Nat.blt k 1000 then _ else _) = _
  have h1 : Nat.blt k 1000 = false := by
    cases hb : Nat.blt k 1000 with
    | false => rfl
    | true => have := blt_l hb; omega
  rw [h1]; rfl
theorem mvv_ref {xa : Nat → Nat} {xe : Nat → Value} (hx : xeOk xe) {k : Nat} (h : k < 1020) : ∃ q, mvv xa xe (.ref k) = .ref q := by
  by_cases h1 : k < 1000
  · exact ⟨_, mvv_own h1⟩
  · rw [mvv_out (Nat.not_lt.mp h1)]
    exact hx.1 _ (by omega)
theorem mvv_cat {xa : Nat → Nat} {xe : Nat → Value} (hx : xeOk xe) (v : Value) : (mvv xa xe v).category = v.category := by
  cases v with
  | ref k =>
    by_cases h1 : k < 1000
    · rw [mvv_own h1]; rfl
    · rw [mvv_out (Nat.not_lt.mp h1)]
      rcases hx.2 (k - 1000) with h | ⟨q, h⟩ <;> rw [h] <;> rfl
  | _ => rfl
theorem mvv_fits {xa : Nat → Nat} {xe : Nat → Value} (hx : xeOk xe) {ty : FieldType} {v : Value} (h : fits ty v = true) : fits ty (mvv xa xe v) = true := by
  cases v with
  | ref k =>
    have hq : mvv xa xe (.ref k) = .null ∨ ∃ q, mvv xa xe (.ref k) = .ref q := by
      by_cases h1 : k < 1000
      · exact Or.inr ⟨_, mvv_own h1⟩
      · rw [mvv_out (Nat.not_lt.mp h1)]; exact hx.2 _
    rcases hq with hq | ⟨q, hq⟩ <;> rw [hq] <;> cases ty <;> first | rfl | cases h
  | _ => exact h
theorem mvv_nar {xa : Nat → Nat} {xe : Nat → Value} (hx : xeOk xe) {ty : FieldType} {v : Value} (h : narrow ty v = v) : narrow ty (mvv xa xe v) = mvv xa xe v := by
  cases v with
  | ref k =>
    have hq : mvv xa xe (.ref k) = .null ∨ ∃ q, mvv xa xe (.ref k) = .ref q := by
      by_cases h1 : k < 1000
      · exact Or.inr ⟨_, mvv_own h1⟩
      · rw [mvv_out (Nat.not_lt.mp h1)]; exact hx.2 _
    rcases hq with hq | ⟨q, hq⟩ <;> rw [hq] <;> cases ty <;> rfl
  | _ => exact h
theorem mvv_catS {xa : Nat → Nat} {xe : Nat → Value} (hx : xeOk xe) (st : List Value) : ((st.map (mvv xa xe)).map fun v => v.category).sum = catS st := by
  unfold catS
  rw [List.map_map]
  congr 1
  exact List.map_congr_left fun v _ => mvv_cat hx v
def cellW (cA : Nat → ClassId) (xa : Nat → Nat) (xe : Nat → Value) : mC → va_E
  | .inl (t, n, .inl f) => .inl (cA t, n, .inl f)
  | .inl (t, n, .inr (.inl f)) => .inl (cA t, n, .inr (.inl f))
  | .inl (t, n, .inr (.inr l)) => .inl (cA t, n, .inr (.inr (.inr (.inr (fun j => (l.getD j none).map xa)))))
  | .inr (ci, fs) => .inr (ci, fs.map (mvv xa xe))
def wsW (cA : Nat → ClassId) (xa : Nat → Nat) (xe : Nat → Value) (G : mH) : va_W := G.mapIdx fun k q => (xa k, cellW cA xa xe q)
def tysW (cA : Nat → ClassId) : List (ClassId × FieldType) := [(cA 0, .int), (cA 1, .byte), (cA 2, .long), (cA 3, .object "DeckBench$Net"), (cA 4, .object "DeckBench$Deck")]
theorem wsW_at {cA : Nat → ClassId} {xa : Nat → Nat} {xe : Nat → Value} {G : mH} {k : Nat} {q : mC} (h : G[k]? = some q) : (wsW cA xa xe G)[k]? = some (xa k, cellW cA xa xe q) := by
  unfold wsW
  rw [List.getElem?_mapIdx, h]; rfl
theorem wsW_set {cA : Nat → ClassId} {xa : Nat → Nat} {xe : Nat → Value} {G : mH} {k : Nat} {q : mC} : wsW cA xa xe (G.set k q) = (wsW cA xa xe G).set k (xa k, cellW cA xa xe q) := by
  unfold wsW
  rw [List.mapIdx_set]
/-- the known locals -/
def lvO (xa : Nat → Nat) (xe : Nat → Value) (L : List Value) : List (Nat × Value) := L.zipIdx.filterMap fun q => if q.1 = .null then none else some (q.2, mvv xa xe q.1)
theorem lvO_mem {xa : Nat → Nat} {xe : Nat → Value} {L : List Value} {j : Nat} {w : Value} : (j, w) ∈ lvO xa xe L ↔ ∃ u, L[j]? = some u ∧ u ≠ .null ∧ w = mvv xa xe u := by
  unfold lvO
  rw [List.mem_filterMap]
  constructor
  · rintro ⟨⟨u, i⟩, h1, h2⟩
    by_cases hu : u = .null
    · simp [hu] at h2
    · simp only [hu, if_false, Option.some.injEq, Prod.mk.injEq] at h2
      obtain ⟨rfl, rfl⟩ := h2
      exact ⟨u, List.mk_mem_zipIdx_iff_getElem?.mp h1, hu, rfl⟩
  · rintro ⟨u, h1, h2, rfl⟩
    exact ⟨(u, j), List.mk_mem_zipIdx_iff_getElem?.mpr h1, by simp [h2]⟩
def lR (xa : Nat → Nat) (xe : Nat → Value) (ls : Array Slot) (n : Nat) (L : List Value) : Prop := L.length = n ∧ lv_has ls n (lvO xa xe L)
theorem lR_at {xa : Nat → Nat} {xe : Nat → Value} {ls : Array Slot} {n : Nat} {L : List Value} (h : lR xa xe ls n L) {i : Nat} {v : Value} (hi : L[i]? = some v) (hv : v ≠ .null) : ls[i]? = some (.val (mvv xa xe v)) := h.2.2.2 (i, mvv xa xe v) (lvO_mem.mpr ⟨v, hi, hv, rfl⟩)
theorem clr_length (L : List Value) (i : Nat) : (clr L i).length = L.length := by
  cases i with
  | zero => rfl
  | succ j =>
    simp only [clr]
    cases L[j]? with
    | none => rfl
    | some v => cases h : Nat.beq v.category 2 <;> simp [h]
theorem clr_at {L : List Value} {i j : Nat} {u : Value} (h : (clr L i)[j]? = some u) (hu : u ≠ .null) : L[j]? = some u ∧ ¬ (j + 1 = i ∧ u.category = 2) := by
  cases i with
  | zero => exact ⟨h, fun q => by omega⟩
  | succ i =>
    simp only [clr] at h
    cases hi : L[i]? with
    | none =>
      simp only [hi] at h
      refine ⟨h, fun q => ?_⟩
      have : j = i := by omega
      rw [this, hi] at h; cases h
    | some v =>
      simp only [hi] at h
      cases hc : Nat.beq v.category 2 with
      | false =>
        rw [hc] at h
        refine ⟨h, fun q => ?_⟩
        have : j = i := by omega
        subst this
        have h' : L[j]? = some u := h
        rw [hi] at h'; cases h'
        rw [q.2] at hc; cases hc
      | true =>
        rw [hc] at h
        have h : (L.set i .null)[j]? = some u := h
        rw [List.getElem?_set] at h
        by_cases hj : i = j
        · rw [if_pos hj] at h
          split at h
          · cases h; exact absurd rfl hu
          · cases h
        · rw [if_neg hj] at h
          exact ⟨h, fun q => hj (by omega)⟩
theorem lR_st1 {xa : Nat → Nat} {xe : Nat → Value} (hx : xeOk xe) {ls' : Array Slot} {n : Nat} {L : List Value} {i : Nat} {v : Value} (hn : L.length = n) (h : lv_has ls' n ((i, mvv xa xe v) :: (lvO xa xe L).filter (fun q => !(q.1 == i) && !(q.1 + 1 == i && q.2.category == 2)))) : lR xa xe ls' n (st1 L i v) := by
  refine ⟨by unfold st1; rw [List.length_set, clr_length, hn], h.1, h.2.1, ?_⟩
  rintro ⟨j, w⟩ hq
  obtain ⟨u, h1, h2, rfl⟩ := lvO_mem.mp hq
  unfold st1 at h1
  rw [List.getElem?_set] at h1
  by_cases hj : i = j
  · rw [if_pos hj] at h1
    split at h1
    · cases h1; subst hj; exact h.2.2 _ List.mem_cons_self
    · cases h1
  · rw [if_neg hj] at h1
    obtain ⟨h3, h4⟩ := clr_at h1 h2
    refine h.2.2 _ (List.mem_cons_of_mem _ (List.mem_filter.mpr ⟨lvO_mem.mpr ⟨u, h3, h2, rfl⟩, ?_⟩))
    simp only [mvv_cat hx]
    by_cases h5 : j + 1 = i
    · have h6 : ¬ u.category = 2 := fun q => h4 ⟨h5, q⟩
      simp [h6, show ¬ j = i from fun q => hj q.symm]
    · simp [h5, show ¬ j = i from fun q => hj q.symm]
theorem lR_st2 {xa : Nat → Nat} {xe : Nat → Value} (hx : xeOk xe) {ls' : Array Slot} {n : Nat} {L : List Value} {i : Nat} {v : Value} (hn : L.length = n) (h : lv_has ls' n ((i, mvv xa xe v) :: (lvO xa xe L).filter (fun q => !(q.1 == i) && (!(q.1 == i + 1) && !(q.1 + 1 == i && q.2.category == 2))))) : lR xa xe ls' n (st2 L i v) := by
  refine ⟨by unfold st2; rw [List.length_set, List.length_set, clr_length, hn], h.1, h.2.1, ?_⟩
  rintro ⟨j, w⟩ hq
  obtain ⟨u, h1, h2, rfl⟩ := lvO_mem.mp hq
  unfold st2 at h1
  rw [List.getElem?_set] at h1
  by_cases hk : i + 1 = j
  · rw [if_pos hk] at h1
    split at h1
    · cases h1; exact absurd rfl h2
    · cases h1
  · rw [if_neg hk, List.getElem?_set] at h1
    by_cases hj : i = j
    · rw [if_pos hj] at h1
      split at h1
      · cases h1; subst hj; exact h.2.2 _ List.mem_cons_self
      · cases h1
    · rw [if_neg hj] at h1
      obtain ⟨h3, h4⟩ := clr_at h1 h2
      refine h.2.2 _ (List.mem_cons_of_mem _ (List.mem_filter.mpr ⟨lvO_mem.mpr ⟨u, h3, h2, rfl⟩, ?_⟩))
      simp only [mvv_cat hx]
      by_cases h5 : j + 1 = i
      · have h6 : ¬ u.category = 2 := fun q => h4 ⟨h5, q⟩
        have h7 : ¬ j = i + 1 := by omega
        simp [h6, h7, show ¬ j = i from fun q => hj q.symm]
      · have h7 : ¬ j = i + 1 := by omega
        simp [h5, h7, show ¬ j = i from fun q => hj q.symm]
/-- the words that a contract may hold -/
def lwG : List Cond := lw_tbl.filter goodWord
theorem lwG_mem {w : Cond} (h : w ∈ lw_tbl) (hg : goodWord w = true) : w ∈ lwG := List.mem_filter.mpr ⟨h, hg⟩
/-- what stands outside and stays -/
def Ext (SL : Nat) (sx : Nat → Int32) (xe : Nat → Value) (A : Nat → Prop) (U : State) (H : Heap) : Prop :=
  (∃ b, xe 0 = .ref b ∧ va_X b SL sx U H ∧ b < H.size ∧ ¬ A b) ∧
  (∃ t, xe 1 = .ref t ∧ va_Z "DeckBench$SmallNets" "FIRSTS" "[I" (.ref t) A U H ∧ va_T .int t 7 (fun j => .int (sFirsts.getD j 0)) A U H) ∧
  (∃ t, xe 2 = .ref t ∧ va_Z "DeckBench$SmallNets" "FORMS" "[I" (.ref t) A U H ∧ va_T .int t 53 (fun j => .int (sForms.getD j 0)) A U H) ∧
  (∃ tk tv : Nat → Nat, (∀ i, i < 4 → xe (3 + i) = .ref (tv i) ∧ xe (10 + i) = .ref (tk i)) ∧ vk_S 4 sLens sTexts tk tv A U H ∧ vk_R "DeckBench$TextReader" 63 "net" (tk 0) U ∧ vk_R "DeckBench$TextReader" 72 "deck" (tk 1) U ∧ vk_R "DeckBench$TextReader" 130 "card" (tk 2) U ∧ vk_R "DeckBenchModel" 153 " net deck card " (tk 3) U) ∧
  va_Z "java/lang/String" "COMPACT_STRINGS" "Z" (.int 1) A U H ∧
  va_Z "jdk/internal/util/Preconditions" "SIOOBE_FORMATTER" "Ljava/util/function/BiFunction;" (xe 20) A U H ∧
  (∀ a i x h, Cond.methodLinkNest a i x h ∈ lw_tbl → va_Nw (.methodLinkNest a i x h) U) ∧ va_AO "DeckBench$Net" U ∧ va_AO "DeckBench$Deck" U
theorem Ext.to {SL : Nat} {sx : Nat → Int32} {xe : Nat → Value} {A A' : Nat → Prop} {s U : State} {H : Heap} {locs : List Loc} (h : Ext SL sx xe A s s.heap) (hW : s.WarmedH U.vm) (hS : va_S A s.heap H locs) (hA : ∀ q, A' q → A q) : Ext SL sx xe A' U H := by
  obtain ⟨⟨b, b1, b2, b3, b4⟩, ⟨t, t1, t2, t3⟩, ⟨u, u1, u2, u3⟩, ⟨tk, tv, k1, k2, k3, k4, k5, k6⟩, h5, h6, h7, h8, h9⟩ := h
  have al := hW.alike
  refine ⟨⟨b, b1, (b2.kept (hS.2.1 b b3 b4)).moved al, Nat.lt_of_lt_of_le b3 hS.1, fun q => b4 (hA _ q)⟩, ⟨t, t1, ((t2.kept hS.2.1).moved al).narrow hA, ((t3.kept hS.2.1).moved al).narrow hA⟩, ⟨u, u1, ((u2.kept hS.2.1).moved al).narrow hA, ((u3.kept hS.2.1).moved al).narrow hA⟩,
    ⟨tk, tv, k1, ((k2.kept hS.2.1).moved al).narrow hA, k3.warm hW, k4.warm hW, k5.warm hW, k6.warm hW⟩, ((h5.kept hS.2.1).moved al).narrow hA, ((h6.kept hS.2.1).moved al).narrow hA, fun a i x j q => (h7 a i x j q).warmM hW, h8.moved al, h9.moved al⟩
theorem Ext.same {SL : Nat} {sx : Nat → Int32} {xe : Nat → Value} {A : Nat → Prop} {u U : State} {H : Heap} (hv : u.vm = U.vm) (h : Ext SL sx xe A u H) : Ext SL sx xe A U H := by
  obtain ⟨⟨b, b1, b2, b3, b4⟩, ⟨t, t1, t2, t3⟩, ⟨v, u1, u2, u3⟩, ⟨tk, tv, k1, k2, k3, k4, k5, k6⟩, h5, h6, h7, h8, h9⟩ := h
  have al : u.vm.Alike U.vm := hv ▸ Vm.Alike.refl u.vm
  exact ⟨⟨b, b1, b2.moved al, b3, b4⟩, ⟨t, t1, t2.moved al, t3.moved al⟩, ⟨v, u1, u2.moved al, u3.moved al⟩, ⟨tk, tv, k1, k2.moved al, k3.same hv.symm, k4.same hv.symm, k5.same hv.symm, k6.same hv.symm⟩, h5.moved al, h6.moved al, fun a i x j q => va_Nw.same rfl hv (h7 a i x j q), h8.moved al, h9.moved al⟩
def szC : mC → Nat
  | .inl q => q.2.1
  | .inr o => o.2.length
def szG (G : mH) : Nat := (G.map szC).sum
