/-! A WHOLE RUN: what the small machine does, the great one does -/
def rOk (op : Instr) (r : Option Value) (rt : Option FieldType) : Prop :=
  (∃ v ty, r = some (.int v) ∧ op = .ireturn ∧ rt = some ty ∧ narrow ty (.int v) = .int v) ∨ (∃ a n, r = some (.ref a) ∧ op = .areturn ∧ rt = some (.object n) ∧ a < 1000) ∨ (r = none ∧ op = .return_ ∧ rt = none)
def RT (p : Program) (l : Launch) (e : Env) (R : Room) (s : State) (m : MethodId) (args : Array Value) (below : List Frame) (meth : Method) (c : Code) (Q : State → Prop) (D : va_G) (cA : Nat → ClassId) (xe : Nat → Value) (A : Nat → Prop) (k : Nat) (xa : Nat → Nat) (G : mH) (cells slots : Nat) (r : Option Value) (G' : mH) : Prop :=
  ∀ (xa' : Nat → Nat) (H' : Heap) (locs' : List Loc) (ls' : Array Slot) (cells' slots' pc' : Nat) (op : Instr), cells' = cells + (G'.length - G.length) → slots' = slots + (szG G' - szG G) → (∀ j, j < G.length → xa' j = xa j) → (G'.length = G.length → xa' = xa) → Wd D cA xe A s xa' G' H' locs' → decode (mCode k) pc' = .ok (op, 1) → rOk op r (mRet k) →
    W p l e R s m args below meth c H' locs' cells' slots' Q (F0 m pc' ls' (r.toList.map (mvv xa' xe)))
def Snd (l : Launch) (SL : Nat) (sx : Nat → Int32) (n : Nat) : Prop := ∀ (dep k pc : Nat) (L st : List Value) (G : mH) (r : Option Value) (G' : mH), dexec SL sx n dep k pc L st G = some (r, G') →
  ∀ (p : Program) (e : Env) (R : Room) (s : State) (m : MethodId) (args : Array Value) (below : List Frame) (meth : Method) (c : Code) (Q : State → Prop) (D : va_G) (cA : Nat → ClassId) (xe : Nat → Value) (A : Nat → Prop) (xa : Nat → Nat) (H : Heap) (locs : List Loc) (cells slots : Nat) (ls : Array Slot),
    Cx p R s m args meth c D cA xe A SL sx dep k → Wd D cA xe A s xa G H locs → lR xa xe ls (mMax k) L → (cells + (G'.length - G.length) ≤ R.cells ∧ slots + (szG G' - szG G) ≤ R.slots) → RT p l e R s m args below meth c Q D cA xe A k xa G cells slots r G' →
    W p l e R s m args below meth c H locs cells slots Q (F0 m pc ls (st.map (mvv xa xe)))
def wsM (k : Nat) : List Cond := Cond.code (mName k) (mCode k) (mMax k) (mRet k) :: lwG
theorem lwG_good {w : Cond} (h : w ∈ lwG) : w ∈ lwG ∧ ((w.onTables && w.keeps) = true ∨ ∃ ty, w = .arrayClass ty) := ⟨h, good_of_word (List.mem_filter.mp h).2⟩
theorem chkM_eq {k : Nat} (h : chkM k = true) : Cond.code (mName k) (mCode k) (mMax k) (mRet k) ∈ lwG ∧ Cond.initialized (mName k).cls ∈ lwG ∧ ((mName k).cls ≠ "java/lang/invoke/MethodHandle" ∧ (mName k).cls ≠ "java/lang/invoke/VarHandle") ∧ mMax k ≤ 40 ∧ Jvm.plainName (mName k).cls = true := by
  unfold chkM at h
  simp only [Bool.and_eq_true] at h
  obtain ⟨⟨⟨⟨⟨⟨h1, h2⟩, h3⟩, h4⟩, h5⟩, h6⟩, -⟩ := h
  exact ⟨lwG_mem (hasW_mem h1) rfl, lwG_mem (hasW_mem h2) rfl, ⟨of_decide_eq_true h3, of_decide_eq_true h4⟩, ble_l h5, h6⟩
theorem chkM_0 {k : Nat} (h : chkM k = true) (hk : mKind k = 0) : Cond.static (mName k) ∈ lwG ∧ (parseMethodDescriptor (mName k).desc).map (fun d => d.parameters.length) = some (mArgs k) := by
  unfold chkM at h
  rw [hk] at h
  simp only [Bool.and_eq_true] at h
  exact ⟨lwG_mem (hasW_mem h.2.1) rfl, of_decide_eq_true h.2.2⟩
theorem chkM_1 {k : Nat} (h : chkM k = true) (hk : mKind k = 1) : Cond.instanceMethod (mName k) ∈ lwG ∧ Cond.selects (mName k).cls (mName k) (mName k) ∈ lwG ∧ (parseMethodDescriptor (mName k).desc).map (fun d => d.parameters.length + 1) = some (mArgs k) ∧ ((Nat.beq (mCls k) 50 = true ∧ (mName k).cls = "java/lang/String") ∨ (Nat.beq (mCls k) 50 = false ∧ ∃ q : vw_C, vwCl[mCls k]? = some q ∧ q.1 = (mName k).cls)) := by
  unfold chkM at h
  rw [hk] at h
  simp only [Bool.and_eq_true] at h
  obtain ⟨-, ⟨⟨h1, h2⟩, h3⟩, h4⟩ := h
  refine ⟨lwG_mem (hasW_mem h1) rfl, lwG_mem (hasW_mem h2) rfl, of_decide_eq_true h3, ?_⟩
  cases hb : Nat.beq (mCls k) 50 with
  | true => rw [hb, cond_true] at h4; exact Or.inl ⟨rfl, of_decide_eq_true h4⟩
  | false =>
    rw [hb, cond_false] at h4
    obtain ⟨q, q1, q2⟩ := Option.map_eq_some_iff.mp (of_decide_eq_true h4)
    exact Or.inr ⟨rfl, q, q1, q2⟩
theorem chkM_2 {k : Nat} (h : chkM k = true) (hk : mKind k = 2) : Cond.instanceMethod (mName k) ∈ lwG ∧ (mName k).name = "<init>" ∧ mRet k = none ∧ (parseMethodDescriptor (mName k).desc).map (fun d => d.parameters.length + 1) = some (mArgs k) := by
  unfold chkM at h
  rw [hk] at h
  simp only [Bool.and_eq_true] at h
  obtain ⟨-, ⟨⟨h1, h2⟩, h3⟩, h4⟩ := h
  exact ⟨lwG_mem (hasW_mem h1) rfl, of_decide_eq_true h2, of_decide_eq_true h3, of_decide_eq_true h4⟩
theorem par_1 {d : String} {n : Nat} (h : (parseMethodDescriptor d).map (fun d => d.parameters.length + 1) = some n) : (parseMethodDescriptor d).map (fun d => d.parameters.length) = some (n - 1) ∧ 1 ≤ n := by
  obtain ⟨q, q1, q2⟩ := Option.map_eq_some_iff.mp h
  rw [q1]
  refine ⟨?_, by omega⟩
  show some _ = some _
  rw [← q2]; rfl
theorem good_wsM {k : Nat} (h : chkM k = true) : GoodIn lwG (wsM k) := by
  intro w hw
  rcases List.mem_cons.mp hw with rfl | hw
  · exact lwG_good (chkM_eq h).1
  · exact lwG_good hw
/-- the locals at a method's entry -/
theorem ent_args {xa : Nat → Nat} {xe : Nat → Value} (hx : xeOk xe) : ∀ (as : List Value) (i j : Nat) (u : Value), (wrds as)[j]? = some u → u ≠ .null → (i + j, mvv xa xe u) ∈ lv_args i (as.map (mvv xa xe)) := by
  intro as
  induction as with
  | nil => intro i j u h; simp [wrds] at h
  | cons v as ih =>
    intro i j u h hu
    show (i + j, mvv xa xe u) ∈ (i, mvv xa xe v) :: lv_args (if (mvv xa xe v).category = 2 then i + 2 else i + 1) (as.map (mvv xa xe))
    rw [mvv_cat hx]
    by_cases hc : v.category = 2
    · rw [if_pos hc]
      have e1 : wrds (v :: as) = v :: .null :: wrds as := by
        show wrd v (wrds as) = _
        unfold wrd
        rw [hc]; rfl
      rw [e1] at h
      match j, h with
      | 0, h => cases h; exact List.mem_cons_self
      | 1, h => cases h; exact absurd rfl hu
      | j + 2, h =>
        have := ih (i + 2) j u h hu
        rw [show i + 2 + j = i + (j + 2) by omega] at this
        exact List.mem_cons_of_mem _ this
    · rw [if_neg hc]
      have e1 : wrds (v :: as) = v :: wrds as := by
        show wrd v (wrds as) = _
        unfold wrd
        cases hb : Nat.beq v.category 2 with
        | true => exact absurd (Nat.eq_of_beq_eq_true hb) hc
        | false => rfl
      rw [e1] at h
      cases j with
      | zero => cases h; exact List.mem_cons_self
      | succ j =>
        have := ih (i + 1) j u h hu
        rw [show i + 1 + j = i + (j + 1) by omega] at this
        exact List.mem_cons_of_mem _ this
theorem wrds_len {xa : Nat → Nat} {xe : Nat → Value} (hx : xeOk xe) (as : List Value) : (lg_sl (as.map (mvv xa xe))).length = (wrds as).length := by
  induction as with
  | nil => rfl
  | cons v as ih =>
    show ((if (mvv xa xe v).category = 2 then [Slot.val (mvv xa xe v), .second] else [.val (mvv xa xe v)]) ++ lg_sl (as.map (mvv xa xe))).length = (wrd v (wrds as)).length
    rw [mvv_cat hx]
    unfold wrd
    by_cases hc : v.category = 2
    · rw [if_pos hc, hc, List.length_append, ih]
      show 2 + _ = _
      simp
      omega
    · rw [if_neg hc, List.length_append, ih]
      cases hb : Nat.beq v.category 2 with
      | true => exact absurd (Nat.eq_of_beq_eq_true hb) hc
      | false =>
        show 1 + _ = _
        simp
        omega
theorem lR_ent {xa : Nat → Nat} {xe : Nat → Value} (hx : xeOk xe) {as : List Value} {n : Nat} (h : (wrds as).length ≤ n) : lR xa xe ((lg_sl (as.map (mvv xa xe)) ++ List.replicate (n - (lg_sl (as.map (mvv xa xe))).length) Slot.unset).toArray) n (entL n as) := by
  have h1 := lv_entry (as.map (mvv xa xe)) (n := n) (by rw [wrds_len hx]; exact h)
  refine ⟨by unfold entL; simp; omega, h1.1, h1.2.1, ?_⟩
  rintro ⟨j, w⟩ hq
  obtain ⟨u, h2, h3, rfl⟩ := lvO_mem.mp hq
  unfold entL at h2
  have h4 : (wrds as)[j]? = some u := by
    rw [List.getElem?_append] at h2
    split at h2
    · exact h2
    · rw [List.getElem?_replicate] at h2
      split at h2
      · cases h2; exact absurd rfl h3
      · cases h2
  have h5 := ent_args (xa := xa) hx as 0 j u h4 h3
  rw [Nat.zero_add] at h5
  exact h1.2.2 _ h5
theorem wrds_rev (as : List Value) : (wrds as.reverse).length = (wrds as).length := by
  have h : ∀ l : List Value, (wrds l).length = (l.map fun v => bif Nat.beq v.category 2 then 2 else 1).sum := by
    intro l
    induction l with
    | nil => rfl
    | cons v l ih =>
      show (wrd v (wrds l)).length = _
      unfold wrd
      rw [List.map_cons, List.sum_cons, ← ih]
      cases Nat.beq v.category 2 <;> simp <;> omega
  rw [h, h, List.map_reverse, List.sum_reverse]
section SND
variable {l : Launch} {D : va_G} {cA : Nat → ClassId} {xe : Nat → Value} {SL : Nat} {sx : Nat → Int32}
/-- a method's start: the world holds G -/
def mPc (D : va_G) (cA : Nat → ClassId) (xe : Nat → Value) (SL : Nat) (sx : Nat → Int32) (xa : Nat → Nat) (G : mH) (sz : Nat) (as : List Value) : Array Value → State → Prop :=
  va_Pc (as.map (mvv xa xe)) (fun U => U.heap.size = sz ∧ va_P D vwCl (wsW cA xa xe G) U.heap ∧ va_K D vwCl (tysW cA) U ∧ va_D (fun _ => True) (wsW cA xa xe G) ∧ Ext SL sx xe (va_A (wsW cA xa xe G) sz) U U.heap)
/-- and its end: it holds G' -/
def mQc (D : va_G) (cA : Nat → ClassId) (xe : Nat → Value) (xa : Nat → Nat) (G : mH) (sz : Nat) (r : Option Value) (G' : mH) : Array Value → State → Outcome → State → Prop :=
  fun _ st oc t => (∃ xa' : Nat → Nat, (∀ j, j < G.length → xa' j = xa j) ∧ (G'.length = G.length → xa' = xa) ∧ oc = .returned (r.map (mvv xa' xe)) ∧ G'.length ≤ 1000 ∧ va_P D vwCl (wsW cA xa' xe G') t.heap ∧ va_D (va_A (wsW cA xa xe G) sz) (wsW cA xa' xe G')) ∧ va_F (va_A (wsW cA xa xe G) sz) st t
theorem mPc_blind {xa : Nat → Nat} {G : mH} {sz : Nat} {as : List Value} : FrameBlind (mPc D cA xe SL sx xa G sz as) := by
  intro a U g mk h
  obtain ⟨h1, h2, h3, h4, h5, h6⟩ := h
  exact ⟨h1, h2, h3, va_K.moved (u := U) (U := U.calling g mk a) (Vm.Alike.refl U.vm) h4, h5, Ext.same (u := U) (U := U.calling g mk a) rfl h6⟩
def rmM (d mc ms : Nat) : Room := { frames := d, cells := mc, slots := ms, locals := 64 * d }
theorem met_of {n d k : Nat} {as : List Value} {G G' : mH} {r : Option Value} (IH : Snd l SL sx n) (hxe : xeOk xe) (h : dexec SL sx n d k 0 (entL (mMax k) as) [] G = some (r, G')) (hw : (wrds as).length ≤ mMax k) (hG : G.length ≤ 1000) (hk : chkM k = true) (xa : Nat → Nat) (sz : Nat) :
    Met l (mName k) (wsM k) (rmM d (G'.length - G.length) (szG G' - szG G)) (mPc D cA xe SL sx xa G sz as) (mQc D cA xe xa G sz r G') (G'.length - G.length) (szG G' - szG G) (va_A (wsW cA xa xe G) sz) := by
  obtain ⟨m1, m2, m3, m4, m5⟩ := chkM_eq hk
  refine Met.ofW (cc := mCode k) (maxL := mMax k) (ret := mRet k) m5 rfl ?_
  intro p e s m args below meth c s₁ B hml hv
  obtain ⟨rfl, hsz, hP, hK, hD0, hE⟩ := hv
  have hts0 := atoms_spec (ws := wsM k) B.pre
  have hts : ∀ w ∈ lwG, w.before (as.map (mvv xa xe)).toArray s = true := fun w hw => hts0 w (List.mem_cons_of_mem _ hw)
  have hown : s.vm.findClass (mName k).cls = some m.cls := findClass_of_methodNamed B.named
  have hin : mKind k = 2 → meth.name = "<init>" := fun h2 => by rw [(name_of_methodNamed B.named B.method).1]; exact (chkM_2 hk h2).2.1
  subst hsz
  have hlocks := B.notSynchronized
  have hC : Cx p (rmM d (G'.length - G.length) (szG G' - szG G)) s m (as.map (mvv xa xe)).toArray meth c D cA xe (va_A (wsW cA xa xe G) s.heap.size) SL sx d k := ⟨⟨B.exec, B.bytes, B.returns, hlocks, hml, hown, hts, hin⟩, hK, hE, fun q hq => Or.inr hq, ⟨Nat.le_refl _, Nat.le_refl _⟩, hxe⟩
  rw [lg_entry_eq]
  refine IH d k 0 _ [] G r G' h p e (rmM d (G'.length - G.length) (szG G' - szG G)) s m _ below meth c _ D cA xe _ xa s.heap [] 0 0 _ hC ⟨hG, hP, hD0.self, va_S.rf⟩ (lR_ent hxe hw) ⟨by rw [Nat.zero_add]; exact Nat.le_refl _, by rw [Nat.zero_add]; exact Nat.le_refl _⟩ ?_
  intro xa' H' locs' ls' cells' slots' pc' op hc hs hx1 hx2 hW' hd hro
  rw [Nat.zero_add] at hc hs
  subst hc
  subst hs
  obtain ⟨w1, w2, w3, w4⟩ := hW'
  have hq : ∀ t : State, t.heap = H' → mQc D cA xe xa G s.heap.size r G' (as.map (mvv xa xe)).toArray s (.returned (r.map (mvv xa' xe))) t := fun t ht => ⟨⟨xa', hx1, hx2, rfl, w1, by rw [ht]; exact w2, w3⟩, w4.F ht⟩
  rcases hro with ⟨v, ty, rfl, rfl, hrt, hn⟩ | ⟨a, nm, rfl, rfl, hrt, ha⟩ | ⟨rfl, rfl, hrt⟩
  · exact W.zret (ty := ty) B.exec B.bytes (by rw [B.returns]; exact hrt) hn (fun t ht _ => hq t ht) w4.2.2 hd
  · exact W.aret (v := mvv xa' xe (.ref a)) (rt := .object nm) B.exec B.bytes (by rw [B.returns]; exact hrt) (Or.inl ⟨_, rfl⟩) (Or.inr ⟨_, mvv_own ha⟩) (fun t ht _ => hq t ht) w4.2.2 hd
  · exact W.vret B.exec B.bytes (by rw [B.returns]; exact hrt) (fun t ht _ => hq t ht) w4.2.2 hd
end SND
