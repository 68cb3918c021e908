/-! THE CLAIM OUT OF ONE WALK OF THE LAW'S BODY. Your part is whole_start (and what it stands on); all else here is the same for every law, but numbers. -/
def R_law : String := "DeckBenchLaw"
def lw_P (b : Addr) (xs : List Int32) (args : Array Value) (s : State) : Prop := args = #[.ref b] ∧ s.IntsAt b xs ∧ xs.length ≤ 3072 ∧ (Jvm.Cond.and given_1 narrow_1).before args s = true
def lw_Q (_ : Array Value) (s : State) (o : Outcome) (t : State) : Prop := o = .returned (some (.int 1)) ∧ Framed s o t [] 600000 7302250
def lw_Z (below : List Frame) (a : Array Value) (s : State) : State → Prop := fun t => ∃ o, t.status = .running ∧ Ended t below o ∧ lw_Q a s o t
/-- the law's own end, with 1 on the stack, nothing written that was there before, its room as the claim has it -/
theorem lw_ret {p : Program} {l : Launch} {e : Env} {s : State} {m : MethodId} {below : List Frame} {meth : Method} {c : Code} {b : Nat} (hx : p.tables.exec = Jvm.exec) (hb : c.code = code) (hr : meth.sig.returnType = ret) (hlocks : meth.locks = false) {pc : Nat} {H : Heap} {ls : Array Slot} (hdg : decode code pc = .ok (.ireturn, 1)) : W p l e room_1 s m #[Value.ref b] below meth c H [] 600000 7302250 (lw_Z below #[Value.ref b] s) (F0 m pc ls [.int 1]) := by
  intro T hT X
  obtain ⟨fs, hret, hrun, hended, hW, hframe⟩ := X.leave (v := some (.int 1)) (hlocks := hlocks) (fun h => by rw [hr] at h; cases h)
  have hmeth' : T.vm.method? m = some meth := X.method'
  refine ⟨T.setFrames fs, ?_, .returned (some (.int 1)), hrun, hended, rfl, ⟨_, rfl⟩, hW, hframe⟩
  jvm_step X.here [X.here.top, hx, hb, hdg, hmeth', hr, ret, narrow_b1]
  (try refine ⟨rfl, ?_⟩); (try refine ⟨rfl, ?_⟩)
  first | (intro acts; rw [hret _ acts rfl rfl rfl]) | rw [hret _ _ rfl rfl rfl]
  exact Steps.refl _
/-- what holds at the law's entry: the machine, the code, the tables' words (any of lw_tbl by 'hts w (by decide +kernel)'), the script of L ints xs at the cell b, what the Statement gives of the start (any of its parts by flat_of_before) -/
def lw_At (p : Program) (s : State) (m : MethodId) (meth : Method) (c : Code) (b L : Nat) (xs : Nat → Int32) : Prop :=
  p.tables.exec = Jvm.exec ∧ c.code = code ∧ meth.sig.returnType = ret ∧ c.maxLocals = 4 ∧ s.vm.findClass R_law = some m.cls ∧ (∀ w ∈ lw_tbl, w.before #[Value.ref b] s = true) ∧ va_X b L xs s s.heap ∧ b < s.heap.size ∧ meth.locks = false ∧ (Jvm.Cond.and given_1 narrow_1).before #[Value.ref b] s = true
def tmS (i : Nat) : Term := match i with
  | 0 => .string "DeckBench$TextReader" 63
  | 1 => .string "DeckBench$TextReader" 72
  | 2 => .string "DeckBench$TextReader" 130
  | _ => .string "DeckBenchModel" 153
def gvA : List Cond := flatC (Jvm.Cond.and given_1 narrow_1)
abbrev tFi : Term := .static "DeckBench$SmallNets" "FIRSTS" "[I"
abbrev tFo : Term := .static "DeckBench$SmallNets" "FORMS" "[I"
set_option maxRecDepth 100000 in
theorem gv_fi : ∀ j, j < 7 → Cond.eq (.elem tFi (.int (Int32.ofNat j))) (.int (sFirsts.getD j 0)) ∈ gvA := by decide +kernel
set_option maxRecDepth 100000 in
theorem gv_fo : ∀ j, j < 53 → Cond.eq (.elem tFo (.int (Int32.ofNat j))) (.int (sForms.getD j 0)) ∈ gvA := by decide +kernel
set_option maxRecDepth 100000 in
theorem gv_a : Cond.arrayOf tFi .int ∈ gvA ∧ Cond.eq (.length tFi) (.int (Int32.ofNat 7)) ∈ gvA ∧ Cond.arrayOf tFo .int ∈ gvA ∧ Cond.eq (.length tFo) (.int (Int32.ofNat 53)) ∈ gvA ∧ Cond.eq (.static "java/lang/String" "COMPACT_STRINGS" "Z") (.int 1) ∈ gvA ∧ Cond.isRef (.static "jdk/internal/util/Preconditions" "SIOOBE_FORMATTER" "Ljava/util/function/BiFunction;") ∈ gvA := by decide +kernel
set_option maxRecDepth 100000 in
theorem gv_s : ∀ i, i < 4 → Cond.exactly (tmS i) "java/lang/String" ∈ gvA ∧ Cond.eq (.field (tmS i) "java/lang/String" "coder" "B") (.int 0) ∈ gvA ∧ Cond.arrayOf (.field (tmS i) "java/lang/String" "value" "[B") .byte ∈ gvA ∧ Cond.eq (.length (.field (tmS i) "java/lang/String" "value" "[B")) (.int (Int32.ofNat (sLens.getD i 0))) ∈ gvA := by decide +kernel
set_option maxRecDepth 100000 in
theorem gv_b : ∀ i, i < 4 → ∀ j, j < sLens.getD i 0 → Cond.eq (.elem (.field (tmS i) "java/lang/String" "value" "[B") (.int (Int32.ofNat j))) (.int ((sTexts.getD i []).getD j 0)) ∈ gvA := by decide +kernel
set_option maxRecDepth 100000 in
theorem gv_n : ∀ i, i < 4 → ∀ j, j < 4 → i ≠ j → Cond.not (Cond.eq (tmS i) (tmS j)) ∈ gvA ∨ Cond.not (Cond.eq (tmS j) (tmS i)) ∈ gvA := by decide +kernel
theorem ls_fi : Cond.laysStatic "DeckBench$SmallNets" "FIRSTS" "[I" ∈ lw_tbl := hasW_mem (h := 901) (by decide +kernel)
theorem ls_fo : Cond.laysStatic "DeckBench$SmallNets" "FORMS" "[I" ∈ lw_tbl := hasW_mem (h := 903) (by decide +kernel)
theorem ls_cs : Cond.laysStatic "java/lang/String" "COMPACT_STRINGS" "Z" ∈ lw_tbl := hasW_mem (h := 487) (by decide +kernel)
theorem ls_si : Cond.laysStatic "jdk/internal/util/Preconditions" "SIOOBE_FORMATTER" "Ljava/util/function/BiFunction;" ∈ lw_tbl := hasW_mem (h := 503) (by decide +kernel)
theorem in_sn : Cond.initialized "DeckBench$SmallNets" ∈ lw_tbl := hasW_mem (h := 86) (by decide +kernel)
theorem in_st : Cond.initialized "java/lang/String" ∈ lw_tbl := hasW_mem (h := 91) (by decide +kernel)
theorem in_pr : Cond.initialized "jdk/internal/util/Preconditions" ∈ lw_tbl := hasW_mem (h := 93) (by decide +kernel)
theorem sr_0 : Cond.stringRef "DeckBench$TextReader" 63 "net" ∈ lw_tbl := hasW_mem (h := 473) (by decide +kernel)
theorem sr_1 : Cond.stringRef "DeckBench$TextReader" 72 "deck" ∈ lw_tbl := hasW_mem (h := 567) (by decide +kernel)
theorem sr_2 : Cond.stringRef "DeckBench$TextReader" 130 "card" ∈ lw_tbl := hasW_mem (h := 572) (by decide +kernel)
theorem sr_3 : Cond.stringRef "DeckBenchModel" 153 " net deck card " ∈ lw_tbl := hasW_mem (h := 1296) (by decide +kernel)
theorem ao_n : Cond.arrayOver (.object "DeckBench$Net") ∈ lw_tbl := hasW_mem (h := 106) (by decide +kernel)
theorem ao_d : Cond.arrayOver (.object "DeckBench$Deck") ∈ lw_tbl := hasW_mem (h := 108) (by decide +kernel)
theorem ib_0 : Cond.instantiable RX0 3 ∈ lw_tbl := hasW_mem (h := 212) (by decide +kernel)
theorem ib_1 : Cond.instantiable RX1 2 ∈ lw_tbl := hasW_mem (h := 288) (by decide +kernel)
theorem ib_2 : Cond.instantiable RX2 6 ∈ lw_tbl := hasW_mem (h := 161) (by decide +kernel)
theorem ib_3 : Cond.instantiable RX3 4 ∈ lw_tbl := hasW_mem (h := 129) (by decide +kernel)
theorem ib_4 : Cond.instantiable RX4 3 ∈ lw_tbl := hasW_mem (h := 110) (by decide +kernel)
theorem ib_5 : Cond.instantiable RX5 2 ∈ lw_tbl := hasW_mem (h := 220) (by decide +kernel)
theorem ib_6 : Cond.instantiable RX6 2 ∈ lw_tbl := hasW_mem (h := 167) (by decide +kernel)
theorem ib_7 : Cond.instantiable RX7 6 ∈ lw_tbl := hasW_mem (h := 280) (by decide +kernel)
theorem ib_8 : Cond.instantiable RX8 8 ∈ lw_tbl := hasW_mem (h := 246) (by decide +kernel)
theorem ib_9 : Cond.instantiable RX9 2 ∈ lw_tbl := hasW_mem (h := 148) (by decide +kernel)
theorem ib_10 : Cond.instantiable RX10 12 ∈ lw_tbl := hasW_mem (h := 334) (by decide +kernel)
theorem ib_11 : Cond.instantiable RX11 14 ∈ lw_tbl := hasW_mem (h := 98) (by decide +kernel)
theorem ib_12 : Cond.instantiable RX12 31 ∈ lw_tbl := hasW_mem (h := 1165) (by decide +kernel)
def xeS (b t u : Nat) (tk tv : Nat → Nat) (z : Value) (j : Nat) : Value :=
  if j = 0 then .ref b else if j = 1 then .ref t else if j = 2 then .ref u else if j < 10 then .ref (tv (j - 3)) else if j < 20 then .ref (tk (j - 10)) else z
theorem ext_of {s : State} {b SL : Nat} {sx : Nat → Int32} {args : Array Value} (hts : ∀ w ∈ lw_tbl, w.before args s = true) (hX : va_X b SL sx s s.heap) (hbl : b < s.heap.size) (hgv : (Jvm.Cond.and given_1 narrow_1).before args s = true) : ∃ xe, xeOk xe ∧ xe 0 = .ref b ∧ Ext SL sx xe (fun q => s.heap.size ≤ q) s s.heap := by
  have hs := flat_of_before _ hgv
  have hA : ∀ a : Nat, a < s.heap.size → ¬ (fun q => s.heap.size ≤ q) a := fun a h => Nat.not_le.mpr h
  obtain ⟨g1, g2, g3, g4, g5, g6⟩ := gv_a
  obtain ⟨t, ht, hT⟩ := va_Tof (tm := tFi) (ty := .int) (N := 7) (f := fun j => .int (sFirsts.getD j 0)) (by decide) (hs _ g1) (va_eqt (hs _ g2)) (fun j hj => va_eqt (hs _ (gv_fi j hj))) hA
  obtain ⟨u, hu, hU⟩ := va_Tof (tm := tFo) (ty := .int) (N := 53) (f := fun j => .int (sForms.getD j 0)) (by decide) (hs _ g3) (va_eqt (hs _ g4)) (fun j hj => va_eqt (hs _ (gv_fo j hj))) hA
  obtain ⟨tk, tv, hK, hKe⟩ := vk_Sof (tm := tmS) (len := sLens) (byt := sTexts) (N := 4) (by decide) (fun i hi => hs _ (gv_s i hi).1) (fun i hi => hs _ (gv_s i hi).2.1) (fun i hi => hs _ (gv_s i hi).2.2.1) (fun i hi => hs _ (gv_s i hi).2.2.2) (fun i hi j hj => hs _ (gv_b i hi j hj)) (fun i j hi hj hne => (gv_n i hi j hj hne).imp (hs _) (hs _)) hA
  have hz := va_Zqof (hts _ ls_si) (hts _ in_pr) (hs _ g6) hA
  obtain ⟨z, hz1, hz2⟩ : ∃ z : Value, va_Z "jdk/internal/util/Preconditions" "SIOOBE_FORMATTER" "Ljava/util/function/BiFunction;" z (fun q => s.heap.size ≤ q) s s.heap ∧ (z = .null ∨ ∃ q, z = .ref q) := by
    rcases hz with h | ⟨q, h⟩
    · exact ⟨_, h, Or.inl rfl⟩
    · exact ⟨_, h, Or.inr ⟨q, rfl⟩⟩
  refine ⟨xeS b t u tk tv z, ⟨fun j hj => ?_, fun j => ?_⟩, rfl, ⟨b, rfl, hX, hbl, Nat.not_le.mpr hbl⟩, ⟨t, rfl, va_Zof (hts _ ls_fi) (hts _ in_sn) ht hA, hT⟩, ⟨u, rfl, va_Zof (hts _ ls_fo) (hts _ in_sn) hu hA, hU⟩, ⟨tk, tv, fun i hi => ⟨?_, ?_⟩, hK, vk_R.of (hts _ sr_0) (Term.string_eval_of_vm rfl ▸ hKe 0 (by omega)), vk_R.of (hts _ sr_1) (hKe 1 (by omega)), vk_R.of (hts _ sr_2) (hKe 2 (by omega)), vk_R.of (hts _ sr_3) (hKe 3 (by omega))⟩, va_Zof (hts _ ls_cs) (hts _ in_st) (va_eqi (hs _ g5)) hA, hz1, fun a i x h hm => va_Nw.of rfl (hts _ hm), va_AO.of (hts _ ao_n), va_AO.of (hts _ ao_d)⟩
  · unfold xeS
    repeat' split
    all_goals first | exact ⟨_, rfl⟩ | omega
  · unfold xeS
    repeat' split
    all_goals first | exact Or.inr ⟨_, rfl⟩ | exact hz2
  · unfold xeS
    rw [if_neg (by omega), if_neg (by omega), if_neg (by omega), if_pos (by omega)]
    congr 2
    omega
  · unfold xeS
    rw [if_neg (by omega), if_neg (by omega), if_neg (by omega), if_neg (by omega), if_pos (by omega)]
    congr 2
    omega
theorem cls_of {s : State} {args : Array Value} (hts : ∀ w ∈ lw_tbl, w.before args s = true) : ∃ D : va_G, ∀ (k : Nat) (q : vw_C), vwCl[k]? = some q → u_Kn s q.1 q.2.1 q.2.2 (D.1 k) (D.2 k) := by
  have htG : ∀ w ∈ lwG, w.before args s = true := fun w hw => hts w (List.mem_filter.mp hw).1
  obtain ⟨cC0, iS0, hKn0⟩ := u_known (C := RX0) (T := TX0) (N := 3) (n := 3) htG (uws_of uw_0) (hts _ ib_0)
  obtain ⟨cC1, iS1, hKn1⟩ := u_known (C := RX1) (T := TX1) (N := 2) (n := 2) htG (uws_of uw_1) (hts _ ib_1)
  obtain ⟨cC2, iS2, hKn2⟩ := u_known (C := RX2) (T := TX2) (N := 6) (n := 6) htG (uws_of uw_2) (hts _ ib_2)
  obtain ⟨cC3, iS3, hKn3⟩ := u_known (C := RX3) (T := TX3) (N := 4) (n := 4) htG (uws_of uw_3) (hts _ ib_3)
  obtain ⟨cC4, iS4, hKn4⟩ := u_known (C := RX4) (T := TX4) (N := 3) (n := 3) htG (uws_of uw_4) (hts _ ib_4)
  obtain ⟨cC5, iS5, hKn5⟩ := u_known (C := RX5) (T := TX5) (N := 2) (n := 2) htG (uws_of uw_5) (hts _ ib_5)
  obtain ⟨cC6, iS6, hKn6⟩ := u_known (C := RX6) (T := TX6) (N := 2) (n := 2) htG (uws_of uw_6) (hts _ ib_6)
  obtain ⟨cC7, iS7, hKn7⟩ := u_known (C := RX7) (T := TX7) (N := 6) (n := 6) htG (uws_of uw_7) (hts _ ib_7)
  obtain ⟨cC8, iS8, hKn8⟩ := u_known (C := RX8) (T := TX8) (N := 8) (n := 8) htG (uws_of uw_8) (hts _ ib_8)
  obtain ⟨cC9, iS9, hKn9⟩ := u_known (C := RX9) (T := TX9) (N := 2) (n := 2) htG (uws_of uw_9) (hts _ ib_9)
  obtain ⟨cC10, iS10, hKn10⟩ := u_known (C := RX10) (T := TX10) (N := 12) (n := 12) htG (uws_of uw_10) (hts _ ib_10)
  obtain ⟨cC11, iS11, hKn11⟩ := u_known (C := RX11) (T := TX11) (N := 14) (n := 14) htG (uws_of uw_11) (hts _ ib_11)
  obtain ⟨cC12, iS12, hKn12⟩ := u_known (C := RX12) (T := TX12) (N := 31) (n := 31) htG (uws_of uw_12) (hts _ ib_12)
  refine ⟨(fun k => if k = 0 then cC0 else if k = 1 then cC1 else if k = 2 then cC2 else if k = 3 then cC3 else if k = 4 then cC4 else if k = 5 then cC5 else if k = 6 then cC6 else if k = 7 then cC7 else if k = 8 then cC8 else if k = 9 then cC9 else if k = 10 then cC10 else if k = 11 then cC11 else cC12, fun k => if k = 0 then iS0 else if k = 1 then iS1 else if k = 2 then iS2 else if k = 3 then iS3 else if k = 4 then iS4 else if k = 5 then iS5 else if k = 6 then iS6 else if k = 7 then iS7 else if k = 8 then iS8 else if k = 9 then iS9 else if k = 10 then iS10 else if k = 11 then iS11 else iS12), ?_⟩
  intro k q hq
  match k, hq with
  | 0, hq => cases hq; exact hKn0
  | 1, hq => cases hq; exact hKn1
  | 2, hq => cases hq; exact hKn2
  | 3, hq => cases hq; exact hKn3
  | 4, hq => cases hq; exact hKn4
  | 5, hq => cases hq; exact hKn5
  | 6, hq => cases hq; exact hKn6
  | 7, hq => cases hq; exact hKn7
  | 8, hq => cases hq; exact hKn8
  | 9, hq => cases hq; exact hKn9
  | 10, hq => cases hq; exact hKn10
  | 11, hq => cases hq; exact hKn11
  | 12, hq => cases hq; exact hKn12
  | k + 13, hq => simp [vwCl] at hq

theorem arr_of {s : State} {args : Array Value} (hts : ∀ w ∈ lw_tbl, w.before args s = true) : ∃ cA : Nat → ClassId, ∀ (k : Nat) (q : ClassId × FieldType), (tysW cA)[k]? = some q → ArrOfT s q.1 q.2 ∧ va_RA s q.1 q.2 := by
  have htG : ∀ w ∈ lwG, w.before args s = true := fun w hw => hts w (List.mem_filter.mp hw).1
  obtain ⟨c0, k0, m0, a0, b0, d0⟩ := Cond.arrayClass_spec (htG _ w_aint)
  obtain ⟨c1, k1, m1, a1, b1, d1⟩ := Cond.arrayClass_spec (htG _ w_abyte)
  obtain ⟨c2, k2, m2, a2, b2, d2⟩ := Cond.arrayClass_spec (htG _ w_along)
  obtain ⟨m3, c3, k3, f3, -, b3, d3, a3⟩ := Cond.arrayOver_spec (hts _ ao_n)
  obtain ⟨m4, c4, k4, f4, -, b4, d4, a4⟩ := Cond.arrayOver_spec (hts _ ao_d)
  refine ⟨fun k => if k = 0 then c0 else if k = 1 then c1 else if k = 2 then c2 else if k = 3 then c3 else c4, ?_⟩
  intro k q hq
  match k, hq with
  | 0, hq => cases hq; exact ⟨fun n z => ⟨fun k h => (by cases h), k0, b0, m0, d0⟩, a0⟩
  | 1, hq => cases hq; exact ⟨fun n z => ⟨fun k h => (by cases h), k1, b1, m1, d1⟩, a1⟩
  | 2, hq => cases hq; exact ⟨fun n z => ⟨fun k h => (by cases h), k2, b2, m2, d2⟩, a2⟩
  | 3, hq => cases hq; exact ⟨fun n z => ⟨fun k h => (by cases h), k3, b3, m3, d3⟩, k3, m3, b3, d3, f3, a3⟩
  | 4, hq => cases hq; exact ⟨fun n z => ⟨fun k h => (by cases h), k4, b4, m4, d4⟩, k4, m4, b4, d4, f4, a4⟩
  | k + 5, hq => simp [tysW] at hq
set_option maxHeartbeats 4000000 in
set_option maxRecDepth 100000 in
theorem whole_start {p : Program} {e : Env} {s : State} {m : MethodId} {below : List Frame} {meth : Method} {c : Code} (l : Launch) (hflags : l.flags = flags0) {b L : Nat} {xs : Nat → Int32} (hL : L ≤ 3072) (C0 : lw_At p s m meth c b L xs) : W p l e room_1 s m #[Value.ref b] below meth c s.heap [] 0 0 (lw_Z below #[Value.ref b] s) (entryFrame m ([Value.ref b] : List Value).toArray 4) := by
  obtain ⟨hx, hb, hr, hml, hown, hts, hX, hbl, hlocks, hgv⟩ := id C0
  obtain ⟨xe, hxe, hx0, hE⟩ := ext_of hts hX hbl hgv
  obtain ⟨D, hD⟩ := cls_of hts
  obtain ⟨cA, hcA⟩ := arr_of hts
  obtain ⟨n, G', hrun, hg1, hg2⟩ := law_runs L xs hL
  have hC : Cx p room_1 s m #[Value.ref b] meth c D cA xe (fun q => s.heap.size ≤ q) L xs 100 0 := ⟨⟨hx, hb, hr, hlocks, hml, hown, fun w hw => hts w (List.mem_filter.mp hw).1, fun h => by cases h⟩, ⟨hD, hcA⟩, hE, fun _ h => h, ⟨by decide, by decide⟩, hxe⟩
  have e0 : ([Value.ref 1000] : List Value).map (mvv (fun _ => 0) xe) = [Value.ref b] := by
    show [mvv _ xe (.ref 1000)] = _
    rw [mvv_out (Nat.le_refl _)]
    exact congrArg (fun v => [v]) hx0
  have hle := lR_ent (xa := fun _ => 0) (as := [.ref 1000]) (n := 4) hxe (by decide)
  rw [e0] at hle
  rw [lg_entry_eq]
  refine sound l L xs n 100 0 0 _ [] [] _ G' hrun p e room_1 s m _ below meth c _ D cA xe _ (fun _ => 0) s.heap [] 0 0 _ hC ⟨by simp, fun k q h => by simp [wsW] at h, ⟨fun i j p q h => by simp [wsW] at h, fun k q h => by simp [wsW] at h⟩, va_S.rf⟩ hle ⟨?_, ?_⟩ ?_
  · show 0 + (G'.length - 0) ≤ 600000
    omega
  · show 0 + (szG G' - 0) ≤ 7302250
    omega
  intro xa' H' locs' ls' cells' slots' pc' op hc hs hx1 hx2 hW' hd hro
  obtain ⟨-, -, -, w4⟩ := hW'
  have hop : op = .ireturn := by
    rcases hro with ⟨v, ty, -, h, -⟩ | ⟨a, nm, h, -⟩ | ⟨h, -⟩
    · exact h
    · cases h
    · cases h
  subst hop
  refine va_forget (fun q hq => w4.2.2 q hq) ?_
  refine W.widen (k := 600000) (n := 7302250) ?_ ?_ ?_
  · rw [hc]
    show 0 + (G'.length - 0) ≤ 600000
    omega
  · rw [hs]
    show 0 + (szG G' - 0) ≤ 7302250
    omega
  exact lw_ret hx hb hr hlocks hd
set_option maxHeartbeats 4000000 in
theorem lw_walk (l : Launch) (hflags : l.flags = flags0) (b : Addr) (xs : List Int32) : MetFree l x (headSpec (Jvm.Cond.code x code maxLocals ret :: tables_1) room_1) (lw_P b xs) (fun _ _ _ _ _ => True) lw_Q := by
  refine MetFree.of_bodyS (code := code) (maxLocals := maxLocals) (ret := ret) (by decide) ?_ ?_
  · intro args s m h hn
    obtain ⟨meth, c, h1, h2, h3, h4, h5, h6, -, -⟩ := Cond.code_spec hn (atoms_spec (ws := Jvm.Cond.code x code maxLocals ret :: tables_1) h _ List.mem_cons_self)
    exact ⟨meth, c, h1, h2, h3, h4, h5, h6⟩
  · intro p e s m args below meth c s₁ B hml0 hP _
    obtain ⟨rfl, hx, hbd, hgv⟩ := hP
    obtain ⟨scr, harrAt, hlist, hof, hsmall⟩ := hx
    obtain ⟨hcb, hkn, -, -⟩ := State.arrayAt?_spec harrAt
    have hown : s.vm.findClass R_law = some m.cls := findClass_of_methodNamed B.named
    have hts0 : ∀ c ∈ (Jvm.Cond.code x code maxLocals ret :: tables_1), c.before #[Value.ref b] s = true := atoms_spec (ws := Jvm.Cond.code x code maxLocals ret :: tables_1) B.pre
    have hts : ∀ w ∈ lw_tbl, w.before #[Value.ref b] s = true := k2_hts_sels lw_privs (fun w hw => hts0 w (List.mem_cons_of_mem _ hw)) lw_privs_ok
    have hml : c.maxLocals = 4 := B.maxLocals_eq (hts0 _ List.mem_cons_self)
    have X₀ : Stand p l e room_1 s m #[Value.ref b] below meth c s₁ [] 0 0 := Stand.of_body B
    have hh0 : s₁.heap = s.heap := by rw [B.state]; rfl
    have hsz : scr.slots.size = xs.length := by rw [← Array.length_toList, hlist, List.length_map]
    have hval : ∀ j : Nat, j < xs.length → scr.slots[j]? = some (.int (xs.getD j 0)) := fun j hj => by
      rw [← Array.getElem?_toList, hlist]
      simp [hj]
    have hbl : b < s.heap.size := (Array.getElem?_eq_some_iff.mp hcb).1
    have hX : va_X b xs.length (fun j => xs.getD j 0) s s.heap := ⟨scr, hcb, hof, hkn, hsz, hval⟩
    have K : W p l e room_1 s m #[Value.ref b] below meth c s₁.heap [] 0 0 (lw_Z below #[Value.ref b] s) (entryFrame m ([Value.ref b] : List Value).toArray 4) := by
      rw [hh0]
      exact whole_start l hflags hbd ⟨B.exec, B.bytes, B.returns, hml, hown, hts, hX, hbl, B.notSynchronized, hgv⟩
    obtain ⟨t, a1, o, b1, b2, b3⟩ := K s₁ rfl X₀
    exact ⟨t, o, a1, b1, b2, b3⟩
theorem lw_pre_spec {args : Array Value} {s : State} (h : (Jvm.Cond.and given_1 narrow_1).before args s = true) (hr : rest_1_c.before args s = true) : ∃ (b : Addr) (xs : List Int32), lw_P b xs args s := by
  have hs := flat_of_before _ h
  have hq := flat_of_before _ hr
  have hc : (Cond.count 1).before args s = true := hs _ (by decide +kernel)
  have harr : (Cond.arrayOf (.arg 0) .int).before args s = true := hs _ (by decide +kernel)
  have hle : (Cond.le (.length (.arg 0)) (.int 3072)).before args s = true := hs _ (by decide +kernel)
  have hlen : (Cond.isInt (.length (.arg 0))).before args s = true := hq _ (by decide +kernel)
  have hall : (Cond.all (.arg 0) (.isInt (.elem (.arg 0) (.index 0)))).before args s = true := hq _ (by decide +kernel)
  obtain ⟨b, xs, hb, hx⟩ := State.ints_of_pre rfl harr hlen hall
  have hsm : xs.length < 2 ^ 31 := hx.choose_spec.2.2.2
  have hev : (Term.length (.arg 0)).eval args s none [] s = some (.int xs.length.toInt32) := hx.length_eval hb
  have hv := Cond.le_ints hev (show (Term.int 3072).eval args s none [] s = some (.int 3072) from rfl)
  have hd : xs.length.toInt32 ≤ 3072 := by
    simpa [Cond.before, Cond.holds, hv] using hle
  have hN : xs.length ≤ 3072 := (Int32.ofNat_le_ofNat hsm (by decide)).mp (show Int32.ofNat xs.length ≤ Int32.ofNat 3072 from hd)
  exact ⟨b, xs, Cond.one_arg hc (show args[0]? = some (.ref b) from hb), hx, hN, h⟩
theorem lw_comes (l : Launch) (hflags : l.flags = flags0) : Comes l x (Jvm.Cond.code x code maxLocals ret :: tables_1) room_1 (fun tb e args s => Calls_1 tb e args s ∧ rest_1 tb e args s ∧ Pre_1 tb e args s)
    (fun _ _ args s o t => lw_Q args s o t) := by
  intro p e ha hc hk s m args below hf hfit hheap happ hpre
  obtain ⟨b, xs, hP⟩ := lw_pre_spec hpre.2.2 hpre.2.1
  obtain ⟨k, o, h1, h2, h3, hQ⟩ := lw_walk l hflags b xs p e ha hc hk s m args below hf ((Spec.applies_iff_loose hf).mp happ).1 hP trivial
  exact ⟨k, o, h1, h2, h3, hQ⟩
theorem lw_frame {s t : State} {o : Outcome} {args : Array Value} (h : Framed s o t [] 600000 7302250) :
    Framed s o t (fieldLocs frame_1_writes args s ++ arrayLocs frame_1_arrays args s ++ staticLocs frame_1_statics s) 600000 7302250 := h
theorem lw_limb (L : Cond) (hL : ∀ (args : Array Value) (s t : State), L.after args s (.returned (some (.int 1))) t = true) :
    ArmFor flags0 classFile x code maxLocals ret World_1 tables_1 room_1 Calls_1 rest_1 Pre_1
      (fun tb e a s o t => postC L tb e a s o t ∧ Framed s o t (fieldLocs frame_1_writes a s ++ arrayLocs frame_1_arrays a s ++ staticLocs frame_1_statics s) 600000 7302250) := by
  intro l hflags _ _ p e ha hc hk s m args below hf hfit hheap happ hpre
  obtain ⟨k, o, h1, h2, h3, rfl, hF⟩ := lw_comes l hflags p e ha hc hk s m args below hf hfit hheap happ hpre
  exact ⟨k, _, h1, h2, h3, hL args s _, lw_frame hF⟩
theorem i_vc : Claimed_1_1 ∧ Claimed_1_2 := ⟨lw_limb limb_1_1 (fun args s t => by simp [limb_1_1, Cond.after, Cond.holds, Cond.value]), lw_limb limb_1_2 (fun args s t => Cond.after_iff.mpr (by
  first | (rw [show limb_1_2 = Cond.eq .result (.int 1) from rfl, Cond.eq_ints (x := 1) (y := 1) rfl rfl]; simp; done) | (simp [limb_1_2, Cond.value, Term.eval]; done)))⟩
