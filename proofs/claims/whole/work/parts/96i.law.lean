/-! the law: its cases -/
theorem V_scr {S : mScr} {dep k pc nx aux j : Nat} {L st : List Value} {h : Hp} {Q : Option Value → Hp → Prop} (hp : prog k pc = some (.iaload, nx, aux)) (hj : j < S.1) (hS : S.1 ≤ 3072) (kk : V S dep k nx L (.int (S.2 j) :: st) h Q) : V S dep k pc L (.int (nI j) :: .ref 1000 :: st) h Q := by
  have e : (nI j).toNatClampNeg = j := nI_clamp (by omega)
  refine V_xald (n := S.1) (f := S.2) hp rfl (by decide) (inB_nI (nI_le (a := 0) (b := j) (Nat.zero_le _) (by omega)) (by rw [e]; exact hj)) ?_
  rw [e]
  exact kk
theorem InvM.fx {h h' : Hp} {st : St} (hi : InvM h st) (f : FX h h') : InvM h' st := by
  obtain ⟨a0, b0, a1, a2, a3, a4, a5, a6, a7, a8⟩ := hi
  have e : ∀ b, 188 ≤ b → h'.1 b = h.1 b := fun b hb => (f b hb).1
  have e0 := e 188 (by omega)
  exact ⟨fun k hk => by rw [e 189 (by omega)]; exact a0 k hk, b0, a1.eq (by rw [e0]) (e 191 (by omega)), fun i hi => by rw [e 194 (by omega)]; exact a2 i hi, by rw [e0]; exact a3, a4, by rw [e0]; exact a5, a6, by rw [e0]; exact a7, a8.eq (by rw [e0]) (by rw [e0]) (e 198 (by omega)) (e 199 (by omega))⟩
theorem InvX.fm {h h' : Hp} {st : St} (hi : InvX h st) (f : FM h h') : InvX h' st := by
  obtain ⟨a1, a2, a3, a4, a5, a6, a7, a8, a9, a10⟩ := hi
  have e : ∀ b, b < 188 → h'.1 b = h.1 b := fun b hb => (f b hb).1
  have e0 := e 0 (by omega)
  have dk : ∀ {a cs}, a + 1 < 188 → DK h a cs → DK h' a cs := fun ha hD => ⟨hD.1, hD.2.1, by rw [e _ (by omega)]; exact hD.2.2.1, fun i hi => by rw [e _ ha]; exact hD.2.2.2.1 i hi, hD.2.2.2.2⟩
  refine ⟨⟨fun i hi => ?_, fun d hd => dk (by omega) (a1.2 d hd)⟩, a2, ?_, fun i hi => by rw [e 3 (by omega)]; exact a4 i hi, by rw [e0]; exact a5, a6, by rw [e0]; exact a7, a8, by rw [e0]; exact a9, ?_⟩
  · obtain ⟨⟨x1, x2, x3, x4, x5⟩, x6⟩ := a1.1 i hi
    exact ⟨⟨x1, x2, by rw [e _ (by omega)]; exact x3, fun v hv => by rw [e _ (by omega)]; exact x4 v hv, x5⟩, x6⟩
  · obtain ⟨b1, b2, b3, p, b4, b5, b6⟩ := a3
    exact ⟨b1, b2, by rw [e 4 (by omega)]; exact b3, p, b4, by rw [e 4 (by omega)]; exact b5, b6.fr st.2.1 p st.1 b4 (fun q _ _ j _ => by rw [e 5 (by omega)]) b1 b2⟩
  · rcases a10 with z | ⟨z1, z2⟩
    · exact Or.inl (by rw [e 33 (by omega)]; exact z)
    · exact Or.inr ⟨by rw [e 33 (by omega)]; exact z1, fun i h1 h2 => dk (by omega) (z2 i h1 h2)⟩
theorem nar_b (x : Int32) : byB (vp_nar .byte x) := by
  have e : vp_nar .byte x = x.toInt8.toInt32 := rfl
  unfold byB
  rw [e, Int8.toInt_toInt32]
  have h1 := Int8.le_toInt x.toInt8
  have h2 := Int8.toInt_lt x.toInt8
  omega
theorem bt_feed {st : St} {a b c d e : Int32} (hB : BT st.2.2.1) : BT (aFeed st a b c d e).2.2.2.1 := by
  unfold aFeed
  split
  · exact hB
  · intro i hi
    show byB (if _ then _ else _)
    split
    · unfold fdv byt; exact nar_b _
    · exact hB i hi
theorem bt_tell {st : St} {x : Int32} (hB : BT st.2.2.1) : BT (aTell st x).2.2.2.1 := by
  unfold aTell
  repeat' split
  all_goals exact hB
theorem bt_join {st : St} {x a b : Int32} (hB : BT st.2.2.1) : BT (aJoin st x a b).2.2.2.1 := by
  unfold aJoin
  repeat' split
  all_goals exact hB
theorem bt_grow {st : St} {x y : Int32} (hB : BT st.2.2.1) : BT (aGrow st x y).2.2.2.1 := by
  unfold aGrow
  repeat' split
  all_goals exact hB
theorem bt_drop {st : St} {x y : Int32} (hB : BT st.2.2.1) : BT (aDrop st x y).2.2.2.1 := by
  unfold aDrop
  repeat' split
  all_goals exact hB
theorem bt_turn {st : St} {x y : Int32} (hB : BT st.2.2.1) : BT (aTurn st x y).2.2.2.1 := by
  unfold aTurn
  repeat' split
  all_goals exact hB
theorem bt_put {st : St} {x y : Int32} (hB : BT st.2.2.1) : BT (aPut st x y).2.2.2.1 := by
  unfold aPut
  repeat' split
  all_goals exact hB
theorem bt_deal {st : St} {x y : Int32} (hB : BT st.2.2.1) : BT (aDeal st x y).2.2.2.1 := by
  unfold aDeal
  repeat' split
  all_goals exact hB
theorem bt_repl {st : St} {x y z : Int32} (hB : BT st.2.2.1) : BT (aRepl st x y z).2.2.2.1 := by
  unfold aRepl
  repeat' split
  all_goals exact hB
theorem bt_solv {st : St} {x y : Int32} (hB : BT st.2.2.1) : BT (aSolv st x y).2.2.2.1 := by
  unfold aSolv
  repeat' split
  all_goals exact hB
theorem bt_undo {st : St} (hB : BT st.2.2.1) : BT (aUndo st ).2.2.2.1 := by
  unfold aUndo
  repeat' split
  all_goals exact hB
theorem lw_c0 {S : mScr} {i : Nat} {st : St} {h : Hp} {Q : Option Value → Hp → Prop} (hS : S.1 ≤ 3072) (hi : i + 6 ≤ S.1) (iX : InvX h st) (iM : InvM h st) (hB : BT st.2.2.1) (next : ∀ st' h', InvX h' st' → InvM h' st' → BT st'.2.2.1 → V S 100 0 1296 [.ref 1000, .ref 0, .ref 188, .int (nI i)] [] h' Q) : V S 100 0 184 [.ref 1000, .ref 0, .ref 188, .int (nI i)] [] h Q := by
  refine V_aload_n rfl rfl (by first | assumption | rfl) ?_
  refine V_aload_n rfl rfl (by first | assumption | rfl) ?_
  refine V_iload_n rfl rfl ?_
  refine V_ic (v := nI 1) rfl rfl ?_
  refine V_iadd rfl ?_
  -- at 189: .iaload
  rw [nI_add]
  refine V_scr rfl (by omega) hS ?_
  refine V_aload_n rfl rfl (by first | assumption | rfl) ?_
  refine V_iload_n rfl rfl ?_
  refine V_ic (v := nI 2) rfl rfl ?_
  refine V_iadd rfl ?_
  -- at 194: .iaload
  rw [nI_add]
  refine V_scr rfl (by omega) hS ?_
  refine V_aload_n rfl rfl (by first | assumption | rfl) ?_
  refine V_iload_n rfl rfl ?_
  refine V_ic (v := nI 3) rfl rfl ?_
  refine V_iadd rfl ?_
  -- at 199: .iaload
  rw [nI_add]
  refine V_scr rfl (by omega) hS ?_
  refine V_aload_n rfl rfl (by first | assumption | rfl) ?_
  refine V_iload_n rfl rfl ?_
  refine V_ic (v := nI 4) rfl rfl ?_
  refine V_iadd rfl ?_
  -- at 204: .iaload
  rw [nI_add]
  refine V_scr rfl (by omega) hS ?_
  refine V_aload_n rfl rfl (by first | assumption | rfl) ?_
  refine V_iload_n rfl rfl ?_
  refine V_ic (v := nI 5) rfl rfl ?_
  refine V_iadd rfl ?_
  -- at 209: .iaload
  rw [nI_add]
  refine V_scr rfl (by omega) hS ?_
  refine V_callV rfl rfl (by first | assumption | rfl) rfl rfl (x_feed (dep := 79) iX) ?_
  rintro _ h1 ⟨rfl, iX1, fx⟩
  have iM1 := iM.fx fx
  show V S 100 0 213 [.ref 1000, .ref 0, .ref 188, .int (nI i)] [.int _] h1 _
  refine V_aload_n rfl rfl (by first | assumption | rfl) ?_
  refine V_aload_n rfl rfl (by first | assumption | rfl) ?_
  refine V_iload_n rfl rfl ?_
  refine V_ic (v := nI 1) rfl rfl ?_
  refine V_iadd rfl ?_
  -- at 218: .iaload
  rw [nI_add]
  refine V_scr rfl (by omega) hS ?_
  refine V_aload_n rfl rfl (by first | assumption | rfl) ?_
  refine V_iload_n rfl rfl ?_
  refine V_ic (v := nI 2) rfl rfl ?_
  refine V_iadd rfl ?_
  -- at 223: .iaload
  rw [nI_add]
  refine V_scr rfl (by omega) hS ?_
  refine V_aload_n rfl rfl (by first | assumption | rfl) ?_
  refine V_iload_n rfl rfl ?_
  refine V_ic (v := nI 3) rfl rfl ?_
  refine V_iadd rfl ?_
  -- at 228: .iaload
  rw [nI_add]
  refine V_scr rfl (by omega) hS ?_
  refine V_aload_n rfl rfl (by first | assumption | rfl) ?_
  refine V_iload_n rfl rfl ?_
  refine V_ic (v := nI 4) rfl rfl ?_
  refine V_iadd rfl ?_
  -- at 233: .iaload
  rw [nI_add]
  refine V_scr rfl (by omega) hS ?_
  refine V_aload_n rfl rfl (by first | assumption | rfl) ?_
  refine V_iload_n rfl rfl ?_
  refine V_ic (v := nI 5) rfl rfl ?_
  refine V_iadd rfl ?_
  -- at 238: .iaload
  rw [nI_add]
  refine V_scr rfl (by omega) hS ?_
  refine V_callV rfl rfl (by first | assumption | rfl) rfl rfl (y_feed (dep := 79) iM1) ?_
  rintro _ h2 ⟨rfl, iM2, fm⟩
  have iX2 := iX1.fm fm
  refine V_icmp_eq rfl (fun hc => ?_) (fun hc => ?_)
  · exact next _ _ iX2 iM2 (bt_feed hB)
  · exact absurd rfl hc
theorem lw_c1 {S : mScr} {i : Nat} {st : St} {h : Hp} {Q : Option Value → Hp → Prop} (hS : S.1 ≤ 3072) (hi : i + 6 ≤ S.1) (iX : InvX h st) (iM : InvM h st) (hB : BT st.2.2.1) (next : ∀ st' h', InvX h' st' → InvM h' st' → BT st'.2.2.1 → V S 100 0 1296 [.ref 1000, .ref 0, .ref 188, .int (nI i)] [] h' Q) : V S 100 0 247 [.ref 1000, .ref 0, .ref 188, .int (nI i)] [] h Q := by
  refine V_aload_n rfl rfl (by first | assumption | rfl) ?_
  refine V_aload_n rfl rfl (by first | assumption | rfl) ?_
  refine V_iload_n rfl rfl ?_
  refine V_ic (v := nI 1) rfl rfl ?_
  refine V_iadd rfl ?_
  -- at 252: .iaload
  rw [nI_add]
  refine V_scr rfl (by omega) hS ?_
  refine V_callV rfl rfl (by first | assumption | rfl) rfl rfl (x_tell (dep := 79) iX) ?_
  rintro _ h1 ⟨rfl, iX1, fx⟩
  have iM1 := iM.fx fx
  show V S 100 0 256 [.ref 1000, .ref 0, .ref 188, .int (nI i)] [.int _] h1 _
  refine V_aload_n rfl rfl (by first | assumption | rfl) ?_
  refine V_aload_n rfl rfl (by first | assumption | rfl) ?_
  refine V_iload_n rfl rfl ?_
  refine V_ic (v := nI 1) rfl rfl ?_
  refine V_iadd rfl ?_
  -- at 261: .iaload
  rw [nI_add]
  refine V_scr rfl (by omega) hS ?_
  refine V_callV rfl rfl (by first | assumption | rfl) rfl rfl (y_tell (dep := 79) hB iM1) ?_
  rintro _ h2 ⟨rfl, iM2, fm⟩
  have iX2 := iX1.fm fm
  refine V_icmp_eq rfl (fun hc => ?_) (fun hc => ?_)
  · exact next _ _ iX2 iM2 (bt_tell hB)
  · exact absurd rfl hc
theorem lw_c2 {S : mScr} {i : Nat} {st : St} {h : Hp} {Q : Option Value → Hp → Prop} (hS : S.1 ≤ 3072) (hi : i + 6 ≤ S.1) (iX : InvX h st) (iM : InvM h st) (hB : BT st.2.2.1) (next : ∀ st' h', InvX h' st' → InvM h' st' → BT st'.2.2.1 → V S 100 0 1296 [.ref 1000, .ref 0, .ref 188, .int (nI i)] [] h' Q) : V S 100 0 270 [.ref 1000, .ref 0, .ref 188, .int (nI i)] [] h Q := by
  refine V_aload_n rfl rfl (by first | assumption | rfl) ?_
  refine V_aload_n rfl rfl (by first | assumption | rfl) ?_
  refine V_iload_n rfl rfl ?_
  refine V_ic (v := nI 1) rfl rfl ?_
  refine V_iadd rfl ?_
  -- at 275: .iaload
  rw [nI_add]
  refine V_scr rfl (by omega) hS ?_
  refine V_callV rfl rfl (by first | assumption | rfl) rfl rfl (x_fault (dep := 79) iX) ?_
  rintro _ h1 ⟨rfl, iX1, fx⟩
  have iM1 := iM.fx fx
  show V S 100 0 279 [.ref 1000, .ref 0, .ref 188, .int (nI i)] [.int _] h1 _
  refine V_aload_n rfl rfl (by first | assumption | rfl) ?_
  refine V_aload_n rfl rfl (by first | assumption | rfl) ?_
  refine V_iload_n rfl rfl ?_
  refine V_ic (v := nI 1) rfl rfl ?_
  refine V_iadd rfl ?_
  -- at 284: .iaload
  rw [nI_add]
  refine V_scr rfl (by omega) hS ?_
  refine V_callV rfl rfl (by first | assumption | rfl) rfl rfl (y_fault (dep := 79) iM1) ?_
  rintro _ h2 ⟨rfl, iM2, fm⟩
  have iX2 := iX1.fm fm
  refine V_icmp_eq rfl (fun hc => ?_) (fun hc => ?_)
  · exact next _ _ iX2 iM2 hB
  · exact absurd rfl hc
theorem lw_c3 {S : mScr} {i : Nat} {st : St} {h : Hp} {Q : Option Value → Hp → Prop} (hS : S.1 ≤ 3072) (hi : i + 6 ≤ S.1) (iX : InvX h st) (iM : InvM h st) (hB : BT st.2.2.1) (next : ∀ st' h', InvX h' st' → InvM h' st' → BT st'.2.2.1 → V S 100 0 1296 [.ref 1000, .ref 0, .ref 188, .int (nI i)] [] h' Q) : V S 100 0 293 [.ref 1000, .ref 0, .ref 188, .int (nI i)] [] h Q := by
  refine V_aload_n rfl rfl (by first | assumption | rfl) ?_
  refine V_aload_n rfl rfl (by first | assumption | rfl) ?_
  refine V_iload_n rfl rfl ?_
  refine V_ic (v := nI 1) rfl rfl ?_
  refine V_iadd rfl ?_
  -- at 298: .iaload
  rw [nI_add]
  refine V_scr rfl (by omega) hS ?_
  refine V_aload_n rfl rfl (by first | assumption | rfl) ?_
  refine V_iload_n rfl rfl ?_
  refine V_ic (v := nI 2) rfl rfl ?_
  refine V_iadd rfl ?_
  -- at 303: .iaload
  rw [nI_add]
  refine V_scr rfl (by omega) hS ?_
  refine V_aload_n rfl rfl (by first | assumption | rfl) ?_
  refine V_iload_n rfl rfl ?_
  refine V_ic (v := nI 3) rfl rfl ?_
  refine V_iadd rfl ?_
  -- at 308: .iaload
  rw [nI_add]
  refine V_scr rfl (by omega) hS ?_
  refine V_callV rfl rfl (by first | assumption | rfl) rfl rfl (x_join (dep := 79) iX) ?_
  rintro _ h1 ⟨rfl, iX1, fx⟩
  have iM1 := iM.fx fx
  show V S 100 0 312 [.ref 1000, .ref 0, .ref 188, .int (nI i)] [.int _] h1 _
  refine V_aload_n rfl rfl (by first | assumption | rfl) ?_
  refine V_aload_n rfl rfl (by first | assumption | rfl) ?_
  refine V_iload_n rfl rfl ?_
  refine V_ic (v := nI 1) rfl rfl ?_
  refine V_iadd rfl ?_
  -- at 317: .iaload
  rw [nI_add]
  refine V_scr rfl (by omega) hS ?_
  refine V_aload_n rfl rfl (by first | assumption | rfl) ?_
  refine V_iload_n rfl rfl ?_
  refine V_ic (v := nI 2) rfl rfl ?_
  refine V_iadd rfl ?_
  -- at 322: .iaload
  rw [nI_add]
  refine V_scr rfl (by omega) hS ?_
  refine V_aload_n rfl rfl (by first | assumption | rfl) ?_
  refine V_iload_n rfl rfl ?_
  refine V_ic (v := nI 3) rfl rfl ?_
  refine V_iadd rfl ?_
  -- at 327: .iaload
  rw [nI_add]
  refine V_scr rfl (by omega) hS ?_
  refine V_callV rfl rfl (by first | assumption | rfl) rfl rfl (y_join (dep := 79) iM1) ?_
  rintro _ h2 ⟨rfl, iM2, fm⟩
  have iX2 := iX1.fm fm
  refine V_icmp_eq rfl (fun hc => ?_) (fun hc => ?_)
  · exact next _ _ iX2 iM2 (bt_join hB)
  · exact absurd rfl hc
theorem lw_c4 {S : mScr} {i : Nat} {st : St} {h : Hp} {Q : Option Value → Hp → Prop} (hS : S.1 ≤ 3072) (hi : i + 6 ≤ S.1) (iX : InvX h st) (iM : InvM h st) (hB : BT st.2.2.1) (next : ∀ st' h', InvX h' st' → InvM h' st' → BT st'.2.2.1 → V S 100 0 1296 [.ref 1000, .ref 0, .ref 188, .int (nI i)] [] h' Q) : V S 100 0 336 [.ref 1000, .ref 0, .ref 188, .int (nI i)] [] h Q := by
  refine V_aload_n rfl rfl (by first | assumption | rfl) ?_
  refine V_aload_n rfl rfl (by first | assumption | rfl) ?_
  refine V_iload_n rfl rfl ?_
  refine V_ic (v := nI 1) rfl rfl ?_
  refine V_iadd rfl ?_
  -- at 341: .iaload
  rw [nI_add]
  refine V_scr rfl (by omega) hS ?_
  refine V_aload_n rfl rfl (by first | assumption | rfl) ?_
  refine V_iload_n rfl rfl ?_
  refine V_ic (v := nI 2) rfl rfl ?_
  refine V_iadd rfl ?_
  -- at 346: .iaload
  rw [nI_add]
  refine V_scr rfl (by omega) hS ?_
  refine V_callV rfl rfl (by first | assumption | rfl) rfl rfl (x_grow (dep := 79) iX) ?_
  rintro _ h1 ⟨rfl, iX1, fx⟩
  have iM1 := iM.fx fx
  show V S 100 0 350 [.ref 1000, .ref 0, .ref 188, .int (nI i)] [.int _] h1 _
  refine V_aload_n rfl rfl (by first | assumption | rfl) ?_
  refine V_aload_n rfl rfl (by first | assumption | rfl) ?_
  refine V_iload_n rfl rfl ?_
  refine V_ic (v := nI 1) rfl rfl ?_
  refine V_iadd rfl ?_
  -- at 355: .iaload
  rw [nI_add]
  refine V_scr rfl (by omega) hS ?_
  refine V_aload_n rfl rfl (by first | assumption | rfl) ?_
  refine V_iload_n rfl rfl ?_
  refine V_ic (v := nI 2) rfl rfl ?_
  refine V_iadd rfl ?_
  -- at 360: .iaload
  rw [nI_add]
  refine V_scr rfl (by omega) hS ?_
  refine V_callV rfl rfl (by first | assumption | rfl) rfl rfl (y_grow (dep := 79) iM1) ?_
  rintro _ h2 ⟨rfl, iM2, fm⟩
  have iX2 := iX1.fm fm
  refine V_icmp_eq rfl (fun hc => ?_) (fun hc => ?_)
  · exact next _ _ iX2 iM2 (bt_grow hB)
  · exact absurd rfl hc
theorem lw_c5 {S : mScr} {i : Nat} {st : St} {h : Hp} {Q : Option Value → Hp → Prop} (hS : S.1 ≤ 3072) (hi : i + 6 ≤ S.1) (iX : InvX h st) (iM : InvM h st) (hB : BT st.2.2.1) (next : ∀ st' h', InvX h' st' → InvM h' st' → BT st'.2.2.1 → V S 100 0 1296 [.ref 1000, .ref 0, .ref 188, .int (nI i)] [] h' Q) : V S 100 0 369 [.ref 1000, .ref 0, .ref 188, .int (nI i)] [] h Q := by
  refine V_aload_n rfl rfl (by first | assumption | rfl) ?_
  refine V_aload_n rfl rfl (by first | assumption | rfl) ?_
  refine V_iload_n rfl rfl ?_
  refine V_ic (v := nI 1) rfl rfl ?_
  refine V_iadd rfl ?_
  -- at 374: .iaload
  rw [nI_add]
  refine V_scr rfl (by omega) hS ?_
  refine V_aload_n rfl rfl (by first | assumption | rfl) ?_
  refine V_iload_n rfl rfl ?_
  refine V_ic (v := nI 2) rfl rfl ?_
  refine V_iadd rfl ?_
  -- at 379: .iaload
  rw [nI_add]
  refine V_scr rfl (by omega) hS ?_
  refine V_callV rfl rfl (by first | assumption | rfl) rfl rfl (x_drop (dep := 79) iX) ?_
  rintro _ h1 ⟨rfl, iX1, fx⟩
  have iM1 := iM.fx fx
  show V S 100 0 383 [.ref 1000, .ref 0, .ref 188, .int (nI i)] [.int _] h1 _
  refine V_aload_n rfl rfl (by first | assumption | rfl) ?_
  refine V_aload_n rfl rfl (by first | assumption | rfl) ?_
  refine V_iload_n rfl rfl ?_
  refine V_ic (v := nI 1) rfl rfl ?_
  refine V_iadd rfl ?_
  -- at 388: .iaload
  rw [nI_add]
  refine V_scr rfl (by omega) hS ?_
  refine V_aload_n rfl rfl (by first | assumption | rfl) ?_
  refine V_iload_n rfl rfl ?_
  refine V_ic (v := nI 2) rfl rfl ?_
  refine V_iadd rfl ?_
  -- at 393: .iaload
  rw [nI_add]
  refine V_scr rfl (by omega) hS ?_
  refine V_callV rfl rfl (by first | assumption | rfl) rfl rfl (y_drop (dep := 79) iM1) ?_
  rintro _ h2 ⟨rfl, iM2, fm⟩
  have iX2 := iX1.fm fm
  refine V_icmp_eq rfl (fun hc => ?_) (fun hc => ?_)
  · exact next _ _ iX2 iM2 (bt_drop hB)
  · exact absurd rfl hc
theorem lw_c6 {S : mScr} {i : Nat} {st : St} {h : Hp} {Q : Option Value → Hp → Prop} (hS : S.1 ≤ 3072) (hi : i + 6 ≤ S.1) (iX : InvX h st) (iM : InvM h st) (hB : BT st.2.2.1) (next : ∀ st' h', InvX h' st' → InvM h' st' → BT st'.2.2.1 → V S 100 0 1296 [.ref 1000, .ref 0, .ref 188, .int (nI i)] [] h' Q) : V S 100 0 402 [.ref 1000, .ref 0, .ref 188, .int (nI i)] [] h Q := by
  refine V_aload_n rfl rfl (by first | assumption | rfl) ?_
  refine V_aload_n rfl rfl (by first | assumption | rfl) ?_
  refine V_iload_n rfl rfl ?_
  refine V_ic (v := nI 1) rfl rfl ?_
  refine V_iadd rfl ?_
  -- at 407: .iaload
  rw [nI_add]
  refine V_scr rfl (by omega) hS ?_
  refine V_aload_n rfl rfl (by first | assumption | rfl) ?_
  refine V_iload_n rfl rfl ?_
  refine V_ic (v := nI 2) rfl rfl ?_
  refine V_iadd rfl ?_
  -- at 412: .iaload
  rw [nI_add]
  refine V_scr rfl (by omega) hS ?_
  refine V_callV rfl rfl (by first | assumption | rfl) rfl rfl (x_turn (dep := 79) iX) ?_
  rintro _ h1 ⟨rfl, iX1, fx⟩
  have iM1 := iM.fx fx
  show V S 100 0 416 [.ref 1000, .ref 0, .ref 188, .int (nI i)] [.int _] h1 _
  refine V_aload_n rfl rfl (by first | assumption | rfl) ?_
  refine V_aload_n rfl rfl (by first | assumption | rfl) ?_
  refine V_iload_n rfl rfl ?_
  refine V_ic (v := nI 1) rfl rfl ?_
  refine V_iadd rfl ?_
  -- at 421: .iaload
  rw [nI_add]
  refine V_scr rfl (by omega) hS ?_
  refine V_aload_n rfl rfl (by first | assumption | rfl) ?_
  refine V_iload_n rfl rfl ?_
  refine V_ic (v := nI 2) rfl rfl ?_
  refine V_iadd rfl ?_
  -- at 426: .iaload
  rw [nI_add]
  refine V_scr rfl (by omega) hS ?_
  refine V_callV rfl rfl (by first | assumption | rfl) rfl rfl (y_turn (dep := 79) iM1) ?_
  rintro _ h2 ⟨rfl, iM2, fm⟩
  have iX2 := iX1.fm fm
  refine V_icmp_eq rfl (fun hc => ?_) (fun hc => ?_)
  · exact next _ _ iX2 iM2 (bt_turn hB)
  · exact absurd rfl hc
theorem lw_c7 {S : mScr} {i : Nat} {st : St} {h : Hp} {Q : Option Value → Hp → Prop} (hS : S.1 ≤ 3072) (hi : i + 6 ≤ S.1) (iX : InvX h st) (iM : InvM h st) (hB : BT st.2.2.1) (next : ∀ st' h', InvX h' st' → InvM h' st' → BT st'.2.2.1 → V S 100 0 1296 [.ref 1000, .ref 0, .ref 188, .int (nI i)] [] h' Q) : V S 100 0 435 [.ref 1000, .ref 0, .ref 188, .int (nI i)] [] h Q := by
  refine V_aload_n rfl rfl (by first | assumption | rfl) ?_
  refine V_aload_n rfl rfl (by first | assumption | rfl) ?_
  refine V_iload_n rfl rfl ?_
  refine V_ic (v := nI 1) rfl rfl ?_
  refine V_iadd rfl ?_
  -- at 440: .iaload
  rw [nI_add]
  refine V_scr rfl (by omega) hS ?_
  refine V_aload_n rfl rfl (by first | assumption | rfl) ?_
  refine V_iload_n rfl rfl ?_
  refine V_ic (v := nI 2) rfl rfl ?_
  refine V_iadd rfl ?_
  -- at 445: .iaload
  rw [nI_add]
  refine V_scr rfl (by omega) hS ?_
  refine V_callV rfl rfl (by first | assumption | rfl) rfl rfl (x_put (dep := 79) iX) ?_
  rintro _ h1 ⟨rfl, iX1, fx⟩
  have iM1 := iM.fx fx
  show V S 100 0 449 [.ref 1000, .ref 0, .ref 188, .int (nI i)] [.int _] h1 _
  refine V_aload_n rfl rfl (by first | assumption | rfl) ?_
  refine V_aload_n rfl rfl (by first | assumption | rfl) ?_
  refine V_iload_n rfl rfl ?_
  refine V_ic (v := nI 1) rfl rfl ?_
  refine V_iadd rfl ?_
  -- at 454: .iaload
  rw [nI_add]
  refine V_scr rfl (by omega) hS ?_
  refine V_aload_n rfl rfl (by first | assumption | rfl) ?_
  refine V_iload_n rfl rfl ?_
  refine V_ic (v := nI 2) rfl rfl ?_
  refine V_iadd rfl ?_
  -- at 459: .iaload
  rw [nI_add]
  refine V_scr rfl (by omega) hS ?_
  refine V_callV rfl rfl (by first | assumption | rfl) rfl rfl (y_put (dep := 79) iM1) ?_
  rintro _ h2 ⟨rfl, iM2, fm⟩
  have iX2 := iX1.fm fm
  refine V_icmp_eq rfl (fun hc => ?_) (fun hc => ?_)
  · exact next _ _ iX2 iM2 (bt_put hB)
  · exact absurd rfl hc
theorem lw_c8 {S : mScr} {i : Nat} {st : St} {h : Hp} {Q : Option Value → Hp → Prop} (hS : S.1 ≤ 3072) (hi : i + 6 ≤ S.1) (iX : InvX h st) (iM : InvM h st) (hB : BT st.2.2.1) (next : ∀ st' h', InvX h' st' → InvM h' st' → BT st'.2.2.1 → V S 100 0 1296 [.ref 1000, .ref 0, .ref 188, .int (nI i)] [] h' Q) : V S 100 0 468 [.ref 1000, .ref 0, .ref 188, .int (nI i)] [] h Q := by
  refine V_aload_n rfl rfl (by first | assumption | rfl) ?_
  refine V_aload_n rfl rfl (by first | assumption | rfl) ?_
  refine V_iload_n rfl rfl ?_
  refine V_ic (v := nI 1) rfl rfl ?_
  refine V_iadd rfl ?_
  -- at 473: .iaload
  rw [nI_add]
  refine V_scr rfl (by omega) hS ?_
  refine V_aload_n rfl rfl (by first | assumption | rfl) ?_
  refine V_iload_n rfl rfl ?_
  refine V_ic (v := nI 2) rfl rfl ?_
  refine V_iadd rfl ?_
  -- at 478: .iaload
  rw [nI_add]
  refine V_scr rfl (by omega) hS ?_
  refine V_callV rfl rfl (by first | assumption | rfl) rfl rfl (x_deal (dep := 79) iX) ?_
  rintro _ h1 ⟨rfl, iX1, fx⟩
  have iM1 := iM.fx fx
  show V S 100 0 482 [.ref 1000, .ref 0, .ref 188, .int (nI i)] [.int _] h1 _
  refine V_aload_n rfl rfl (by first | assumption | rfl) ?_
  refine V_aload_n rfl rfl (by first | assumption | rfl) ?_
  refine V_iload_n rfl rfl ?_
  refine V_ic (v := nI 1) rfl rfl ?_
  refine V_iadd rfl ?_
  -- at 487: .iaload
  rw [nI_add]
  refine V_scr rfl (by omega) hS ?_
  refine V_aload_n rfl rfl (by first | assumption | rfl) ?_
  refine V_iload_n rfl rfl ?_
  refine V_ic (v := nI 2) rfl rfl ?_
  refine V_iadd rfl ?_
  -- at 492: .iaload
  rw [nI_add]
  refine V_scr rfl (by omega) hS ?_
  refine V_callV rfl rfl (by first | assumption | rfl) rfl rfl (y_deal (dep := 79) iM1) ?_
  rintro _ h2 ⟨rfl, iM2, fm⟩
  have iX2 := iX1.fm fm
  refine V_icmp_eq rfl (fun hc => ?_) (fun hc => ?_)
  · exact next _ _ iX2 iM2 (bt_deal hB)
  · exact absurd rfl hc
theorem lw_c9 {S : mScr} {i : Nat} {st : St} {h : Hp} {Q : Option Value → Hp → Prop} (hS : S.1 ≤ 3072) (hi : i + 6 ≤ S.1) (iX : InvX h st) (iM : InvM h st) (hB : BT st.2.2.1) (next : ∀ st' h', InvX h' st' → InvM h' st' → BT st'.2.2.1 → V S 100 0 1296 [.ref 1000, .ref 0, .ref 188, .int (nI i)] [] h' Q) : V S 100 0 501 [.ref 1000, .ref 0, .ref 188, .int (nI i)] [] h Q := by
  refine V_aload_n rfl rfl (by first | assumption | rfl) ?_
  refine V_aload_n rfl rfl (by first | assumption | rfl) ?_
  refine V_iload_n rfl rfl ?_
  refine V_ic (v := nI 1) rfl rfl ?_
  refine V_iadd rfl ?_
  -- at 506: .iaload
  rw [nI_add]
  refine V_scr rfl (by omega) hS ?_
  refine V_aload_n rfl rfl (by first | assumption | rfl) ?_
  refine V_iload_n rfl rfl ?_
  refine V_ic (v := nI 2) rfl rfl ?_
  refine V_iadd rfl ?_
  -- at 511: .iaload
  rw [nI_add]
  refine V_scr rfl (by omega) hS ?_
  refine V_aload_n rfl rfl (by first | assumption | rfl) ?_
  refine V_iload_n rfl rfl ?_
  refine V_ic (v := nI 3) rfl rfl ?_
  refine V_iadd rfl ?_
  -- at 516: .iaload
  rw [nI_add]
  refine V_scr rfl (by omega) hS ?_
  refine V_callV rfl rfl (by first | assumption | rfl) rfl rfl (x_repl (dep := 79) iX) ?_
  rintro _ h1 ⟨rfl, iX1, fx⟩
  have iM1 := iM.fx fx
  show V S 100 0 520 [.ref 1000, .ref 0, .ref 188, .int (nI i)] [.int _] h1 _
  refine V_aload_n rfl rfl (by first | assumption | rfl) ?_
  refine V_aload_n rfl rfl (by first | assumption | rfl) ?_
  refine V_iload_n rfl rfl ?_
  refine V_ic (v := nI 1) rfl rfl ?_
  refine V_iadd rfl ?_
  -- at 525: .iaload
  rw [nI_add]
  refine V_scr rfl (by omega) hS ?_
  refine V_aload_n rfl rfl (by first | assumption | rfl) ?_
  refine V_iload_n rfl rfl ?_
  refine V_ic (v := nI 2) rfl rfl ?_
  refine V_iadd rfl ?_
  -- at 530: .iaload
  rw [nI_add]
  refine V_scr rfl (by omega) hS ?_
  refine V_aload_n rfl rfl (by first | assumption | rfl) ?_
  refine V_iload_n rfl rfl ?_
  refine V_ic (v := nI 3) rfl rfl ?_
  refine V_iadd rfl ?_
  -- at 535: .iaload
  rw [nI_add]
  refine V_scr rfl (by omega) hS ?_
  refine V_callV rfl rfl (by first | assumption | rfl) rfl rfl (y_repl (dep := 79) iM1) ?_
  rintro _ h2 ⟨rfl, iM2, fm⟩
  have iX2 := iX1.fm fm
  refine V_icmp_eq rfl (fun hc => ?_) (fun hc => ?_)
  · exact next _ _ iX2 iM2 (bt_repl hB)
  · exact absurd rfl hc
theorem lw_c10 {S : mScr} {i : Nat} {st : St} {h : Hp} {Q : Option Value → Hp → Prop} (hS : S.1 ≤ 3072) (hi : i + 6 ≤ S.1) (iX : InvX h st) (iM : InvM h st) (hB : BT st.2.2.1) (next : ∀ st' h', InvX h' st' → InvM h' st' → BT st'.2.2.1 → V S 100 0 1296 [.ref 1000, .ref 0, .ref 188, .int (nI i)] [] h' Q) : V S 100 0 544 [.ref 1000, .ref 0, .ref 188, .int (nI i)] [] h Q := by
  refine V_aload_n rfl rfl (by first | assumption | rfl) ?_
  refine V_aload_n rfl rfl (by first | assumption | rfl) ?_
  refine V_iload_n rfl rfl ?_
  refine V_ic (v := nI 1) rfl rfl ?_
  refine V_iadd rfl ?_
  -- at 549: .iaload
  rw [nI_add]
  refine V_scr rfl (by omega) hS ?_
  refine V_aload_n rfl rfl (by first | assumption | rfl) ?_
  refine V_iload_n rfl rfl ?_
  refine V_ic (v := nI 2) rfl rfl ?_
  refine V_iadd rfl ?_
  -- at 554: .iaload
  rw [nI_add]
  refine V_scr rfl (by omega) hS ?_
  refine V_callV rfl rfl (by first | assumption | rfl) rfl rfl (x_solv (dep := 79) iX) ?_
  rintro _ h1 ⟨rfl, iX1, fx⟩
  have iM1 := iM.fx fx
  show V S 100 0 558 [.ref 1000, .ref 0, .ref 188, .int (nI i)] [.int _] h1 _
  refine V_aload_n rfl rfl (by first | assumption | rfl) ?_
  refine V_aload_n rfl rfl (by first | assumption | rfl) ?_
  refine V_iload_n rfl rfl ?_
  refine V_ic (v := nI 1) rfl rfl ?_
  refine V_iadd rfl ?_
  -- at 563: .iaload
  rw [nI_add]
  refine V_scr rfl (by omega) hS ?_
  refine V_aload_n rfl rfl (by first | assumption | rfl) ?_
  refine V_iload_n rfl rfl ?_
  refine V_ic (v := nI 2) rfl rfl ?_
  refine V_iadd rfl ?_
  -- at 568: .iaload
  rw [nI_add]
  refine V_scr rfl (by omega) hS ?_
  refine V_callV rfl rfl (by first | assumption | rfl) rfl rfl (y_solv (dep := 79) iM1) ?_
  rintro _ h2 ⟨rfl, iM2, fm⟩
  have iX2 := iX1.fm fm
  refine V_icmp_eq rfl (fun hc => ?_) (fun hc => ?_)
  · exact next _ _ iX2 iM2 (bt_solv hB)
  · exact absurd rfl hc
theorem lw_c11 {S : mScr} {i : Nat} {st : St} {h : Hp} {Q : Option Value → Hp → Prop} (hS : S.1 ≤ 3072) (hi : i + 6 ≤ S.1) (iX : InvX h st) (iM : InvM h st) (hB : BT st.2.2.1) (next : ∀ st' h', InvX h' st' → InvM h' st' → BT st'.2.2.1 → V S 100 0 1296 [.ref 1000, .ref 0, .ref 188, .int (nI i)] [] h' Q) : V S 100 0 577 [.ref 1000, .ref 0, .ref 188, .int (nI i)] [] h Q := by
  refine V_aload_n rfl rfl (by first | assumption | rfl) ?_
  -- at 578: .invokevirtual 61
  refine V_callV rfl rfl (by first | assumption | rfl) rfl rfl (x_undo (dep := 79) iX) ?_
  rintro _ h1 ⟨rfl, iX1, fx⟩
  have iM1 := iM.fx fx
  show V S 100 0 581 [.ref 1000, .ref 0, .ref 188, .int (nI i)] [.int _] h1 _
  refine V_aload_n rfl rfl (by first | assumption | rfl) ?_
  -- at 582: .invokevirtual 65
  refine V_callV rfl rfl (by first | assumption | rfl) rfl rfl (y_undo (dep := 79) iM1) ?_
  rintro _ h2 ⟨rfl, iM2, fm⟩
  have iX2 := iX1.fm fm
  refine V_icmp_eq rfl (fun hc => ?_) (fun hc => ?_)
  · exact next _ _ iX2 iM2 (bt_undo hB)
  · exact absurd rfl hc
theorem lw_c12 {S : mScr} {i : Nat} {st : St} {h : Hp} {Q : Option Value → Hp → Prop} (hS : S.1 ≤ 3072) (hi : i + 6 ≤ S.1) (iX : InvX h st) (iM : InvM h st) (hB : BT st.2.2.1) (next : ∀ st' h', InvX h' st' → InvM h' st' → BT st'.2.2.1 → V S 100 0 1296 [.ref 1000, .ref 0, .ref 188, .int (nI i)] [] h' Q) : V S 100 0 590 [.ref 1000, .ref 0, .ref 188, .int (nI i)] [] h Q := by
  refine V_aload_n rfl rfl (by first | assumption | rfl) ?_
  refine V_aload_n rfl rfl (by first | assumption | rfl) ?_
  refine V_iload_n rfl rfl ?_
  refine V_ic (v := nI 1) rfl rfl ?_
  refine V_iadd rfl ?_
  -- at 595: .iaload
  rw [nI_add]
  refine V_scr rfl (by omega) hS ?_
  refine V_aload_n rfl rfl (by first | assumption | rfl) ?_
  refine V_iload_n rfl rfl ?_
  refine V_ic (v := nI 2) rfl rfl ?_
  refine V_iadd rfl ?_
  -- at 600: .iaload
  rw [nI_add]
  refine V_scr rfl (by omega) hS ?_
  refine V_callV rfl rfl (by first | assumption | rfl) rfl rfl (x_net (dep := 79) iX) ?_
  rintro _ h1 ⟨rfl, iX1, fx⟩
  have iM1 := iM.fx fx
  show V S 100 0 604 [.ref 1000, .ref 0, .ref 188, .int (nI i)] [.int _] h1 _
  refine V_aload_n rfl rfl (by first | assumption | rfl) ?_
  refine V_aload_n rfl rfl (by first | assumption | rfl) ?_
  refine V_iload_n rfl rfl ?_
  refine V_ic (v := nI 1) rfl rfl ?_
  refine V_iadd rfl ?_
  -- at 609: .iaload
  rw [nI_add]
  refine V_scr rfl (by omega) hS ?_
  refine V_aload_n rfl rfl (by first | assumption | rfl) ?_
  refine V_iload_n rfl rfl ?_
  refine V_ic (v := nI 2) rfl rfl ?_
  refine V_iadd rfl ?_
  -- at 614: .iaload
  rw [nI_add]
  refine V_scr rfl (by omega) hS ?_
  refine V_callV rfl rfl (by first | assumption | rfl) rfl rfl (y_net (dep := 79) iM1) ?_
  rintro _ h2 ⟨rfl, iM2, fm⟩
  have iX2 := iX1.fm fm
  refine V_icmp_eq rfl (fun hc => ?_) (fun hc => ?_)
  · exact next _ _ iX2 iM2 hB
  · exact absurd rfl hc
theorem lw_c13 {S : mScr} {i : Nat} {st : St} {h : Hp} {Q : Option Value → Hp → Prop} (hS : S.1 ≤ 3072) (hi : i + 6 ≤ S.1) (iX : InvX h st) (iM : InvM h st) (hB : BT st.2.2.1) (next : ∀ st' h', InvX h' st' → InvM h' st' → BT st'.2.2.1 → V S 100 0 1296 [.ref 1000, .ref 0, .ref 188, .int (nI i)] [] h' Q) : V S 100 0 623 [.ref 1000, .ref 0, .ref 188, .int (nI i)] [] h Q := by
  refine V_aload_n rfl rfl (by first | assumption | rfl) ?_
  refine V_aload_n rfl rfl (by first | assumption | rfl) ?_
  refine V_iload_n rfl rfl ?_
  refine V_ic (v := nI 1) rfl rfl ?_
  refine V_iadd rfl ?_
  -- at 628: .iaload
  rw [nI_add]
  refine V_scr rfl (by omega) hS ?_
  refine V_aload_n rfl rfl (by first | assumption | rfl) ?_
  refine V_iload_n rfl rfl ?_
  refine V_ic (v := nI 2) rfl rfl ?_
  refine V_iadd rfl ?_
  -- at 633: .iaload
  rw [nI_add]
  refine V_scr rfl (by omega) hS ?_
  refine V_aload_n rfl rfl (by first | assumption | rfl) ?_
  refine V_iload_n rfl rfl ?_
  refine V_ic (v := nI 3) rfl rfl ?_
  refine V_iadd rfl ?_
  -- at 638: .iaload
  rw [nI_add]
  refine V_scr rfl (by omega) hS ?_
  refine V_callV rfl rfl (by first | assumption | rfl) rfl rfl (x_node (dep := 79) iX) ?_
  rintro _ h1 ⟨rfl, iX1, fx⟩
  have iM1 := iM.fx fx
  show V S 100 0 642 [.ref 1000, .ref 0, .ref 188, .int (nI i)] [.int _] h1 _
  refine V_aload_n rfl rfl (by first | assumption | rfl) ?_
  refine V_aload_n rfl rfl (by first | assumption | rfl) ?_
  refine V_iload_n rfl rfl ?_
  refine V_ic (v := nI 1) rfl rfl ?_
  refine V_iadd rfl ?_
  -- at 647: .iaload
  rw [nI_add]
  refine V_scr rfl (by omega) hS ?_
  refine V_aload_n rfl rfl (by first | assumption | rfl) ?_
  refine V_iload_n rfl rfl ?_
  refine V_ic (v := nI 2) rfl rfl ?_
  refine V_iadd rfl ?_
  -- at 652: .iaload
  rw [nI_add]
  refine V_scr rfl (by omega) hS ?_
  refine V_aload_n rfl rfl (by first | assumption | rfl) ?_
  refine V_iload_n rfl rfl ?_
  refine V_ic (v := nI 3) rfl rfl ?_
  refine V_iadd rfl ?_
  -- at 657: .iaload
  rw [nI_add]
  refine V_scr rfl (by omega) hS ?_
  refine V_callV rfl rfl (by first | assumption | rfl) rfl rfl (y_node (dep := 79) iM1) ?_
  rintro _ h2 ⟨rfl, iM2, fm⟩
  have iX2 := iX1.fm fm
  refine V_icmp_eq rfl (fun hc => ?_) (fun hc => ?_)
  · exact next _ _ iX2 iM2 hB
  · exact absurd rfl hc
theorem lw_c14 {S : mScr} {i : Nat} {st : St} {h : Hp} {Q : Option Value → Hp → Prop} (hS : S.1 ≤ 3072) (hi : i + 6 ≤ S.1) (iX : InvX h st) (iM : InvM h st) (hB : BT st.2.2.1) (next : ∀ st' h', InvX h' st' → InvM h' st' → BT st'.2.2.1 → V S 100 0 1296 [.ref 1000, .ref 0, .ref 188, .int (nI i)] [] h' Q) : V S 100 0 666 [.ref 1000, .ref 0, .ref 188, .int (nI i)] [] h Q := by
  refine V_aload_n rfl rfl (by first | assumption | rfl) ?_
  refine V_aload_n rfl rfl (by first | assumption | rfl) ?_
  refine V_iload_n rfl rfl ?_
  refine V_ic (v := nI 1) rfl rfl ?_
  refine V_iadd rfl ?_
  -- at 671: .iaload
  rw [nI_add]
  refine V_scr rfl (by omega) hS ?_
  refine V_aload_n rfl rfl (by first | assumption | rfl) ?_
  refine V_iload_n rfl rfl ?_
  refine V_ic (v := nI 2) rfl rfl ?_
  refine V_iadd rfl ?_
  -- at 676: .iaload
  rw [nI_add]
  refine V_scr rfl (by omega) hS ?_
  refine V_callV rfl rfl (by first | assumption | rfl) rfl rfl (x_alik (dep := 79) iX) ?_
  rintro _ h1 ⟨rfl, iX1, fx⟩
  have iM1 := iM.fx fx
  show V S 100 0 680 [.ref 1000, .ref 0, .ref 188, .int (nI i)] [.int _] h1 _
  refine V_aload_n rfl rfl (by first | assumption | rfl) ?_
  refine V_aload_n rfl rfl (by first | assumption | rfl) ?_
  refine V_iload_n rfl rfl ?_
  refine V_ic (v := nI 1) rfl rfl ?_
  refine V_iadd rfl ?_
  -- at 685: .iaload
  rw [nI_add]
  refine V_scr rfl (by omega) hS ?_
  refine V_aload_n rfl rfl (by first | assumption | rfl) ?_
  refine V_iload_n rfl rfl ?_
  refine V_ic (v := nI 2) rfl rfl ?_
  refine V_iadd rfl ?_
  -- at 690: .iaload
  rw [nI_add]
  refine V_scr rfl (by omega) hS ?_
  refine V_callV rfl rfl (by first | assumption | rfl) rfl rfl (y_alik (dep := 79) iM1) ?_
  rintro _ h2 ⟨rfl, iM2, fm⟩
  have iX2 := iX1.fm fm
  refine V_icmp_eq rfl (fun hc => ?_) (fun hc => ?_)
  · exact next _ _ iX2 iM2 hB
  · exact absurd rfl hc
theorem lw_c15 {S : mScr} {i : Nat} {st : St} {h : Hp} {Q : Option Value → Hp → Prop} (hS : S.1 ≤ 3072) (hi : i + 6 ≤ S.1) (iX : InvX h st) (iM : InvM h st) (hB : BT st.2.2.1) (next : ∀ st' h', InvX h' st' → InvM h' st' → BT st'.2.2.1 → V S 100 0 1296 [.ref 1000, .ref 0, .ref 188, .int (nI i)] [] h' Q) : V S 100 0 699 [.ref 1000, .ref 0, .ref 188, .int (nI i)] [] h Q := by
  refine V_aload_n rfl rfl (by first | assumption | rfl) ?_
  refine V_aload_n rfl rfl (by first | assumption | rfl) ?_
  refine V_iload_n rfl rfl ?_
  refine V_ic (v := nI 1) rfl rfl ?_
  refine V_iadd rfl ?_
  -- at 704: .iaload
  rw [nI_add]
  refine V_scr rfl (by omega) hS ?_
  refine V_aload_n rfl rfl (by first | assumption | rfl) ?_
  refine V_iload_n rfl rfl ?_
  refine V_ic (v := nI 2) rfl rfl ?_
  refine V_iadd rfl ?_
  -- at 709: .iaload
  rw [nI_add]
  refine V_scr rfl (by omega) hS ?_
  refine V_callV rfl rfl (by first | assumption | rfl) rfl rfl (x_part (dep := 79) iX) ?_
  rintro _ h1 ⟨rfl, iX1, fx⟩
  have iM1 := iM.fx fx
  show V S 100 0 713 [.ref 1000, .ref 0, .ref 188, .int (nI i)] [.int _] h1 _
  refine V_aload_n rfl rfl (by first | assumption | rfl) ?_
  refine V_aload_n rfl rfl (by first | assumption | rfl) ?_
  refine V_iload_n rfl rfl ?_
  refine V_ic (v := nI 1) rfl rfl ?_
  refine V_iadd rfl ?_
  -- at 718: .iaload
  rw [nI_add]
  refine V_scr rfl (by omega) hS ?_
  refine V_aload_n rfl rfl (by first | assumption | rfl) ?_
  refine V_iload_n rfl rfl ?_
  refine V_ic (v := nI 2) rfl rfl ?_
  refine V_iadd rfl ?_
  -- at 723: .iaload
  rw [nI_add]
  refine V_scr rfl (by omega) hS ?_
  refine V_callV rfl rfl (by first | assumption | rfl) rfl rfl (y_part (dep := 79) iM1) ?_
  rintro _ h2 ⟨rfl, iM2, fm⟩
  have iX2 := iX1.fm fm
  refine V_icmp_eq rfl (fun hc => ?_) (fun hc => ?_)
  · exact next _ _ iX2 iM2 hB
  · exact absurd rfl hc
theorem lw_c16 {S : mScr} {i : Nat} {st : St} {h : Hp} {Q : Option Value → Hp → Prop} (hS : S.1 ≤ 3072) (hi : i + 6 ≤ S.1) (iX : InvX h st) (iM : InvM h st) (hB : BT st.2.2.1) (next : ∀ st' h', InvX h' st' → InvM h' st' → BT st'.2.2.1 → V S 100 0 1296 [.ref 1000, .ref 0, .ref 188, .int (nI i)] [] h' Q) : V S 100 0 732 [.ref 1000, .ref 0, .ref 188, .int (nI i)] [] h Q := by
  refine V_aload_n rfl rfl (by first | assumption | rfl) ?_
  refine V_aload_n rfl rfl (by first | assumption | rfl) ?_
  refine V_iload_n rfl rfl ?_
  refine V_ic (v := nI 1) rfl rfl ?_
  refine V_iadd rfl ?_
  -- at 737: .iaload
  rw [nI_add]
  refine V_scr rfl (by omega) hS ?_
  refine V_aload_n rfl rfl (by first | assumption | rfl) ?_
  refine V_iload_n rfl rfl ?_
  refine V_ic (v := nI 2) rfl rfl ?_
  refine V_iadd rfl ?_
  -- at 742: .iaload
  rw [nI_add]
  refine V_scr rfl (by omega) hS ?_
  refine V_callV rfl rfl (by first | assumption | rfl) rfl rfl (x_leas (dep := 79) iX) ?_
  rintro _ h1 ⟨rfl, iX1, fx⟩
  have iM1 := iM.fx fx
  show V S 100 0 746 [.ref 1000, .ref 0, .ref 188, .int (nI i)] [.int _] h1 _
  refine V_aload_n rfl rfl (by first | assumption | rfl) ?_
  refine V_aload_n rfl rfl (by first | assumption | rfl) ?_
  refine V_iload_n rfl rfl ?_
  refine V_ic (v := nI 1) rfl rfl ?_
  refine V_iadd rfl ?_
  -- at 751: .iaload
  rw [nI_add]
  refine V_scr rfl (by omega) hS ?_
  refine V_aload_n rfl rfl (by first | assumption | rfl) ?_
  refine V_iload_n rfl rfl ?_
  refine V_ic (v := nI 2) rfl rfl ?_
  refine V_iadd rfl ?_
  -- at 756: .iaload
  rw [nI_add]
  refine V_scr rfl (by omega) hS ?_
  refine V_callV rfl rfl (by first | assumption | rfl) rfl rfl (y_leas (dep := 79) iM1) ?_
  rintro _ h2 ⟨rfl, iM2, fm⟩
  have iX2 := iX1.fm fm
  refine V_icmp_eq rfl (fun hc => ?_) (fun hc => ?_)
  · exact next _ _ iX2 iM2 hB
  · exact absurd rfl hc
theorem lw_c17 {S : mScr} {i : Nat} {st : St} {h : Hp} {Q : Option Value → Hp → Prop} (hS : S.1 ≤ 3072) (hi : i + 6 ≤ S.1) (iX : InvX h st) (iM : InvM h st) (hB : BT st.2.2.1) (next : ∀ st' h', InvX h' st' → InvM h' st' → BT st'.2.2.1 → V S 100 0 1296 [.ref 1000, .ref 0, .ref 188, .int (nI i)] [] h' Q) : V S 100 0 765 [.ref 1000, .ref 0, .ref 188, .int (nI i)] [] h Q := by
  refine V_aload_n rfl rfl (by first | assumption | rfl) ?_
  refine V_aload_n rfl rfl (by first | assumption | rfl) ?_
  refine V_iload_n rfl rfl ?_
  refine V_ic (v := nI 1) rfl rfl ?_
  refine V_iadd rfl ?_
  -- at 770: .iaload
  rw [nI_add]
  refine V_scr rfl (by omega) hS ?_
  refine V_callV rfl rfl (by first | assumption | rfl) rfl rfl (x_riva (dep := 79) iX) ?_
  rintro _ h1 ⟨rfl, iX1, fx⟩
  have iM1 := iM.fx fx
  show V S 100 0 774 [.ref 1000, .ref 0, .ref 188, .int (nI i)] [.int _] h1 _
  refine V_aload_n rfl rfl (by first | assumption | rfl) ?_
  refine V_aload_n rfl rfl (by first | assumption | rfl) ?_
  refine V_iload_n rfl rfl ?_
  refine V_ic (v := nI 1) rfl rfl ?_
  refine V_iadd rfl ?_
  -- at 779: .iaload
  rw [nI_add]
  refine V_scr rfl (by omega) hS ?_
  refine V_callV rfl rfl (by first | assumption | rfl) rfl rfl (y_riva (dep := 79) iM1) ?_
  rintro _ h2 ⟨rfl, iM2, fm⟩
  have iX2 := iX1.fm fm
  refine V_icmp_eq rfl (fun hc => ?_) (fun hc => ?_)
  · exact next _ _ iX2 iM2 hB
  · exact absurd rfl hc
theorem lw_c18 {S : mScr} {i : Nat} {st : St} {h : Hp} {Q : Option Value → Hp → Prop} (hS : S.1 ≤ 3072) (hi : i + 6 ≤ S.1) (iX : InvX h st) (iM : InvM h st) (hB : BT st.2.2.1) (next : ∀ st' h', InvX h' st' → InvM h' st' → BT st'.2.2.1 → V S 100 0 1296 [.ref 1000, .ref 0, .ref 188, .int (nI i)] [] h' Q) : V S 100 0 788 [.ref 1000, .ref 0, .ref 188, .int (nI i)] [] h Q := by
  refine V_aload_n rfl rfl (by first | assumption | rfl) ?_
  refine V_aload_n rfl rfl (by first | assumption | rfl) ?_
  refine V_iload_n rfl rfl ?_
  refine V_ic (v := nI 1) rfl rfl ?_
  refine V_iadd rfl ?_
  -- at 793: .iaload
  rw [nI_add]
  refine V_scr rfl (by omega) hS ?_
  refine V_aload_n rfl rfl (by first | assumption | rfl) ?_
  refine V_iload_n rfl rfl ?_
  refine V_ic (v := nI 2) rfl rfl ?_
  refine V_iadd rfl ?_
  -- at 798: .iaload
  rw [nI_add]
  refine V_scr rfl (by omega) hS ?_
  refine V_callV rfl rfl (by first | assumption | rfl) rfl rfl (x_lind (dep := 79) iX) ?_
  rintro _ h1 ⟨rfl, iX1, fx⟩
  have iM1 := iM.fx fx
  show V S 100 0 802 [.ref 1000, .ref 0, .ref 188, .int (nI i)] [.int _] h1 _
  refine V_aload_n rfl rfl (by first | assumption | rfl) ?_
  refine V_aload_n rfl rfl (by first | assumption | rfl) ?_
  refine V_iload_n rfl rfl ?_
  refine V_ic (v := nI 1) rfl rfl ?_
  refine V_iadd rfl ?_
  -- at 807: .iaload
  rw [nI_add]
  refine V_scr rfl (by omega) hS ?_
  refine V_aload_n rfl rfl (by first | assumption | rfl) ?_
  refine V_iload_n rfl rfl ?_
  refine V_ic (v := nI 2) rfl rfl ?_
  refine V_iadd rfl ?_
  -- at 812: .iaload
  rw [nI_add]
  refine V_scr rfl (by omega) hS ?_
  refine V_callV rfl rfl (by first | assumption | rfl) rfl rfl (y_lind (dep := 79) iM1) ?_
  rintro _ h2 ⟨rfl, iM2, fm⟩
  have iX2 := iX1.fm fm
  refine V_icmp_eq rfl (fun hc => ?_) (fun hc => ?_)
  · exact next _ _ iX2 iM2 hB
  · exact absurd rfl hc
theorem lw_c19 {S : mScr} {i : Nat} {st : St} {h : Hp} {Q : Option Value → Hp → Prop} (hS : S.1 ≤ 3072) (hi : i + 6 ≤ S.1) (iX : InvX h st) (iM : InvM h st) (hB : BT st.2.2.1) (next : ∀ st' h', InvX h' st' → InvM h' st' → BT st'.2.2.1 → V S 100 0 1296 [.ref 1000, .ref 0, .ref 188, .int (nI i)] [] h' Q) : V S 100 0 821 [.ref 1000, .ref 0, .ref 188, .int (nI i)] [] h Q := by
  refine V_aload_n rfl rfl (by first | assumption | rfl) ?_
  refine V_aload_n rfl rfl (by first | assumption | rfl) ?_
  refine V_iload_n rfl rfl ?_
  refine V_ic (v := nI 1) rfl rfl ?_
  refine V_iadd rfl ?_
  -- at 826: .iaload
  rw [nI_add]
  refine V_scr rfl (by omega) hS ?_
  refine V_aload_n rfl rfl (by first | assumption | rfl) ?_
  refine V_iload_n rfl rfl ?_
  refine V_ic (v := nI 2) rfl rfl ?_
  refine V_iadd rfl ?_
  -- at 831: .iaload
  rw [nI_add]
  refine V_scr rfl (by omega) hS ?_
  refine V_callV rfl rfl (by first | assumption | rfl) rfl rfl (x_is (dep := 79) iX) ?_
  rintro _ h1 ⟨rfl, iX1, fx⟩
  have iM1 := iM.fx fx
  show V S 100 0 835 [.ref 1000, .ref 0, .ref 188, .int (nI i)] [.int _] h1 _
  refine V_aload_n rfl rfl (by first | assumption | rfl) ?_
  refine V_aload_n rfl rfl (by first | assumption | rfl) ?_
  refine V_iload_n rfl rfl ?_
  refine V_ic (v := nI 1) rfl rfl ?_
  refine V_iadd rfl ?_
  -- at 840: .iaload
  rw [nI_add]
  refine V_scr rfl (by omega) hS ?_
  refine V_aload_n rfl rfl (by first | assumption | rfl) ?_
  refine V_iload_n rfl rfl ?_
  refine V_ic (v := nI 2) rfl rfl ?_
  refine V_iadd rfl ?_
  -- at 845: .iaload
  rw [nI_add]
  refine V_scr rfl (by omega) hS ?_
  refine V_callV rfl rfl (by first | assumption | rfl) rfl rfl (y_is (dep := 79) iM1) ?_
  rintro _ h2 ⟨rfl, iM2, fm⟩
  have iX2 := iX1.fm fm
  refine V_icmp_eq rfl (fun hc => ?_) (fun hc => ?_)
  · exact next _ _ iX2 iM2 hB
  · exact absurd rfl hc
theorem lw_c20 {S : mScr} {i : Nat} {st : St} {h : Hp} {Q : Option Value → Hp → Prop} (hS : S.1 ≤ 3072) (hi : i + 6 ≤ S.1) (iX : InvX h st) (iM : InvM h st) (hB : BT st.2.2.1) (next : ∀ st' h', InvX h' st' → InvM h' st' → BT st'.2.2.1 → V S 100 0 1296 [.ref 1000, .ref 0, .ref 188, .int (nI i)] [] h' Q) : V S 100 0 854 [.ref 1000, .ref 0, .ref 188, .int (nI i)] [] h Q := by
  refine V_aload_n rfl rfl (by first | assumption | rfl) ?_
  refine V_aload_n rfl rfl (by first | assumption | rfl) ?_
  refine V_iload_n rfl rfl ?_
  refine V_ic (v := nI 1) rfl rfl ?_
  refine V_iadd rfl ?_
  -- at 859: .iaload
  rw [nI_add]
  refine V_scr rfl (by omega) hS ?_
  refine V_callV rfl rfl (by first | assumption | rfl) rfl rfl (x_tree (dep := 79) iX) ?_
  rintro _ h1 ⟨rfl, iX1, fx⟩
  have iM1 := iM.fx fx
  show V S 100 0 863 [.ref 1000, .ref 0, .ref 188, .int (nI i)] [.int _] h1 _
  refine V_aload_n rfl rfl (by first | assumption | rfl) ?_
  refine V_aload_n rfl rfl (by first | assumption | rfl) ?_
  refine V_iload_n rfl rfl ?_
  refine V_ic (v := nI 1) rfl rfl ?_
  refine V_iadd rfl ?_
  -- at 868: .iaload
  rw [nI_add]
  refine V_scr rfl (by omega) hS ?_
  refine V_callV rfl rfl (by first | assumption | rfl) rfl rfl (y_tree (dep := 59) iM1) ?_
  rintro _ h2 ⟨rfl, iM2, fm⟩
  have iX2 := iX1.fm fm
  refine V_icmp_eq rfl (fun hc => ?_) (fun hc => ?_)
  · exact next _ _ iX2 iM2 hB
  · exact absurd rfl hc
theorem lw_c21 {S : mScr} {i : Nat} {st : St} {h : Hp} {Q : Option Value → Hp → Prop} (hS : S.1 ≤ 3072) (hi : i + 6 ≤ S.1) (iX : InvX h st) (iM : InvM h st) (hB : BT st.2.2.1) (next : ∀ st' h', InvX h' st' → InvM h' st' → BT st'.2.2.1 → V S 100 0 1296 [.ref 1000, .ref 0, .ref 188, .int (nI i)] [] h' Q) : V S 100 0 877 [.ref 1000, .ref 0, .ref 188, .int (nI i)] [] h Q := by
  refine V_aload_n rfl rfl (by first | assumption | rfl) ?_
  refine V_aload_n rfl rfl (by first | assumption | rfl) ?_
  refine V_iload_n rfl rfl ?_
  refine V_ic (v := nI 1) rfl rfl ?_
  refine V_iadd rfl ?_
  -- at 882: .iaload
  rw [nI_add]
  refine V_scr rfl (by omega) hS ?_
  refine V_aload_n rfl rfl (by first | assumption | rfl) ?_
  refine V_iload_n rfl rfl ?_
  refine V_ic (v := nI 2) rfl rfl ?_
  refine V_iadd rfl ?_
  -- at 887: .iaload
  rw [nI_add]
  refine V_scr rfl (by omega) hS ?_
  refine V_callV rfl rfl (by first | assumption | rfl) rfl rfl (x_term (dep := 79) iX) ?_
  rintro _ h1 ⟨rfl, iX1, fx⟩
  have iM1 := iM.fx fx
  show V S 100 0 891 [.ref 1000, .ref 0, .ref 188, .int (nI i)] [.int _] h1 _
  refine V_aload_n rfl rfl (by first | assumption | rfl) ?_
  refine V_aload_n rfl rfl (by first | assumption | rfl) ?_
  refine V_iload_n rfl rfl ?_
  refine V_ic (v := nI 1) rfl rfl ?_
  refine V_iadd rfl ?_
  -- at 896: .iaload
  rw [nI_add]
  refine V_scr rfl (by omega) hS ?_
  refine V_aload_n rfl rfl (by first | assumption | rfl) ?_
  refine V_iload_n rfl rfl ?_
  refine V_ic (v := nI 2) rfl rfl ?_
  refine V_iadd rfl ?_
  -- at 901: .iaload
  rw [nI_add]
  refine V_scr rfl (by omega) hS ?_
  refine V_callV rfl rfl (by first | assumption | rfl) rfl rfl (y_term (dep := 79) iM1) ?_
  rintro _ h2 ⟨rfl, iM2, fm⟩
  have iX2 := iX1.fm fm
  refine V_icmp_eq rfl (fun hc => ?_) (fun hc => ?_)
  · exact next _ _ iX2 iM2 hB
  · exact absurd rfl hc
theorem lw_c22 {S : mScr} {i : Nat} {st : St} {h : Hp} {Q : Option Value → Hp → Prop} (hS : S.1 ≤ 3072) (hi : i + 6 ≤ S.1) (iX : InvX h st) (iM : InvM h st) (hB : BT st.2.2.1) (next : ∀ st' h', InvX h' st' → InvM h' st' → BT st'.2.2.1 → V S 100 0 1296 [.ref 1000, .ref 0, .ref 188, .int (nI i)] [] h' Q) : V S 100 0 910 [.ref 1000, .ref 0, .ref 188, .int (nI i)] [] h Q := by
  refine V_aload_n rfl rfl (by first | assumption | rfl) ?_
  refine V_aload_n rfl rfl (by first | assumption | rfl) ?_
  refine V_iload_n rfl rfl ?_
  refine V_ic (v := nI 1) rfl rfl ?_
  refine V_iadd rfl ?_
  -- at 915: .iaload
  rw [nI_add]
  refine V_scr rfl (by omega) hS ?_
  refine V_aload_n rfl rfl (by first | assumption | rfl) ?_
  refine V_iload_n rfl rfl ?_
  refine V_ic (v := nI 2) rfl rfl ?_
  refine V_iadd rfl ?_
  -- at 920: .iaload
  rw [nI_add]
  refine V_scr rfl (by omega) hS ?_
  refine V_aload_n rfl rfl (by first | assumption | rfl) ?_
  refine V_iload_n rfl rfl ?_
  refine V_ic (v := nI 3) rfl rfl ?_
  refine V_iadd rfl ?_
  -- at 925: .iaload
  rw [nI_add]
  refine V_scr rfl (by omega) hS ?_
  refine V_callV rfl rfl (by first | assumption | rfl) rfl rfl (x_far (dep := 79) iX) ?_
  rintro _ h1 ⟨rfl, iX1, fx⟩
  have iM1 := iM.fx fx
  show V S 100 0 929 [.ref 1000, .ref 0, .ref 188, .int (nI i)] [.int _] h1 _
  refine V_aload_n rfl rfl (by first | assumption | rfl) ?_
  refine V_aload_n rfl rfl (by first | assumption | rfl) ?_
  refine V_iload_n rfl rfl ?_
  refine V_ic (v := nI 1) rfl rfl ?_
  refine V_iadd rfl ?_
  -- at 934: .iaload
  rw [nI_add]
  refine V_scr rfl (by omega) hS ?_
  refine V_aload_n rfl rfl (by first | assumption | rfl) ?_
  refine V_iload_n rfl rfl ?_
  refine V_ic (v := nI 2) rfl rfl ?_
  refine V_iadd rfl ?_
  -- at 939: .iaload
  rw [nI_add]
  refine V_scr rfl (by omega) hS ?_
  refine V_aload_n rfl rfl (by first | assumption | rfl) ?_
  refine V_iload_n rfl rfl ?_
  refine V_ic (v := nI 3) rfl rfl ?_
  refine V_iadd rfl ?_
  -- at 944: .iaload
  rw [nI_add]
  refine V_scr rfl (by omega) hS ?_
  refine V_callV rfl rfl (by first | assumption | rfl) rfl rfl (y_far (dep := 79) iM1) ?_
  rintro _ h2 ⟨rfl, iM2, fm⟩
  have iX2 := iX1.fm fm
  refine V_icmp_eq rfl (fun hc => ?_) (fun hc => ?_)
  · exact next _ _ iX2 iM2 hB
  · exact absurd rfl hc
theorem lw_c23 {S : mScr} {i : Nat} {st : St} {h : Hp} {Q : Option Value → Hp → Prop} (hS : S.1 ≤ 3072) (hi : i + 6 ≤ S.1) (iX : InvX h st) (iM : InvM h st) (hB : BT st.2.2.1) (next : ∀ st' h', InvX h' st' → InvM h' st' → BT st'.2.2.1 → V S 100 0 1296 [.ref 1000, .ref 0, .ref 188, .int (nI i)] [] h' Q) : V S 100 0 953 [.ref 1000, .ref 0, .ref 188, .int (nI i)] [] h Q := by
  refine V_aload_n rfl rfl (by first | assumption | rfl) ?_
  refine V_aload_n rfl rfl (by first | assumption | rfl) ?_
  refine V_iload_n rfl rfl ?_
  refine V_ic (v := nI 1) rfl rfl ?_
  refine V_iadd rfl ?_
  -- at 958: .iaload
  rw [nI_add]
  refine V_scr rfl (by omega) hS ?_
  refine V_aload_n rfl rfl (by first | assumption | rfl) ?_
  refine V_iload_n rfl rfl ?_
  refine V_ic (v := nI 2) rfl rfl ?_
  refine V_iadd rfl ?_
  -- at 963: .iaload
  rw [nI_add]
  refine V_scr rfl (by omega) hS ?_
  refine V_callV rfl rfl (by first | assumption | rfl) rfl rfl (x_card (dep := 79) iX) ?_
  rintro _ h1 ⟨rfl, iX1, fx⟩
  have iM1 := iM.fx fx
  show V S 100 0 967 [.ref 1000, .ref 0, .ref 188, .int (nI i)] [.int _] h1 _
  refine V_aload_n rfl rfl (by first | assumption | rfl) ?_
  refine V_aload_n rfl rfl (by first | assumption | rfl) ?_
  refine V_iload_n rfl rfl ?_
  refine V_ic (v := nI 1) rfl rfl ?_
  refine V_iadd rfl ?_
  -- at 972: .iaload
  rw [nI_add]
  refine V_scr rfl (by omega) hS ?_
  refine V_aload_n rfl rfl (by first | assumption | rfl) ?_
  refine V_iload_n rfl rfl ?_
  refine V_ic (v := nI 2) rfl rfl ?_
  refine V_iadd rfl ?_
  -- at 977: .iaload
  rw [nI_add]
  refine V_scr rfl (by omega) hS ?_
  refine V_callV rfl rfl (by first | assumption | rfl) rfl rfl (y_card (dep := 79) iM1) ?_
  rintro _ h2 ⟨rfl, iM2, fm⟩
  have iX2 := iX1.fm fm
  refine V_icmp_eq rfl (fun hc => ?_) (fun hc => ?_)
  · exact next _ _ iX2 iM2 hB
  · exact absurd rfl hc
theorem lw_c24 {S : mScr} {i : Nat} {st : St} {h : Hp} {Q : Option Value → Hp → Prop} (hS : S.1 ≤ 3072) (hi : i + 6 ≤ S.1) (iX : InvX h st) (iM : InvM h st) (hB : BT st.2.2.1) (next : ∀ st' h', InvX h' st' → InvM h' st' → BT st'.2.2.1 → V S 100 0 1296 [.ref 1000, .ref 0, .ref 188, .int (nI i)] [] h' Q) : V S 100 0 986 [.ref 1000, .ref 0, .ref 188, .int (nI i)] [] h Q := by
  refine V_aload_n rfl rfl (by first | assumption | rfl) ?_
  refine V_aload_n rfl rfl (by first | assumption | rfl) ?_
  refine V_iload_n rfl rfl ?_
  refine V_ic (v := nI 1) rfl rfl ?_
  refine V_iadd rfl ?_
  -- at 991: .iaload
  rw [nI_add]
  refine V_scr rfl (by omega) hS ?_
  refine V_aload_n rfl rfl (by first | assumption | rfl) ?_
  refine V_iload_n rfl rfl ?_
  refine V_ic (v := nI 2) rfl rfl ?_
  refine V_iadd rfl ?_
  -- at 996: .iaload
  rw [nI_add]
  refine V_scr rfl (by omega) hS ?_
  refine V_callV rfl rfl (by first | assumption | rfl) rfl rfl (x_comm (dep := 79) iX) ?_
  rintro _ h1 ⟨rfl, iX1, fx⟩
  have iM1 := iM.fx fx
  show V S 100 0 1000 [.ref 1000, .ref 0, .ref 188, .int (nI i)] [.int _] h1 _
  refine V_aload_n rfl rfl (by first | assumption | rfl) ?_
  refine V_aload_n rfl rfl (by first | assumption | rfl) ?_
  refine V_iload_n rfl rfl ?_
  refine V_ic (v := nI 1) rfl rfl ?_
  refine V_iadd rfl ?_
  -- at 1005: .iaload
  rw [nI_add]
  refine V_scr rfl (by omega) hS ?_
  refine V_aload_n rfl rfl (by first | assumption | rfl) ?_
  refine V_iload_n rfl rfl ?_
  refine V_ic (v := nI 2) rfl rfl ?_
  refine V_iadd rfl ?_
  -- at 1010: .iaload
  rw [nI_add]
  refine V_scr rfl (by omega) hS ?_
  refine V_callV rfl rfl (by first | assumption | rfl) rfl rfl (y_comm (dep := 79) iM1) ?_
  rintro _ h2 ⟨rfl, iM2, fm⟩
  have iX2 := iX1.fm fm
  refine V_icmp_eq rfl (fun hc => ?_) (fun hc => ?_)
  · exact next _ _ iX2 iM2 hB
  · exact absurd rfl hc
theorem lw_c25 {S : mScr} {i : Nat} {st : St} {h : Hp} {Q : Option Value → Hp → Prop} (hS : S.1 ≤ 3072) (hi : i + 6 ≤ S.1) (iX : InvX h st) (iM : InvM h st) (hB : BT st.2.2.1) (next : ∀ st' h', InvX h' st' → InvM h' st' → BT st'.2.2.1 → V S 100 0 1296 [.ref 1000, .ref 0, .ref 188, .int (nI i)] [] h' Q) : V S 100 0 1019 [.ref 1000, .ref 0, .ref 188, .int (nI i)] [] h Q := by
  refine V_aload_n rfl rfl (by first | assumption | rfl) ?_
  refine V_aload_n rfl rfl (by first | assumption | rfl) ?_
  refine V_iload_n rfl rfl ?_
  refine V_ic (v := nI 1) rfl rfl ?_
  refine V_iadd rfl ?_
  -- at 1024: .iaload
  rw [nI_add]
  refine V_scr rfl (by omega) hS ?_
  refine V_aload_n rfl rfl (by first | assumption | rfl) ?_
  refine V_iload_n rfl rfl ?_
  refine V_ic (v := nI 2) rfl rfl ?_
  refine V_iadd rfl ?_
  -- at 1029: .iaload
  rw [nI_add]
  refine V_scr rfl (by omega) hS ?_
  refine V_callV rfl rfl (by first | assumption | rfl) rfl rfl (x_told (dep := 79) iX) ?_
  rintro _ h1 ⟨rfl, iX1, fx⟩
  have iM1 := iM.fx fx
  show V S 100 0 1033 [.ref 1000, .ref 0, .ref 188, .int (nI i)] [.int _] h1 _
  refine V_aload_n rfl rfl (by first | assumption | rfl) ?_
  refine V_aload_n rfl rfl (by first | assumption | rfl) ?_
  refine V_iload_n rfl rfl ?_
  refine V_ic (v := nI 1) rfl rfl ?_
  refine V_iadd rfl ?_
  -- at 1038: .iaload
  rw [nI_add]
  refine V_scr rfl (by omega) hS ?_
  refine V_aload_n rfl rfl (by first | assumption | rfl) ?_
  refine V_iload_n rfl rfl ?_
  refine V_ic (v := nI 2) rfl rfl ?_
  refine V_iadd rfl ?_
  -- at 1043: .iaload
  rw [nI_add]
  refine V_scr rfl (by omega) hS ?_
  refine V_callV rfl rfl (by first | assumption | rfl) rfl rfl (y_told (dep := 79) iM1) ?_
  rintro _ h2 ⟨rfl, iM2, fm⟩
  have iX2 := iX1.fm fm
  refine V_icmp_eq rfl (fun hc => ?_) (fun hc => ?_)
  · exact next _ _ iX2 iM2 hB
  · exact absurd rfl hc
theorem lw_c26 {S : mScr} {i : Nat} {st : St} {h : Hp} {Q : Option Value → Hp → Prop} (hS : S.1 ≤ 3072) (hi : i + 6 ≤ S.1) (iX : InvX h st) (iM : InvM h st) (hB : BT st.2.2.1) (next : ∀ st' h', InvX h' st' → InvM h' st' → BT st'.2.2.1 → V S 100 0 1296 [.ref 1000, .ref 0, .ref 188, .int (nI i)] [] h' Q) : V S 100 0 1052 [.ref 1000, .ref 0, .ref 188, .int (nI i)] [] h Q := by
  refine V_aload_n rfl rfl (by first | assumption | rfl) ?_
  refine V_aload_n rfl rfl (by first | assumption | rfl) ?_
  refine V_iload_n rfl rfl ?_
  refine V_ic (v := nI 1) rfl rfl ?_
  refine V_iadd rfl ?_
  -- at 1057: .iaload
  rw [nI_add]
  refine V_scr rfl (by omega) hS ?_
  refine V_aload_n rfl rfl (by first | assumption | rfl) ?_
  refine V_iload_n rfl rfl ?_
  refine V_ic (v := nI 2) rfl rfl ?_
  refine V_iadd rfl ?_
  -- at 1062: .iaload
  rw [nI_add]
  refine V_scr rfl (by omega) hS ?_
  refine V_callV rfl rfl (by first | assumption | rfl) rfl rfl (x_degr (dep := 79) iX) ?_
  rintro _ h1 ⟨rfl, iX1, fx⟩
  have iM1 := iM.fx fx
  show V S 100 0 1066 [.ref 1000, .ref 0, .ref 188, .int (nI i)] [.int _] h1 _
  refine V_aload_n rfl rfl (by first | assumption | rfl) ?_
  refine V_aload_n rfl rfl (by first | assumption | rfl) ?_
  refine V_iload_n rfl rfl ?_
  refine V_ic (v := nI 1) rfl rfl ?_
  refine V_iadd rfl ?_
  -- at 1071: .iaload
  rw [nI_add]
  refine V_scr rfl (by omega) hS ?_
  refine V_aload_n rfl rfl (by first | assumption | rfl) ?_
  refine V_iload_n rfl rfl ?_
  refine V_ic (v := nI 2) rfl rfl ?_
  refine V_iadd rfl ?_
  -- at 1076: .iaload
  rw [nI_add]
  refine V_scr rfl (by omega) hS ?_
  refine V_callV rfl rfl (by first | assumption | rfl) rfl rfl (y_degr (dep := 79) iM1) ?_
  rintro _ h2 ⟨rfl, iM2, fm⟩
  have iX2 := iX1.fm fm
  refine V_icmp_eq rfl (fun hc => ?_) (fun hc => ?_)
  · exact next _ _ iX2 iM2 hB
  · exact absurd rfl hc
theorem lw_c27 {S : mScr} {i : Nat} {st : St} {h : Hp} {Q : Option Value → Hp → Prop} (hS : S.1 ≤ 3072) (hi : i + 6 ≤ S.1) (iX : InvX h st) (iM : InvM h st) (hB : BT st.2.2.1) (next : ∀ st' h', InvX h' st' → InvM h' st' → BT st'.2.2.1 → V S 100 0 1296 [.ref 1000, .ref 0, .ref 188, .int (nI i)] [] h' Q) : V S 100 0 1085 [.ref 1000, .ref 0, .ref 188, .int (nI i)] [] h Q := by
  refine V_aload_n rfl rfl (by first | assumption | rfl) ?_
  refine V_aload_n rfl rfl (by first | assumption | rfl) ?_
  refine V_iload_n rfl rfl ?_
  refine V_ic (v := nI 1) rfl rfl ?_
  refine V_iadd rfl ?_
  -- at 1090: .iaload
  rw [nI_add]
  refine V_scr rfl (by omega) hS ?_
  refine V_aload_n rfl rfl (by first | assumption | rfl) ?_
  refine V_iload_n rfl rfl ?_
  refine V_ic (v := nI 2) rfl rfl ?_
  refine V_iadd rfl ?_
  -- at 1095: .iaload
  rw [nI_add]
  refine V_scr rfl (by omega) hS ?_
  refine V_callV rfl rfl (by first | assumption | rfl) rfl rfl (x_tolp (dep := 79) iX) ?_
  rintro _ h1 ⟨rfl, iX1, fx⟩
  have iM1 := iM.fx fx
  show V S 100 0 1099 [.ref 1000, .ref 0, .ref 188, .int (nI i)] [.int _] h1 _
  refine V_aload_n rfl rfl (by first | assumption | rfl) ?_
  refine V_aload_n rfl rfl (by first | assumption | rfl) ?_
  refine V_iload_n rfl rfl ?_
  refine V_ic (v := nI 1) rfl rfl ?_
  refine V_iadd rfl ?_
  -- at 1104: .iaload
  rw [nI_add]
  refine V_scr rfl (by omega) hS ?_
  refine V_aload_n rfl rfl (by first | assumption | rfl) ?_
  refine V_iload_n rfl rfl ?_
  refine V_ic (v := nI 2) rfl rfl ?_
  refine V_iadd rfl ?_
  -- at 1109: .iaload
  rw [nI_add]
  refine V_scr rfl (by omega) hS ?_
  refine V_callV rfl rfl (by first | assumption | rfl) rfl rfl (y_tolp (dep := 79) iM1) ?_
  rintro _ h2 ⟨rfl, iM2, fm⟩
  have iX2 := iX1.fm fm
  refine V_icmp_eq rfl (fun hc => ?_) (fun hc => ?_)
  · exact next _ _ iX2 iM2 hB
  · exact absurd rfl hc
theorem lw_c28 {S : mScr} {i : Nat} {st : St} {h : Hp} {Q : Option Value → Hp → Prop} (hS : S.1 ≤ 3072) (hi : i + 6 ≤ S.1) (iX : InvX h st) (iM : InvM h st) (hB : BT st.2.2.1) (next : ∀ st' h', InvX h' st' → InvM h' st' → BT st'.2.2.1 → V S 100 0 1296 [.ref 1000, .ref 0, .ref 188, .int (nI i)] [] h' Q) : V S 100 0 1118 [.ref 1000, .ref 0, .ref 188, .int (nI i)] [] h Q := by
  refine V_aload_n rfl rfl (by first | assumption | rfl) ?_
  refine V_aload_n rfl rfl (by first | assumption | rfl) ?_
  refine V_iload_n rfl rfl ?_
  refine V_ic (v := nI 1) rfl rfl ?_
  refine V_iadd rfl ?_
  -- at 1123: .iaload
  rw [nI_add]
  refine V_scr rfl (by omega) hS ?_
  refine V_aload_n rfl rfl (by first | assumption | rfl) ?_
  refine V_iload_n rfl rfl ?_
  refine V_ic (v := nI 2) rfl rfl ?_
  refine V_iadd rfl ?_
  -- at 1128: .iaload
  rw [nI_add]
  refine V_scr rfl (by omega) hS ?_
  refine V_callV rfl rfl (by first | assumption | rfl) rfl rfl (x_tolt (dep := 79) iX) ?_
  rintro _ h1 ⟨rfl, iX1, fx⟩
  have iM1 := iM.fx fx
  show V S 100 0 1132 [.ref 1000, .ref 0, .ref 188, .int (nI i)] [.int _] h1 _
  refine V_aload_n rfl rfl (by first | assumption | rfl) ?_
  refine V_aload_n rfl rfl (by first | assumption | rfl) ?_
  refine V_iload_n rfl rfl ?_
  refine V_ic (v := nI 1) rfl rfl ?_
  refine V_iadd rfl ?_
  -- at 1137: .iaload
  rw [nI_add]
  refine V_scr rfl (by omega) hS ?_
  refine V_aload_n rfl rfl (by first | assumption | rfl) ?_
  refine V_iload_n rfl rfl ?_
  refine V_ic (v := nI 2) rfl rfl ?_
  refine V_iadd rfl ?_
  -- at 1142: .iaload
  rw [nI_add]
  refine V_scr rfl (by omega) hS ?_
  refine V_callV rfl rfl (by first | assumption | rfl) rfl rfl (y_tolt (dep := 79) iM1) ?_
  rintro _ h2 ⟨rfl, iM2, fm⟩
  have iX2 := iX1.fm fm
  refine V_icmp_eq rfl (fun hc => ?_) (fun hc => ?_)
  · exact next _ _ iX2 iM2 hB
  · exact absurd rfl hc
theorem lw_c29 {S : mScr} {i : Nat} {st : St} {h : Hp} {Q : Option Value → Hp → Prop} (hS : S.1 ≤ 3072) (hi : i + 6 ≤ S.1) (iX : InvX h st) (iM : InvM h st) (hB : BT st.2.2.1) (next : ∀ st' h', InvX h' st' → InvM h' st' → BT st'.2.2.1 → V S 100 0 1296 [.ref 1000, .ref 0, .ref 188, .int (nI i)] [] h' Q) : V S 100 0 1151 [.ref 1000, .ref 0, .ref 188, .int (nI i)] [] h Q := by
  refine V_aload_n rfl rfl (by first | assumption | rfl) ?_
  refine V_aload_n rfl rfl (by first | assumption | rfl) ?_
  refine V_iload_n rfl rfl ?_
  refine V_ic (v := nI 1) rfl rfl ?_
  refine V_iadd rfl ?_
  -- at 1156: .iaload
  rw [nI_add]
  refine V_scr rfl (by omega) hS ?_
  refine V_aload_n rfl rfl (by first | assumption | rfl) ?_
  refine V_iload_n rfl rfl ?_
  refine V_ic (v := nI 2) rfl rfl ?_
  refine V_iadd rfl ?_
  -- at 1161: .iaload
  rw [nI_add]
  refine V_scr rfl (by omega) hS ?_
  refine V_callV rfl rfl (by first | assumption | rfl) rfl rfl (x_prov (dep := 79) iX) ?_
  rintro _ h1 ⟨rfl, iX1, fx⟩
  have iM1 := iM.fx fx
  show V S 100 0 1165 [.ref 1000, .ref 0, .ref 188, .int (nI i)] [.int _] h1 _
  refine V_aload_n rfl rfl (by first | assumption | rfl) ?_
  refine V_aload_n rfl rfl (by first | assumption | rfl) ?_
  refine V_iload_n rfl rfl ?_
  refine V_ic (v := nI 1) rfl rfl ?_
  refine V_iadd rfl ?_
  -- at 1170: .iaload
  rw [nI_add]
  refine V_scr rfl (by omega) hS ?_
  refine V_aload_n rfl rfl (by first | assumption | rfl) ?_
  refine V_iload_n rfl rfl ?_
  refine V_ic (v := nI 2) rfl rfl ?_
  refine V_iadd rfl ?_
  -- at 1175: .iaload
  rw [nI_add]
  refine V_scr rfl (by omega) hS ?_
  refine V_callV rfl rfl (by first | assumption | rfl) rfl rfl (y_prov (dep := 79) iM1) ?_
  rintro _ h2 ⟨rfl, iM2, fm⟩
  have iX2 := iX1.fm fm
  refine V_icmp_eq rfl (fun hc => ?_) (fun hc => ?_)
  · exact next _ _ iX2 iM2 hB
  · exact absurd rfl hc
theorem lw_c30 {S : mScr} {i : Nat} {st : St} {h : Hp} {Q : Option Value → Hp → Prop} (hS : S.1 ≤ 3072) (hi : i + 6 ≤ S.1) (iX : InvX h st) (iM : InvM h st) (hB : BT st.2.2.1) (next : ∀ st' h', InvX h' st' → InvM h' st' → BT st'.2.2.1 → V S 100 0 1296 [.ref 1000, .ref 0, .ref 188, .int (nI i)] [] h' Q) : V S 100 0 1184 [.ref 1000, .ref 0, .ref 188, .int (nI i)] [] h Q := by
  refine V_aload_n rfl rfl (by first | assumption | rfl) ?_
  refine V_aload_n rfl rfl (by first | assumption | rfl) ?_
  refine V_iload_n rfl rfl ?_
  refine V_ic (v := nI 1) rfl rfl ?_
  refine V_iadd rfl ?_
  -- at 1189: .iaload
  rw [nI_add]
  refine V_scr rfl (by omega) hS ?_
  refine V_callV rfl rfl (by first | assumption | rfl) rfl rfl (x_reas (dep := 79) iX) ?_
  rintro _ h1 ⟨rfl, iX1, fx⟩
  have iM1 := iM.fx fx
  show V S 100 0 1193 [.ref 1000, .ref 0, .ref 188, .int (nI i)] [.int _] h1 _
  refine V_aload_n rfl rfl (by first | assumption | rfl) ?_
  refine V_aload_n rfl rfl (by first | assumption | rfl) ?_
  refine V_iload_n rfl rfl ?_
  refine V_ic (v := nI 1) rfl rfl ?_
  refine V_iadd rfl ?_
  -- at 1198: .iaload
  rw [nI_add]
  refine V_scr rfl (by omega) hS ?_
  refine V_callV rfl rfl (by first | assumption | rfl) rfl rfl (y_reas (dep := 79) iM1) ?_
  rintro _ h2 ⟨rfl, iM2, fm⟩
  have iX2 := iX1.fm fm
  refine V_icmp_eq rfl (fun hc => ?_) (fun hc => ?_)
  · exact next _ _ iX2 iM2 hB
  · exact absurd rfl hc
theorem lw_c31 {S : mScr} {i : Nat} {st : St} {h : Hp} {Q : Option Value → Hp → Prop} (hS : S.1 ≤ 3072) (hi : i + 6 ≤ S.1) (iX : InvX h st) (iM : InvM h st) (hB : BT st.2.2.1) (next : ∀ st' h', InvX h' st' → InvM h' st' → BT st'.2.2.1 → V S 100 0 1296 [.ref 1000, .ref 0, .ref 188, .int (nI i)] [] h' Q) : V S 100 0 1207 [.ref 1000, .ref 0, .ref 188, .int (nI i)] [] h Q := by
  refine V_aload_n rfl rfl (by first | assumption | rfl) ?_
  refine V_aload_n rfl rfl (by first | assumption | rfl) ?_
  refine V_iload_n rfl rfl ?_
  refine V_ic (v := nI 1) rfl rfl ?_
  refine V_iadd rfl ?_
  -- at 1212: .iaload
  rw [nI_add]
  refine V_scr rfl (by omega) hS ?_
  refine V_aload_n rfl rfl (by first | assumption | rfl) ?_
  refine V_iload_n rfl rfl ?_
  refine V_ic (v := nI 2) rfl rfl ?_
  refine V_iadd rfl ?_
  -- at 1217: .iaload
  rw [nI_add]
  refine V_scr rfl (by omega) hS ?_
  refine V_callV rfl rfl (by first | assumption | rfl) rfl rfl (x_answ (dep := 79) iX) ?_
  rintro _ h1 ⟨rfl, iX1, fx⟩
  have iM1 := iM.fx fx
  show V S 100 0 1221 [.ref 1000, .ref 0, .ref 188, .int (nI i)] [.int _] h1 _
  refine V_aload_n rfl rfl (by first | assumption | rfl) ?_
  refine V_aload_n rfl rfl (by first | assumption | rfl) ?_
  refine V_iload_n rfl rfl ?_
  refine V_ic (v := nI 1) rfl rfl ?_
  refine V_iadd rfl ?_
  -- at 1226: .iaload
  rw [nI_add]
  refine V_scr rfl (by omega) hS ?_
  refine V_aload_n rfl rfl (by first | assumption | rfl) ?_
  refine V_iload_n rfl rfl ?_
  refine V_ic (v := nI 2) rfl rfl ?_
  refine V_iadd rfl ?_
  -- at 1231: .iaload
  rw [nI_add]
  refine V_scr rfl (by omega) hS ?_
  refine V_callV rfl rfl (by first | assumption | rfl) rfl rfl (y_answ (dep := 79) iM1) ?_
  rintro _ h2 ⟨rfl, iM2, fm⟩
  have iX2 := iX1.fm fm
  refine V_icmp_eq rfl (fun hc => ?_) (fun hc => ?_)
  · exact next _ _ iX2 iM2 hB
  · exact absurd rfl hc
theorem lw_c32 {S : mScr} {i : Nat} {st : St} {h : Hp} {Q : Option Value → Hp → Prop} (hS : S.1 ≤ 3072) (hi : i + 6 ≤ S.1) (iX : InvX h st) (iM : InvM h st) (hB : BT st.2.2.1) (next : ∀ st' h', InvX h' st' → InvM h' st' → BT st'.2.2.1 → V S 100 0 1296 [.ref 1000, .ref 0, .ref 188, .int (nI i)] [] h' Q) : V S 100 0 1240 [.ref 1000, .ref 0, .ref 188, .int (nI i)] [] h Q := by
  refine V_aload_n rfl rfl (by first | assumption | rfl) ?_
  refine V_aload_n rfl rfl (by first | assumption | rfl) ?_
  refine V_iload_n rfl rfl ?_
  refine V_ic (v := nI 1) rfl rfl ?_
  refine V_iadd rfl ?_
  -- at 1245: .iaload
  rw [nI_add]
  refine V_scr rfl (by omega) hS ?_
  refine V_aload_n rfl rfl (by first | assumption | rfl) ?_
  refine V_iload_n rfl rfl ?_
  refine V_ic (v := nI 2) rfl rfl ?_
  refine V_iadd rfl ?_
  -- at 1250: .iaload
  rw [nI_add]
  refine V_scr rfl (by omega) hS ?_
  refine V_callV rfl rfl (by first | assumption | rfl) rfl rfl (x_mend (dep := 79) iX) ?_
  rintro _ h1 ⟨rfl, iX1, fx⟩
  have iM1 := iM.fx fx
  show V S 100 0 1254 [.ref 1000, .ref 0, .ref 188, .int (nI i)] [.int _] h1 _
  refine V_aload_n rfl rfl (by first | assumption | rfl) ?_
  refine V_aload_n rfl rfl (by first | assumption | rfl) ?_
  refine V_iload_n rfl rfl ?_
  refine V_ic (v := nI 1) rfl rfl ?_
  refine V_iadd rfl ?_
  -- at 1259: .iaload
  rw [nI_add]
  refine V_scr rfl (by omega) hS ?_
  refine V_aload_n rfl rfl (by first | assumption | rfl) ?_
  refine V_iload_n rfl rfl ?_
  refine V_ic (v := nI 2) rfl rfl ?_
  refine V_iadd rfl ?_
  -- at 1264: .iaload
  rw [nI_add]
  refine V_scr rfl (by omega) hS ?_
  refine V_callV rfl rfl (by first | assumption | rfl) rfl rfl (y_mend (dep := 79) iM1) ?_
  rintro _ h2 ⟨rfl, iM2, fm⟩
  have iX2 := iX1.fm fm
  refine V_icmp_eq rfl (fun hc => ?_) (fun hc => ?_)
  · exact next _ _ iX2 iM2 hB
  · exact absurd rfl hc
theorem lw_c33 {S : mScr} {i : Nat} {st : St} {h : Hp} {Q : Option Value → Hp → Prop} (hS : S.1 ≤ 3072) (hi : i + 6 ≤ S.1) (iX : InvX h st) (iM : InvM h st) (hB : BT st.2.2.1) (next : ∀ st' h', InvX h' st' → InvM h' st' → BT st'.2.2.1 → V S 100 0 1296 [.ref 1000, .ref 0, .ref 188, .int (nI i)] [] h' Q) : V S 100 0 1273 [.ref 1000, .ref 0, .ref 188, .int (nI i)] [] h Q := by
  refine V_aload_n rfl rfl (by first | assumption | rfl) ?_
  refine V_aload_n rfl rfl (by first | assumption | rfl) ?_
  refine V_iload_n rfl rfl ?_
  refine V_ic (v := nI 1) rfl rfl ?_
  refine V_iadd rfl ?_
  -- at 1278: .iaload
  rw [nI_add]
  refine V_scr rfl (by omega) hS ?_
  refine V_callV rfl rfl (by first | assumption | rfl) rfl rfl (x_count (dep := 79) iX) ?_
  rintro _ h1 ⟨rfl, iX1, fx⟩
  have iM1 := iM.fx fx
  show V S 100 0 1282 [.ref 1000, .ref 0, .ref 188, .int (nI i)] [.int _] h1 _
  refine V_aload_n rfl rfl (by first | assumption | rfl) ?_
  refine V_aload_n rfl rfl (by first | assumption | rfl) ?_
  refine V_iload_n rfl rfl ?_
  refine V_ic (v := nI 1) rfl rfl ?_
  refine V_iadd rfl ?_
  -- at 1287: .iaload
  rw [nI_add]
  refine V_scr rfl (by omega) hS ?_
  refine V_callV rfl rfl (by first | assumption | rfl) rfl rfl (y_count (dep := 79) iM1) ?_
  rintro _ h2 ⟨rfl, iM2, fm⟩
  have iX2 := iX1.fm fm
  refine V_icmp_eq rfl (fun hc => ?_) (fun hc => ?_)
  · exact next _ _ iX2 iM2 hB
  · exact absurd rfl hc
