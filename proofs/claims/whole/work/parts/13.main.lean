/-! CALLS, AND THE WHOLE RUN -/
section RUN
variable {p : Program} {l : Launch} {e : Env} {R : Room} {s : State} {m : MethodId} {args : Array Value} {below : List Frame} {meth : Method} {c : Code} {Q : State → Prop} {D : va_G} {cA : Nat → ClassId} {xe : Nat → Value} {A : Nat → Prop} {SL : Nat} {sx : Nat → Int32} {dep k pc : Nat} {xa : Nat → Nat} {H : Heap} {locs : List Loc} {cells slots : Nat} {ls : Array Slot} {L st : List Value} {G : mH} {nx aux j : Nat}
theorem call0_eq {i : Instr} {k1 pc1 : Nat} {as rest : List Value} (h : call0 k (i, nx, aux) st = some (.inr (.inr (k1, as, pc1, rest)))) : k1 = aux ∧ pc1 = nx ∧ st = as.reverse ++ rest ∧ as.length = mArgs aux ∧ catS rest ≤ 8 ∧ (wrds as).length ≤ mMax aux := by
  unfold call0 at h
  obtain ⟨hw, h⟩ := gc1_eq h
  simp only [Option.some.injEq, Sum.inr.injEq, Prod.mk.injEq] at h
  obtain ⟨rfl, rfl, rfl, rfl⟩ := h
  simp only [Bool.and_eq_true] at hw
  obtain ⟨⟨w1, w2⟩, w3⟩ := hw
  have w1 := ble_l w1
  exact ⟨rfl, rfl, by rw [List.reverse_reverse, List.take_append_drop], by rw [List.length_reverse, List.length_take]; exact Nat.min_eq_left w1, ble_l w2, by rw [wrds_rev]; exact ble_l w3⟩
theorem free_up (hW : Wd D cA xe A s xa G H locs) (hA : ∀ q, s.heap.size ≤ q → A q) : ∀ q, va_A (wsW cA xa xe G) H.size q → A q := by
  intro q h
  rcases h with ⟨k, e, h⟩ | h
  · exact hW.2.2.1.2 k (q, e) h
  · exact hA q (Nat.le_trans hW.2.2.2.1 h)
theorem pre_up (hC : Cx p R s m args meth c D cA xe A SL sx dep k) (hW : Wd D cA xe A s xa G H locs) (as : List Value) : ∀ U : State, U.heap = H → s.WarmedH U.vm → mPc D cA xe SL sx xa G H.size as (as.map (mvv xa xe)).toArray U := by
  intro U hU hWm
  obtain ⟨hF, hK, hE, hA, hR, hxe⟩ := hC
  refine ⟨rfl, by rw [hU], by rw [hU]; exact hW.2.1, va_K.moved hWm.alike hK, hW.2.2.1.weaken (fun _ _ _ _ => trivial), ?_⟩
  rw [hU]
  exact hE.to hWm hW.2.2.2 (free_up hW hA)
/-- behind a call -/
theorem run_go {r : Option Value} {G' : mH} {st0 rest : List Value} {a : Array Value} {mc ms : Nat} (hr : va_Run p l e R s m args below meth c H locs cells slots mc ms (F0 m pc ls st0) rest (mQc D cA xe xa G H.size r G' a) (va_A (wsW cA xa xe G) H.size)) (hW : Wd D cA xe A s xa G H locs) (hA : ∀ q, s.heap.size ≤ q → A q)
    (kk : ∀ (xa' : Nat → Nat) (H' : Heap) (locs' : List Loc), (∀ j, j < G.length → xa' j = xa j) → (G'.length = G.length → xa' = xa) → Wd D cA xe A s xa' G' H' locs' → W p l e R s m args below meth c H' locs' (cells + mc) (slots + ms) Q (F0 m (pc + 3) ls ((r.toList.map (mvv xa' xe)) ++ rest))) : W p l e R s m args below meth c H locs cells slots Q (F0 m pc ls st0) := by
  intro T hT X
  obtain ⟨v, st₀, t, T', Lc, h0, X', hL', e1, e2, ⟨⟨xa', x1, x2, x3, x4, x5, x6⟩, hz, hk⟩, stp⟩ := hr T hT X
  rw [h0] at hz hk
  have hup := free_up hW hA
  have hS := hW.2.2.2
  have ev : v = r.map (mvv xa' xe) := by
    injection x3
  subst ev
  have hW' : Wd D cA xe A s xa' G' T'.heap (locs ++ Lc) := by
    refine ⟨x4, by rw [e1]; exact x5, x6.weaken (fun _ q _ h => hup q.1 h), Nat.le_trans hS.1 (by rw [e1]; exact hz), fun q h1 h2 => ?_, fun q hq => ?_⟩
    · rw [e1, hk q (Nat.lt_of_lt_of_le h1 hS.1) (fun z => h2 (hup q z))]
      exact hS.2.1 q h1 h2
    · rcases List.mem_append.mp hq with h | h
      · exact hS.2.2 q h
      · exact hup _ (hL' q h)
  obtain ⟨t2, a1, b1⟩ := kk xa' T'.heap (locs ++ Lc) x1 x2 hW' T' rfl X'
  refine ⟨t2, stp t2 ?_, b1⟩
  have ee : (r.map (mvv xa' xe)).toList ++ rest = r.toList.map (mvv xa' xe) ++ rest := by cases r <;> rfl
  rw [ee]
  exact a1
theorem rcv_eq {v : Value} (h : rcv G aux (some v) = true) : ∃ a : Nat, v = .ref a ∧ ((Nat.beq (mCls aux) 50 = true ∧ 1010 ≤ a ∧ a ≤ 1013) ∨ (Nat.beq (mCls aux) 50 = false ∧ ∃ fs, G[a]? = some (.inr (mCls aux, fs)))) := by
  cases v with
  | ref a =>
    refine ⟨a, rfl, ?_⟩
    unfold rcv at h
    dsimp only at h
    cases hb : Nat.beq (mCls aux) 50 with
    | true =>
      rw [hb, cond_true, Bool.and_eq_true] at h
      exact Or.inl ⟨rfl, ble_l h.1, ble_l h.2⟩
    | false =>
      rw [hb, cond_false] at h
      cases ho : ownO G a with
      | none => rw [ho] at h; cases h
      | some o =>
        rw [ho] at h
        have h1 := ownO_eq ho
        have h2 := Nat.eq_of_beq_eq_true h
        rw [← h2]
        exact Or.inr ⟨rfl, o.2, h1⟩
  | _ => cases h
theorem call_ok {n d : Nat} {i : Instr} {k1 pc1 : Nat} {as rest : List Value} {r : Option Value} {G' : mH} (IH : Snd l SL sx n) (hC : Cx p R s m args meth c D cA xe A SL sx (d + 1) k) (hW : Wd D cA xe A s xa G H locs) (hL : lR xa xe ls (mMax k) L) (ho : chkE k (pc, (i, nx, aux), j) = true)
    (h : dstep SL sx (d + 1) k pc (i, nx, aux) L st G = some (.inr (.inr (k1, as, pc1, rest)))) (hc : dexec SL sx n d k1 0 (entL (mMax k1) as) [] G = some (r, G')) (hg : cells + (G'.length - G.length) ≤ R.cells ∧ slots + (szG G' - szG G) ≤ R.slots)
    (kk : ∀ (xa' : Nat → Nat) (H' : Heap) (locs' : List Loc), (∀ j, j < G.length → xa' j = xa j) → (G'.length = G.length → xa' = xa) → Wd D cA xe A s xa' G' H' locs' → W p l e R s m args below meth c H' locs' (cells + (G'.length - G.length)) (slots + (szG G' - szG G)) Q (F0 m pc1 ls ((r.toList.map (mvv xa' xe)) ++ rest.map (mvv xa xe)))) : W p l e R s m args below meth c H locs cells slots Q (F0 m pc ls (st.map (mvv xa xe))) := by
  obtain ⟨⟨hx, hb, hr, hlk, hml, hown, hts, hin⟩, hK, hE, hA, hR, hxe⟩ := id hC
  have hS := hW.2.2.2
  have hfix : CallFix p m c (mCode k) (mMax k) s args lwG (mName k).cls := ⟨hx, hb, hml, hown, hts⟩
  have hroom : ∀ k0, chkM k0 = true → (rmM d (G'.length - G.length) (szG G' - szG G)).frames + 1 ≤ R.frames ∧ 8 + (mMax k0 + 11) + (rmM d (G'.length - G.length) (szG G' - szG G)).locals ≤ R.locals := by
    intro k0 hk0
    have h4 := (chkM_eq hk0).2.2.2.1
    refine ⟨?_, ?_⟩
    · show d + 1 ≤ _
      exact hR.1
    · show 8 + (mMax k0 + 11) + 64 * d ≤ _
      have := hR.2
      omega
  cases i with
  | invokestatic i =>
    obtain ⟨hd, rfl, hq⟩ := ckd (fun _ => rfl) ho
    rw [dq_invokestatic] at h
    unfold chkX at hq
    dsimp only at hq
    cases h1 : Nat.beq aux 901 with
    | true =>
      rw [h1, cond_true] at h
      split at h
      · obtain ⟨_, _, h⟩ := Option.bind_eq_some_iff.mp h
        obtain ⟨_, _, h⟩ := Option.bind_eq_some_iff.mp h
        obtain ⟨_, h⟩ := gc1_eq h
        cases h
      · cases h
    | false =>
      rw [h1, cond_false] at h hq
      cases h2 : Nat.beq aux 902 with
      | true =>
        rw [h2, cond_true] at h
        obtain ⟨_, _, h⟩ := Option.bind_eq_some_iff.mp h
        obtain ⟨_, _, h⟩ := Option.bind_eq_some_iff.mp h
        obtain ⟨_, h⟩ := gc1_eq h
        cases h
      | false =>
        rw [h2, cond_false] at h hq
        cases h3 : Nat.beq aux 903 with
        | true =>
          rw [h3, cond_true] at h
          obtain ⟨_, _, h⟩ := Option.bind_eq_some_iff.mp h
          obtain ⟨_, _, h⟩ := Option.bind_eq_some_iff.mp h
          obtain ⟨_, h⟩ := gc1_eq h
          cases h
        | false =>
          rw [h3, cond_false] at h hq
          obtain ⟨hk0, h⟩ := gc1_eq h
          obtain ⟨rfl, rfl, rfl, hal, hca, hwr⟩ := call0_eq h
          rw [Bool.and_eq_true] at hq
          have hk0 := Nat.eq_of_beq_eq_true hk0
          have hkp : 0 < k1 := by
            rcases Nat.eq_zero_or_pos k1 with q | q
            · subst q
              exact absurd (hasW_mem hq.1) w_nolaw
            · exact q
          have hm := meth_ok hkp (blt_l hq.2)
          obtain ⟨z1, z2⟩ := chkM_0 hm hk0
          obtain ⟨m1, m2, m3, m4, m5⟩ := chkM_eq hm
          have hM := met_of (D := D) (cA := cA) IH hxe hc hwr hW.1 hm xa H.size
          have hGI : GoodIn lwG (va_wsS (mName k).cls i (mName k1) (wsM k1)) := by
            intro w hw
            rcases List.mem_append.mp hw with h9 | h9
            · simp only [List.mem_cons, List.not_mem_nil, or_false] at h9
              rcases h9 with rfl | rfl | rfl
              · exact lwG_good (lwG_mem (hasW_mem hq.1) rfl)
              · exact lwG_good z1
              · exact lwG_good m2
            · exact good_wsM hm w h9
          have hrun := va_runS (e := e) (below := below) (meth := meth) (locs := locs) (g := F0 m pc ls ((as.reverse ++ rest).map (mvv xa xe))) (As := as.map (mvv xa xe)) (rest := rest.map (mvv xa xe)) hfix hM (va_cwS (mArgs k1) hts hGI rfl rfl rfl ⟨m3.1, m3.2, z2⟩ (hroom k1 hm)) ⟨mPc_blind, pre_up hC hW as⟩ rfl (by rw [List.length_map]; exact hal) hL.2.1 (by rw [List.map_append, List.map_reverse]) (lv_room (by rw [mvv_catS hxe]; exact hca)) hd hg
          exact run_go hrun hW hA kk
  | invokevirtual i =>
    obtain ⟨hd, rfl, hq⟩ := ckd (fun _ => rfl) ho
    rw [dq_invokevirtual] at h
    unfold chkX at hq
    dsimp only at hq
    obtain ⟨hk0, h⟩ := gc1_eq h
    rw [Bool.and_eq_true] at hk0 hq
    obtain ⟨hk0, hrc⟩ := hk0
    have hst := call0_eq h
    obtain ⟨rfl, rfl, -, hal, hca, hwr⟩ := hst
    have hst := (call0_eq h).2.2.1
    have hk0 := Nat.eq_of_beq_eq_true hk0
    have hkp : 0 < k1 := by
      rcases Nat.eq_zero_or_pos k1 with q | q
      · subst q
        exact absurd (hasW_mem hq.1) w_nolaw
      · exact q
    have hm := meth_ok hkp (blt_l hq.2)
    obtain ⟨z1, z2, z3, z4⟩ := chkM_1 hm hk0
    obtain ⟨z5, z6⟩ := par_1 z3
    obtain ⟨m1, m2, m3, m4, m5⟩ := chkM_eq hm
    obtain ⟨v, tl, rfl⟩ : ∃ v tl, as = v :: tl := by
      cases as with
      | nil => simp at hal; omega
      | cons v tl => exact ⟨v, tl, rfl⟩
    have hat : st[mArgs k1 - 1]? = some v := by
      rw [hst, List.reverse_cons, List.append_assoc, List.getElem?_append_right (by simp at hal ⊢; omega)]
      have : mArgs k1 - 1 - tl.reverse.length = 0 := by simp at hal ⊢; omega
      rw [this]; rfl
    rw [hat] at hrc
    obtain ⟨a, rfl, hrd⟩ := rcv_eq hrc
    · have hrecv : ∃ b, mvv xa xe (.ref a) = .ref b ∧ ∃ cellB : Cell, H[b]? = some cellB ∧ cellB.vm.isStatics = false ∧ s.vm.findClass (mName k1).cls = some cellB.cls := by
        rcases hrd with ⟨x1, a1, a2⟩ | ⟨x1, fs, ho1⟩
        · rcases z4 with ⟨y1, y2⟩ | ⟨y1, -⟩
          · obtain ⟨-, -, -, ⟨tk, tv, k1', k2', -⟩, -⟩ := hE
            have hi : a - 1010 < 4 := by omega
            refine ⟨tk (a - 1010), ?_, ?_⟩
            · rw [mvv_out (by omega), show a - 1000 = 10 + (a - 1010) by omega]
              exact (k1' (a - 1010) hi).2
            · rw [y2]
              exact vk_recv k2' hi hS
          · rw [x1] at y1; cases y1
        · rcases z4 with ⟨y1, -⟩ | ⟨y1, q, y2, y3⟩
          · rw [x1] at y1; cases y1
          · have hlt := lt_of_at ho1
            refine ⟨xa a, mvv_own (Nat.lt_of_lt_of_le hlt hW.1), ?_⟩
            rw [← y3]
            exact va_recv hK hW.2.1 y2 (wsW_at ho1)
      obtain ⟨b, hb1, hcell⟩ := hrecv
      have hM := met_of (D := D) (cA := cA) IH hxe hc hwr hW.1 hm xa H.size
      have hGI : GoodIn lwG (wsV (mName k).cls i (mName k1).cls (mName k1) (wsM k1)) := by
        intro w hw
        rcases List.mem_append.mp hw with h9 | h9
        · simp only [List.mem_cons, List.not_mem_nil, or_false] at h9
          rcases h9 with rfl | rfl | rfl | rfl
          · exact lwG_good (lwG_mem (hasW_mem hq.1) rfl)
          · exact lwG_good z1
          · exact lwG_good z2
          · exact lwG_good m2
        · exact good_wsM hm w h9
      have epre : ∀ U : State, U.heap = H → s.WarmedH U.vm → mPc D cA xe SL sx xa G H.size (.ref a :: tl) (Value.ref b :: tl.map (mvv xa xe)).toArray U := by
        intro U hU hWm
        have := pre_up hC hW (.ref a :: tl) U hU hWm
        rw [List.map_cons, hb1] at this
        exact this
      have hrun := va_runV (e := e) (below := below) (meth := meth) (locs := locs) (g := F0 m pc ls (st.map (mvv xa xe))) (As := tl.map (mvv xa xe)) (rest := rest.map (mvv xa xe)) hfix hM (cwV (mArgs k1 - 1) hts hGI rfl rfl rfl ⟨rfl, m3.1, m3.2, z5⟩ (hroom k1 hm)) ⟨mPc_blind, hcell, epre⟩ rfl (by rw [List.length_map]; simp at hal; omega) hL.2.1 (by
        show st.map (mvv xa xe) = _
        rw [hst, List.reverse_cons, List.append_assoc, List.map_append, List.map_reverse, List.map_append]
        show _ ++ ([mvv xa xe (.ref a)] ++ _) = _
        rw [hb1]; rfl) (lv_room (by rw [mvv_catS hxe]; exact hca)) hd hg
      exact run_go hrun hW hA kk
  | invokespecial i =>
    obtain ⟨hd, rfl, hq⟩ := ckd (fun _ => rfl) ho
    rw [dq_invokespecial] at h
    unfold chkX at hq
    dsimp only at hq
    cases h1 : Nat.beq aux 900 with
    | true =>
      rw [h1, cond_true] at h
      split at h
      · obtain ⟨_, h⟩ := gc1_eq h
        cases h
      · cases h
    | false =>
      rw [h1, cond_false] at h hq
      obtain ⟨hk0, h⟩ := gc1_eq h
      rw [Bool.and_eq_true] at hk0 hq
      obtain ⟨hk0, hrc⟩ := hk0
      have hst := call0_eq h
      obtain ⟨rfl, rfl, -, hal, hca, hwr⟩ := hst
      have hst := (call0_eq h).2.2.1
      have hk0 := Nat.eq_of_beq_eq_true hk0
      have hkp : 0 < k1 := by
        rcases Nat.eq_zero_or_pos k1 with q | q
        · subst q
          exact absurd hk0 (by decide)
        · exact q
      have hm := meth_ok hkp (blt_l hq.2)
      obtain ⟨z1, z2, z3, z4⟩ := chkM_2 hm hk0
      obtain ⟨z5, z6⟩ := par_1 z4
      obtain ⟨m1, m2, m3, m4, m5⟩ := chkM_eq hm
      obtain ⟨v, tl, rfl⟩ : ∃ v tl, as = v :: tl := by
        cases as with
        | nil => simp at hal; omega
        | cons v tl => exact ⟨v, tl, rfl⟩
      have hat : st[mArgs k1 - 1]? = some v := by
        rw [hst, List.reverse_cons, List.append_assoc, List.getElem?_append_right (by simp at hal ⊢; omega)]
        have : mArgs k1 - 1 - tl.reverse.length = 0 := by simp at hal ⊢; omega
        rw [this]; rfl
      rw [hat] at hrc
      split at hrc
      · rename_i a hv
        cases hv
        have hb1 : mvv xa xe (.ref a) = .ref (xa a) := mvv_own (blt_l hrc)
        have hM := met_of (D := D) (cA := cA) IH hxe hc hwr hW.1 hm xa H.size
        have epre : ∀ U : State, U.heap = H → s.WarmedH U.vm → mPc D cA xe SL sx xa G H.size (.ref a :: tl) (Value.ref (xa a) :: tl.map (mvv xa xe)).toArray U := by
          intro U hU hWm
          have := pre_up hC hW (.ref a :: tl) U hU hWm
          rw [List.map_cons, hb1] at this
          exact this
        have estk : st.map (mvv xa xe) = (tl.map (mvv xa xe)).reverse ++ Value.ref (xa a) :: rest.map (mvv xa xe) := by
          rw [hst, List.reverse_cons, List.append_assoc, List.map_append, List.map_reverse, List.map_append]
          show _ ++ ([mvv xa xe (.ref a)] ++ _) = _
          rw [hb1]; rfl
        rw [Bool.or_eq_true] at hq
        have ews : wsM k1 = Cond.code (mName k1) (mCode k1) (mMax k1) none :: lwG := by
          unfold wsM
          rw [z3]
        rcases hq.1 with hq1 | hq1
        · have hrun := va_runI (e := e) (below := below) (meth := meth) (locs := locs) (b := xa a) (g := F0 m pc ls (st.map (mvv xa xe))) (As := tl.map (mvv xa xe)) (rest := rest.map (mvv xa xe)) hfix hM (cwI (mArgs k1 - 1) hts (good_wsM hm) ews rfl rfl (hts _ m2) (hts _ (lwG_mem (hasW_mem hq1) rfl)) (hts _ z1) z2 ⟨m3.1, m3.2, z5⟩ (hroom k1 hm)) ⟨mPc_blind, epre⟩ rfl (by rw [List.length_map]; simp at hal; omega) hL.2.1 estk (lv_room (by rw [mvv_catS hxe]; exact hca)) hd hg
          exact run_go hrun hW hA kk
        · have hn9 : va_Nw (.methodLinkNest (mName k).cls i (mName k1) "DeckBench") s := hE.2.2.2.2.2.2.1 _ _ _ _ (hasW_mem hq1)
          have hrun := va_runIN (e := e) (below := below) (meth := meth) (locs := locs) (b := xa a) (g := F0 m pc ls (st.map (mvv xa xe))) (As := tl.map (mvv xa xe)) (rest := rest.map (mvv xa xe)) hfix hM ⟨va_cnB (mArgs k1 - 1) hts (good_wsM hm) ews rfl rfl hn9 (hts _ m2) ⟨m3.1, m3.2, z5⟩ (hroom k1 hm), z2, hts _ z1⟩ ⟨mPc_blind, epre⟩ rfl (by rw [List.length_map]; simp at hal; omega) hL.2.1 estk (lv_room (by rw [mvv_catS hxe]; exact hca)) hd hg
          exact run_go hrun hW hA kk
      · cases hrc
  | ireturn =>
    rw [dq_ireturn] at h
    split at h
    · obtain ⟨_, h⟩ := gc1_eq h
      cases h
    · cases h
  | areturn =>
    rw [dq_areturn] at h
    split at h
    · obtain ⟨_, h⟩ := gc1_eq h
      cases h
    · cases h
  | return_ =>
    rw [dq_return_] at h
    split at h
    · obtain ⟨_, h⟩ := gc1_eq h
      cases h
    · cases h
  | _ => rcases leaves h with ⟨_, q⟩ | ⟨_, q⟩ | ⟨_, q⟩ | q | q | q <;> cases q
theorem ret_ok {i : Instr} {r : Option Value} (ho : chkE k (pc, (i, nx, aux), j) = true) (h : dstep SL sx dep k pc (i, nx, aux) L st G = some (.inr (.inl r))) : decode (mCode k) pc = .ok (i, 1) ∧ rOk i r (mRet k) ∧ st = r.toList := by
  rcases leaves h with ⟨a, rfl⟩ | ⟨a, rfl⟩ | ⟨a, rfl⟩ | rfl | rfl | rfl
  · rw [dq_invokevirtual] at h
    obtain ⟨_, h⟩ := gc1_eq h
    unfold call0 at h
    obtain ⟨_, h⟩ := gc1_eq h
    cases h
  · rw [dq_invokestatic] at h
    cases h1 : Nat.beq aux 901 with
    | true =>
      rw [h1, cond_true] at h
      split at h
      · obtain ⟨_, _, h⟩ := Option.bind_eq_some_iff.mp h
        obtain ⟨_, _, h⟩ := Option.bind_eq_some_iff.mp h
        obtain ⟨_, h⟩ := gc1_eq h
        cases h
      · cases h
    | false =>
      rw [h1, cond_false] at h
      cases h2 : Nat.beq aux 902 with
      | true =>
        rw [h2, cond_true] at h
        obtain ⟨_, _, h⟩ := Option.bind_eq_some_iff.mp h
        obtain ⟨_, _, h⟩ := Option.bind_eq_some_iff.mp h
        obtain ⟨_, h⟩ := gc1_eq h
        cases h
      | false =>
        rw [h2, cond_false] at h
        cases h3 : Nat.beq aux 903 with
        | true =>
          rw [h3, cond_true] at h
          obtain ⟨_, _, h⟩ := Option.bind_eq_some_iff.mp h
          obtain ⟨_, _, h⟩ := Option.bind_eq_some_iff.mp h
          obtain ⟨_, h⟩ := gc1_eq h
          cases h
        | false =>
          rw [h3, cond_false] at h
          obtain ⟨_, h⟩ := gc1_eq h
          unfold call0 at h
          obtain ⟨_, h⟩ := gc1_eq h
          cases h
  · rw [dq_invokespecial] at h
    cases h1 : Nat.beq aux 900 with
    | true =>
      rw [h1, cond_true] at h
      split at h
      · obtain ⟨_, h⟩ := gc1_eq h
        cases h
      · cases h
    | false =>
      rw [h1, cond_false] at h
      obtain ⟨_, h⟩ := gc1_eq h
      unfold call0 at h
      obtain ⟨_, h⟩ := gc1_eq h
      cases h
  · obtain ⟨hd, -, -⟩ := ckd (fun _ => rfl) ho
    rw [dq_ireturn] at h
    split at h
    · rename_i v
      obtain ⟨hw, h⟩ := gc1_eq h
      cases h
      refine ⟨hd, Or.inl ?_, rfl⟩
      unfold retOk at hw
      split at hw
      · rename_i ty hty
        rw [Bool.and_eq_true] at hw
        exact ⟨v, ty, rfl, rfl, hty, of_decide_eq_true hw.2⟩
      · cases hw
    · cases h
  · obtain ⟨hd, -, -⟩ := ckd (fun _ => rfl) ho
    rw [dq_areturn] at h
    split at h
    · rename_i a
      obtain ⟨hw, h⟩ := gc1_eq h
      cases h
      refine ⟨hd, Or.inr (Or.inl ?_), rfl⟩
      rw [Bool.and_eq_true] at hw
      obtain ⟨w1, w2⟩ := hw
      split at w2
      · rename_i nm hty
        exact ⟨a, nm, rfl, rfl, hty, blt_l w1⟩
      · cases w2
    · cases h
  · obtain ⟨hd, -, -⟩ := ckd (fun _ => rfl) ho
    rw [dq_return_] at h
    split at h
    · obtain ⟨hw, h⟩ := gc1_eq h
      cases h
      exact ⟨hd, Or.inr (Or.inr ⟨rfl, rfl, of_decide_eq_true hw⟩), rfl⟩
    · cases h
end RUN
theorem sound (l : Launch) (SL : Nat) (sx : Nat → Int32) : ∀ n, Snd l SL sx n := by
  intro n
  induction n with
  | zero => intro dep k pc L st G r G' h; cases h
  | succ n ih =>
    intro dep k pc L st G r G' h p e R s m args below meth c Q D cA xe A xa H locs cells slots ls hC hW hL hg hret
    have h0 := h
    unfold dexec at h
    cases hp : prog k pc with
    | none => rw [hp] at h; cases h
    | some e1 =>
      rw [hp] at h
      dsimp only at h
      obtain ⟨j, hj⟩ := prog_ok hp
      obtain ⟨i, nx, aux⟩ := e1
      have hgr := dstep_grw SL sx dep k pc i nx aux L st G
      cases hs : dstep SL sx dep k pc (i, nx, aux) L st G with
      | none => rw [hs] at h; cases h
      | some q =>
        rw [hs] at h hgr
        rcases q with ⟨pc1, L1, st1, G1⟩ | r1 | ⟨k1, as, pc1, rest⟩
        · dsimp only at h
          have z3 : G.length ≤ G1.length ∧ szG G ≤ szG G1 := hgr
          obtain ⟨z1, z2⟩ := dexec_grw _ _ _ _ _ _ _ _ _ h
          refine step_ok hC hW hL hj hs ⟨by have := hg.1; omega, by have := hg.2; omega⟩ ?_
          intro xa' H' locs' ls' cells' slots' hc' hs' hx1 hx2 hW' hL'
          refine ih dep k pc1 L1 st1 G1 r G' h p e R s m args below meth c Q D cA xe A xa' H' locs' cells' slots' ls' hC hW' hL' ⟨by have := hg.1; omega, by have := hg.2; omega⟩ ?_
          intro xa2 H2 locs2 ls2 cells2 slots2 pc2 op hc2 hs2 y1 y2 hW2 hd2 hro
          exact hret xa2 H2 locs2 ls2 cells2 slots2 pc2 op (by omega) (by omega) (fun j hj => (y1 j (by omega)).trans (hx1 j hj)) (fun hl => (y2 (by omega)).trans (hx2 (by omega))) hW2 hd2 hro
        · dsimp only at h
          cases h
          obtain ⟨hd, hro, rfl⟩ := ret_ok hj hs
          exact hret xa H locs ls cells slots pc i (by simp) (by simp) (fun _ _ => rfl) (fun _ => rfl) hW hd hro
        · dsimp only at h
          cases dep with
          | zero => cases h
          | succ d =>
            dsimp only at h
            cases hc : dexec SL sx n d k1 0 (entL (mMax k1) as) [] G with
            | none => rw [hc] at h; cases h
            | some z =>
              obtain ⟨r1, G1⟩ := z
              rw [hc] at h
              dsimp only at h
              cases hb : wfB G.length G1.length L rest G with
              | false => rw [hb] at h; cases h
              | true =>
                rw [hb, cond_true] at h
                obtain ⟨y1, y2⟩ := dexec_grw _ _ _ _ _ _ _ _ _ hc
                obtain ⟨z1, z2⟩ := dexec_grw _ _ _ _ _ _ _ _ _ h
                refine call_ok ih hC hW hL hj hs hc ⟨by have := hg.1; omega, by have := hg.2; omega⟩ ?_
                intro xa' H' locs' hx1 hx2 hW'
                have hsame : lR xa' xe ls (mMax k) L ∧ rest.map (mvv xa xe) = rest.map (mvv xa' xe) := by
                  unfold wfB at hb
                  rw [Bool.or_eq_true, Bool.and_eq_true] at hb
                  rcases hb with hb | hb
                  · rw [hx2 (Nat.eq_of_beq_eq_true hb).symm]
                    exact ⟨hL, rfl⟩
                  · exact ⟨lR_agree hx1 hW.1 hb.1 hL, (map_agree hx1 hW.1 hb.2).symm⟩
                rw [hsame.2, ← List.map_append]
                refine ih (d + 1) k pc1 L (r1.toList ++ rest) G1 r G' h p e R s m args below meth c Q D cA xe A xa' H' locs' _ _ ls hC hW' hsame.1 ⟨by have := hg.1; omega, by have := hg.2; omega⟩ ?_
                intro xa2 H2 locs2 ls2 cells2 slots2 pc2 op hc2 hs2 w1 w2 hW2 hd2 hro
                exact hret xa2 H2 locs2 ls2 cells2 slots2 pc2 op (by omega) (by omega) (fun j hj => (w1 j (by omega)).trans (hx1 j hj)) (fun hl => (w2 (by omega)).trans (hx2 (by omega))) hW2 hd2 hro
