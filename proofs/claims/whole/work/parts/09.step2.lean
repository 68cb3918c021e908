def uPos0 : List Nat := [238, 240, 242]
theorem uw_0 : (List.range 3).all (fun k => hasW (uPos0.getD k 0) (u_lay RX0 TX0 k) && goodWord (u_lay RX0 TX0 k)) = true := by decide +kernel
def uPos1 : List Nat := [307, 309]
theorem uw_1 : (List.range 2).all (fun k => hasW (uPos1.getD k 0) (u_lay RX1 TX1 k) && goodWord (u_lay RX1 TX1 k)) = true := by decide +kernel
def uPos2 : List Nat := [197, 199, 201, 203, 205, 207]
theorem uw_2 : (List.range 6).all (fun k => hasW (uPos2.getD k 0) (u_lay RX2 TX2 k) && goodWord (u_lay RX2 TX2 k)) = true := by decide +kernel
def uPos3 : List Nat := [138, 140, 142, 144]
theorem uw_3 : (List.range 4).all (fun k => hasW (uPos3.getD k 0) (u_lay RX3 TX3 k) && goodWord (u_lay RX3 TX3 k)) = true := by decide +kernel
def uPos4 : List Nat := [119, 121, 123]
theorem uw_4 : (List.range 3).all (fun k => hasW (uPos4.getD k 0) (u_lay RX4 TX4 k) && goodWord (u_lay RX4 TX4 k)) = true := by decide +kernel
def uPos5 : List Nat := [230, 232]
theorem uw_5 : (List.range 2).all (fun k => hasW (uPos5.getD k 0) (u_lay RX5 TX5 k) && goodWord (u_lay RX5 TX5 k)) = true := by decide +kernel
def uPos6 : List Nat := [186, 188]
theorem uw_6 : (List.range 2).all (fun k => hasW (uPos6.getD k 0) (u_lay RX6 TX6 k) && goodWord (u_lay RX6 TX6 k)) = true := by decide +kernel
def uPos7 : List Nat := [320, 322, 324, 326, 328, 330]
theorem uw_7 : (List.range 6).all (fun k => hasW (uPos7.getD k 0) (u_lay RX7 TX7 k) && goodWord (u_lay RX7 TX7 k)) = true := by decide +kernel
def uPos8 : List Nat := [262, 264, 266, 268, 270, 272, 274, 276]
theorem uw_8 : (List.range 8).all (fun k => hasW (uPos8.getD k 0) (u_lay RX8 TX8 k) && goodWord (u_lay RX8 TX8 k)) = true := by decide +kernel
def uPos9 : List Nat := [155, 157]
theorem uw_9 : (List.range 2).all (fun k => hasW (uPos9.getD k 0) (u_lay RX9 TX9 k) && goodWord (u_lay RX9 TX9 k)) = true := by decide +kernel
def uPos10 : List Nat := [360, 362, 364, 366, 368, 370, 372, 374, 376, 378, 380, 382]
theorem uw_10 : (List.range 12).all (fun k => hasW (uPos10.getD k 0) (u_lay RX10 TX10 k) && goodWord (u_lay RX10 TX10 k)) = true := by decide +kernel
def uPos11 : List Nat := [401, 403, 405, 407, 409, 411, 413, 415, 417, 419, 421, 423, 425, 427]
theorem uw_11 : (List.range 14).all (fun k => hasW (uPos11.getD k 0) (u_lay RX11 TX11 k) && goodWord (u_lay RX11 TX11 k)) = true := by decide +kernel
def uPos12 : List Nat := [1201, 1203, 1205, 1207, 1209, 1211, 1213, 1215, 1217, 1219, 1221, 1223, 1225, 1227, 1229, 1231, 1233, 1235, 1237, 1239, 1241, 1243, 1245, 1247, 1249, 1251, 1253, 1255, 1257, 1259, 1261]
theorem uw_12 : (List.range 31).all (fun k => hasW (uPos12.getD k 0) (u_lay RX12 TX12 k) && goodWord (u_lay RX12 TX12 k)) = true := by decide +kernel
theorem uws_of {C : String} {T : u_T} {N : Nat} {ps : List Nat} (h : (List.range N).all (fun k => hasW (ps.getD k 0) (u_lay C T k) && goodWord (u_lay C T k)) = true) : ∀ w ∈ u_ws C T N, w ∈ lwG := by
  intro w hw
  unfold u_ws at hw
  obtain ⟨k, hk, rfl⟩ := List.mem_map.mp hw
  have h1 := List.all_eq_true.mp h k hk
  rw [Bool.and_eq_true] at h1
  exact lwG_mem (hasW_mem h1.1) h1.2
/-- what is known of each class: its words, its fields' types, their names -/
theorem cls_ok {ci : Nat} {q : vw_C} (h : vwCl[ci]? = some q) : (∀ w ∈ u_ws q.1 q.2.1 q.2.2, w ∈ lwG) ∧ ∃ ty0 : Nat → FieldType, (∀ k, k < q.2.2 → parseFieldDescriptor (q.2.1 k).2.2.1 = some (ty0 k)) ∧ (∀ a, a < q.2.2 → ∀ b, b < q.2.2 → a ≠ b → (q.2.1 a).2.1 ≠ (q.2.1 b).2.1) := by
  match ci, h with
  | 0, h => cases h; exact ⟨uws_of uw_0, tyX0, tyX0_ok, nmX0⟩
  | 1, h => cases h; exact ⟨uws_of uw_1, tyX1, tyX1_ok, nmX1⟩
  | 2, h => cases h; exact ⟨uws_of uw_2, tyX2, tyX2_ok, nmX2⟩
  | 3, h => cases h; exact ⟨uws_of uw_3, tyX3, tyX3_ok, nmX3⟩
  | 4, h => cases h; exact ⟨uws_of uw_4, tyX4, tyX4_ok, nmX4⟩
  | 5, h => cases h; exact ⟨uws_of uw_5, tyX5, tyX5_ok, nmX5⟩
  | 6, h => cases h; exact ⟨uws_of uw_6, tyX6, tyX6_ok, nmX6⟩
  | 7, h => cases h; exact ⟨uws_of uw_7, tyX7, tyX7_ok, nmX7⟩
  | 8, h => cases h; exact ⟨uws_of uw_8, tyX8, tyX8_ok, nmX8⟩
  | 9, h => cases h; exact ⟨uws_of uw_9, tyX9, tyX9_ok, nmX9⟩
  | 10, h => cases h; exact ⟨uws_of uw_10, tyX10, tyX10_ok, nmX10⟩
  | 11, h => cases h; exact ⟨uws_of uw_11, tyX11, tyX11_ok, nmX11⟩
  | 12, h => cases h; exact ⟨uws_of uw_12, tyX12, tyX12_ok, nmX12⟩
  | k + 13, h => simp [vwCl] at h
theorem fldT_eq {aux : Nat} {r : String × String × String × Bool} (h : fldT aux = some r) : ∃ q : vw_C, vwCl[aux / 100]? = some q ∧ aux % 100 < q.2.2 ∧ q.2.1 (aux % 100) = r := by
  unfold fldT at h
  obtain ⟨q, h1, h2⟩ := Option.bind_eq_some_iff.mp h
  cases hb : Nat.blt (aux % 100) q.2.2 with
  | false => rw [hb] at h2; cases h2
  | true => rw [hb] at h2; cases h2; exact ⟨q, h1, blt_l hb, rfl⟩
theorem gw_fl {a : String} {i : Nat} {b n d : String} : goodWord (.fieldLink a i b n d) = true := rfl
theorem lenA_eq {SL : Nat} {sx : Nat → Int32} {G : mH} {a n : Nat} (h : lenA SL sx G a = some n) : (1000 ≤ a ∧ ∃ t f, xArr SL sx a = some (t, n, f)) ∨ (a < 1000 ∧ ∃ t x, t ≤ 4 ∧ G[a]? = some (.inl (t, n, x))) := by
  unfold lenA at h
  cases ha : Nat.ble 1000 a with
  | true =>
    rw [ha, cond_true] at h
    obtain ⟨⟨t, n', f⟩, h1, h2⟩ := Option.map_eq_some_iff.mp h
    cases h2
    exact Or.inl ⟨ble_l ha, t, f, h1⟩
  | false =>
    rw [ha, cond_false] at h
    have hlt : a < 1000 := by
      rcases Nat.lt_or_ge a 1000 with q | q
      · exact q
      · rw [ble_t q] at ha; cases ha
    split at h
    · rename_i t n' x q
      cases hb : Nat.ble t 4 with
      | false => rw [hb] at h; cases h
      | true => rw [hb] at h; cases h; exact Or.inr ⟨hlt, t, x, ble_l hb, q⟩
    · cases h
section STH
variable {p : Program} {l : Launch} {e : Env} {R : Room} {s : State} {m : MethodId} {args : Array Value} {below : List Frame} {meth : Method} {c : Code} {Q : State → Prop} {D : va_G} {cA : Nat → ClassId} {xe : Nat → Value} {A : Nat → Prop} {SL : Nat} {sx : Nat → Int32} {dep k pc : Nat} {xa : Nat → Nat} {H : Heap} {locs : List Loc} {cells slots : Nat} {ls : Array Slot} {L st : List Value} {G : mH} {pc' : Nat} {L' st' : List Value} {G' : mH} {nx aux j : Nat}
theorem s_ldc {i : Nat} (hC : Cx p R s m args meth c D cA xe A SL sx dep k) (hW : Wd D cA xe A s xa G H locs) (hL : lR xa xe ls (mMax k) L) (ho : chkE k (pc, (.ldc i, nx, aux), j) = true) (h : dstep SL sx dep k pc (.ldc i, nx, aux) L st G = some (.inl (pc', L', st', G'))) (kk : KK p l e R s m args below meth c Q D cA xe A k xa G cells slots pc' L' st' G') : W p l e R s m args below meth c H locs cells slots Q (F0 m pc ls (st.map (mvv xa xe))) := by
  obtain ⟨⟨hx, hb, hr, hlk, hml, hown, hts, hin⟩, hK, hE, hA, hR, hxe⟩ := id hC
  obtain ⟨hd, rfl, hq⟩ := ckd (fun _ => rfl) ho
  rw [dq_ldc] at h
  unfold chkX at hq
  dsimp only at hq
  cases hlt : Nat.blt aux 4294967296 with
  | true =>
    rw [hlt, cond_true] at h hq
    obtain ⟨rfl, rfl, rfl, rfl⟩ := go_eq h
    exact lv_ldc (rest := st.map (mvv xa xe)) hx hb hown (hts _ (lwG_mem (hasW_mem hq) rfl)) hd (kk.pure hW hL)
  | false =>
    rw [hlt, cond_false] at h hq
    obtain ⟨hb1, h⟩ := gc1_eq h
    obtain ⟨rfl, rfl, rfl, rfl⟩ := go_eq h
    rw [Bool.and_eq_true] at hb1
    have q1 := ble_l hb1.1
    have q2 := ble_l hb1.2
    obtain ⟨-, -, -, ⟨tk, tv, k1, k2, k3, k4, k5, k6⟩, -⟩ := hE
    have hz : ∀ (y : Nat) (tx : String) (o : String) (i0 : Nat), y < 4 → aux = 4294967306 + y → vk_R o i0 tx (tk y) s → (mName k).cls = o → i = i0 → W p l e R s m args below meth c H locs cells slots Q (F0 m pc ls (st.map (mvv xa xe))) := by
      intro y tx o i0 hy ha hv e1 e2
      subst e2
      subst e1
      refine va_ldcS (rest := st.map (mvv xa xe)) hx hb hown hv hd ?_
      have e3 : mvv xa xe (.ref (aux - 4294966296)) = .ref (tk y) := by
        rw [mvv_out (by omega), show aux - 4294966296 - 1000 = 10 + y by omega]
        exact (k1 y hy).2
      rw [← e3]
      exact kk.pure hW hL
    simp only [strOk, Bool.or_eq_true, Bool.and_eq_true, decide_eq_true_eq] at hq
    rcases hq with ⟨e1, (⟨e2, e3⟩ | ⟨e2, e3⟩) | ⟨e2, e3⟩⟩ | ⟨⟨e1, e2⟩, e3⟩
    · have e3 := Nat.eq_of_beq_eq_true e3
      exact hz 0 _ _ _ (by omega) (by omega) k3 e1 (Nat.eq_of_beq_eq_true e2)
    · have e3 := Nat.eq_of_beq_eq_true e3
      exact hz 1 _ _ _ (by omega) (by omega) k4 e1 (Nat.eq_of_beq_eq_true e2)
    · have e3 := Nat.eq_of_beq_eq_true e3
      exact hz 2 _ _ _ (by omega) (by omega) k5 e1 (Nat.eq_of_beq_eq_true e2)
    · have e3 := Nat.eq_of_beq_eq_true e3
      exact hz 3 _ _ _ (by omega) (by omega) k6 e1 (Nat.eq_of_beq_eq_true e2)
theorem s_ldc_w {i : Nat} (hC : Cx p R s m args meth c D cA xe A SL sx dep k) (hW : Wd D cA xe A s xa G H locs) (hL : lR xa xe ls (mMax k) L) (ho : chkE k (pc, (.ldc_w i, nx, aux), j) = true) (h : dstep SL sx dep k pc (.ldc_w i, nx, aux) L st G = some (.inl (pc', L', st', G'))) (kk : KK p l e R s m args below meth c Q D cA xe A k xa G cells slots pc' L' st' G') : W p l e R s m args below meth c H locs cells slots Q (F0 m pc ls (st.map (mvv xa xe))) := by
  obtain ⟨⟨hx, hb, hr, hlk, hml, hown, hts, hin⟩, hK, hE, hA, hR, hxe⟩ := id hC
  obtain ⟨hd, rfl, hq⟩ := ckd (fun _ => rfl) ho
  rw [dq_ldc_w] at h
  obtain ⟨rfl, rfl, rfl, rfl⟩ := go_eq h
  exact lv_ldcw (rest := st.map (mvv xa xe)) hx hb hown (hts _ (lwG_mem (hasW_mem hq) rfl)) hd (kk.pure hW hL)
theorem s_ldc2_w {i : Nat} (hC : Cx p R s m args meth c D cA xe A SL sx dep k) (hW : Wd D cA xe A s xa G H locs) (hL : lR xa xe ls (mMax k) L) (ho : chkE k (pc, (.ldc2_w i, nx, aux), j) = true) (h : dstep SL sx dep k pc (.ldc2_w i, nx, aux) L st G = some (.inl (pc', L', st', G'))) (kk : KK p l e R s m args below meth c Q D cA xe A k xa G cells slots pc' L' st' G') : W p l e R s m args below meth c H locs cells slots Q (F0 m pc ls (st.map (mvv xa xe))) := by
  obtain ⟨⟨hx, hb, hr, hlk, hml, hown, hts, hin⟩, hK, hE, hA, hR, hxe⟩ := id hC
  obtain ⟨hd, rfl, hq⟩ := ckd (fun _ => rfl) ho
  rw [dq_ldc2_w] at h
  obtain ⟨rfl, rfl, rfl, rfl⟩ := go_eq h
  exact lv_ldc2 (rest := st.map (mvv xa xe)) hx hb hown (hts _ (lwG_mem (hasW_mem hq) rfl)) hd (kk.pure hW hL)
theorem s_getfield {i : Nat} (hC : Cx p R s m args meth c D cA xe A SL sx dep k) (hW : Wd D cA xe A s xa G H locs) (hL : lR xa xe ls (mMax k) L) (ho : chkE k (pc, (.getfield i, nx, aux), j) = true) (h : dstep SL sx dep k pc (.getfield i, nx, aux) L st G = some (.inl (pc', L', st', G'))) (kk : KK p l e R s m args below meth c Q D cA xe A k xa G cells slots pc' L' st' G') : W p l e R s m args below meth c H locs cells slots Q (F0 m pc ls (st.map (mvv xa xe))) := by
  obtain ⟨⟨hx, hb, hr, hlk, hml, hown, hts, hin⟩, hK, hE, hA, hR, hxe⟩ := id hC
  obtain ⟨hd, rfl, hq⟩ := ckd (fun _ => rfl) ho
  obtain ⟨hG, hP, hD, hS⟩ := id hW
  rw [dq_getfield] at h
  obtain ⟨⟨a, r⟩, h1, h⟩ := Option.bind_eq_some_iff.mp h
  obtain ⟨v, h2, h⟩ := Option.bind_eq_some_iff.mp h
  obtain ⟨rfl, rfl, rfl, rfl⟩ := go_eq h
  obtain rfl := pA_eq h1
  unfold chkX at hq
  dsimp only at hq
  unfold getF at h2
  show W p l e R s m args below meth c H locs cells slots Q (F0 m pc ls (mvv xa xe (.ref a) :: r.map (mvv xa xe)))
  cases hlt : Nat.ble 5000 aux with
  | true =>
    rw [hlt, cond_true] at h2 hq
    cases ha : Nat.ble 1010 a && Nat.ble a 1013 with
    | false => rw [ha] at h2; cases h2
    | true =>
      rw [ha, cond_true] at h2
      rw [Bool.and_eq_true] at ha
      have a1 := ble_l ha.1
      have a2 := ble_l ha.2
      obtain ⟨-, -, -, ⟨tk, tv, k1, k2, -⟩, -⟩ := hE
      have hi : a - 1010 < 4 := by omega
      obtain ⟨g1, g2, g3, g4⟩ := k2.1 (a - 1010) hi
      have e1 : mvv xa xe (.ref a) = .ref (tk (a - 1010)) := by
        rw [mvv_out (by omega), show a - 1000 = 10 + (a - 1010) by omega]
        exact (k1 (a - 1010) hi).2
      rw [e1]
      cases hz : Nat.beq aux 5000 with
      | true =>
        rw [hz, cond_true] at h2 hq
        cases h2
        refine vk_getf hx hb g3 hS hown (hts _ (lwG_mem (hasW_mem hq) rfl)) (fun _ h9 => h9) hd ?_
        have e2 : mvv xa xe (.ref (a - 7)) = .ref (tv (a - 1010)) := by
          rw [mvv_out (by omega), show a - 7 - 1000 = 3 + (a - 1010) by omega]
          exact (k1 (a - 1010) hi).1
        rw [← e2]
        exact kk.pure hW hL
      | false =>
        rw [hz, cond_false] at h2 hq
        cases h2
        exact vk_getf hx hb g2 hS hown (hts _ (lwG_mem (hasW_mem hq) rfl)) (fun _ h9 => h9) hd (kk.pure hW hL)
  | false =>
    rw [hlt, cond_false] at h2 hq
    obtain ⟨o, h3, h4⟩ := Option.bind_eq_some_iff.mp h2
    have h3 := ownO_eq h3
    cases hoc : Nat.beq o.1 (aux / 100) with
    | false => rw [hoc] at h4; cases h4
    | true =>
      rw [hoc, cond_true] at h4
      have hoc := Nat.eq_of_beq_eq_true hoc
      split at hq
      · rename_i cc n d fin hf
        obtain ⟨q, hq1, hq2, hq3⟩ := fldT_eq hf
        have hlink := hts _ (lwG_mem (hasW_mem hq) rfl)
        have hal := lt_of_at h3
        rw [mvv_own (by omega)]
        have he := wsW_at (cA := cA) (xa := xa) (xe := xe) h3
        obtain ⟨ci, fs⟩ := o
        dsimp only at hoc h4
        subst hoc
        have e1 : (q.2.1 (aux % 100)).1 = cc := by rw [hq3]
        have e2 : (q.2.1 (aux % 100)).2.1 = n := by rw [hq3]
        have e3 : (q.2.1 (aux % 100)).2.2.1 = d := by rw [hq3]
        exact va_get (C := q.1) (T := q.2.1) (N := q.2.2) (ref := cc) hx hb hts (cls_ok hq1).1 hown hK hP a he hq1 (aux % 100) hq2 (by rw [e2, e3]; exact hlink) (fun _ h9 => by rw [e1] at h9; exact h9) (v := mvv xa xe v) (by rw [List.getElem?_map, h4]; rfl) hd (kk.pure hW hL)
      · cases hq
theorem s_putfield {i : Nat} (hC : Cx p R s m args meth c D cA xe A SL sx dep k) (hW : Wd D cA xe A s xa G H locs) (hL : lR xa xe ls (mMax k) L) (ho : chkE k (pc, (.putfield i, nx, aux), j) = true) (h : dstep SL sx dep k pc (.putfield i, nx, aux) L st G = some (.inl (pc', L', st', G'))) (kk : KK p l e R s m args below meth c Q D cA xe A k xa G cells slots pc' L' st' G') : W p l e R s m args below meth c H locs cells slots Q (F0 m pc ls (st.map (mvv xa xe))) := by
  obtain ⟨⟨hx, hb, hr, hlk, hml, hown, hts, hin⟩, hK, hE, hA, hR, hxe⟩ := id hC
  obtain ⟨hd, rfl, hq⟩ := ckd (fun _ => rfl) ho
  obtain ⟨hG, hP, hD, hS⟩ := id hW
  rw [dq_putfield] at h
  split at h
  · rename_i v a r
    obtain ⟨⟨ci, fs⟩, h3, h⟩ := Option.bind_eq_some_iff.mp h
    have h3 := ownO_eq h3
    obtain ⟨hb1, h⟩ := gc1_eq h
    obtain ⟨rfl, rfl, rfl, rfl⟩ := go_eq h
    simp only [Bool.and_eq_true] at hb1
    obtain ⟨⟨⟨c1, c2⟩, c3⟩, c4⟩ := hb1
    have c1 := Nat.eq_of_beq_eq_true c1
    have c2 := blt_l c2
    subst c1
    unfold chkX at hq
    dsimp only at hq
    show W p l e R s m args below meth c H locs cells slots Q (F0 m pc ls (mvv xa xe v :: mvv xa xe (.ref a) :: r.map (mvv xa xe)))
    split at hq
    · rename_i cc n d fin hf
      obtain ⟨q, hq1, hq2, hq3⟩ := fldT_eq hf
      have hlink := hts _ (lwG_mem (hasW_mem hq) rfl)
      have hal := lt_of_at h3
      rw [mvv_own (by omega)]
      have he := wsW_at (cA := cA) (xa := xa) (xe := xe) h3
      have e1 : (q.2.1 (aux % 100)).1 = cc := by rw [hq3]
      have e2 : (q.2.1 (aux % 100)).2.1 = n := by rw [hq3]
      have e3 : (q.2.1 (aux % 100)).2.2.1 = d := by rw [hq3]
      have e4 : (q.2.1 (aux % 100)).2.2.2 = fin := by rw [hq3]
      obtain ⟨hu, ty0, hty, hnm⟩ := cls_ok hq1
      unfold putOk at c3
      rw [hf] at c3
      dsimp only at c3
      rw [Bool.and_eq_true] at c3
      obtain ⟨c5, c6⟩ := c3
      split at c5
      · cases c5
      · rename_i ty hpd
        rw [Bool.and_eq_true] at c5
        have c7 := of_decide_eq_true c5.1
        have c8 := c5.2
        have hkk : ∀ (H1 : Heap) (locs1 : List Loc), va_P D vwCl ((wsW cA xa xe G).set a (xa a, .inr (aux / 100, (fs.map (mvv xa xe)).set (aux % 100) (mvv xa xe v)))) H1 → va_D A ((wsW cA xa xe G).set a (xa a, .inr (aux / 100, (fs.map (mvv xa xe)).set (aux % 100) (mvv xa xe v)))) → va_S A s.heap H1 locs1 → W p l e R s m args below meth c H1 locs1 cells slots Q (F0 m (pc + 3) ls (r.map (mvv xa xe))) := by
          intro H1 locs1 z1 z2 z3
          rw [← List.map_set] at z1 z2
          exact KK.put kk h3 (by simp [szC]) hG z1 z2 z3 hL
        cases fin with
        | false =>
          exact va_put (C := q.1) (T := q.2.1) (N := q.2.2) (ref := cc) (ty := ty) hx hb hts hu ty0 hty hnm hown hK hP hD hS a he hq1 (aux % 100) hq2 (by rw [e2, e3]; exact hlink) (fun _ h9 => by rw [e1] at h9; exact h9) e4 (by rw [e3]; exact hpd) (mvv_nar hxe c7) (mvv_fits hxe c8) (by rw [List.length_map]; exact c2) hd hkk
        | true =>
          simp only [Bool.not_true, Bool.false_or, Bool.and_eq_true] at c6
          exact va_putF (C := q.1) (T := q.2.1) (N := q.2.2) (ref := cc) (ty := ty) hx hb hts hu ty0 hty hnm hown hK hP hD hS a he hq1 (aux % 100) hq2 (by rw [e2, e3]; exact hlink) (fun _ h9 => by rw [e1] at h9; exact h9) e4 (hin (Nat.eq_of_beq_eq_true c6.1)) (by rw [e1]; exact of_decide_eq_true c6.2) (by rw [e3]; exact hpd) (mvv_nar hxe c7) (mvv_fits hxe c8) (by rw [List.length_map]; exact c2) hd hkk
    · cases hq
  · cases h
theorem s_getstatic {i : Nat} (hC : Cx p R s m args meth c D cA xe A SL sx dep k) (hW : Wd D cA xe A s xa G H locs) (hL : lR xa xe ls (mMax k) L) (ho : chkE k (pc, (.getstatic i, nx, aux), j) = true) (h : dstep SL sx dep k pc (.getstatic i, nx, aux) L st G = some (.inl (pc', L', st', G'))) (kk : KK p l e R s m args below meth c Q D cA xe A k xa G cells slots pc' L' st' G') : W p l e R s m args below meth c H locs cells slots Q (F0 m pc ls (st.map (mvv xa xe))) := by
  obtain ⟨⟨hx, hb, hr, hlk, hml, hown, hts, hin⟩, hK, hE, hA, hR, hxe⟩ := id hC
  obtain ⟨hd, rfl, hq⟩ := ckd (fun _ => rfl) ho
  obtain ⟨hG, hP, hD, hS⟩ := id hW
  obtain ⟨-, ⟨t, t1, t2, t3⟩, ⟨u, u1, u2, u3⟩, -, h5, h6, -⟩ := hE
  rw [dq_getstatic] at h
  unfold chkX at hq
  match aux, h, hq with
  | 0, h, hq =>
    obtain ⟨rfl, rfl, rfl, rfl⟩ := go_eq h
    refine va_gets (rest := st.map (mvv xa xe)) hx hb t2 hS hown (hts _ (lwG_mem (hasW_mem hq) rfl)) (fun _ h9 => h9) hd ?_
    rw [← t1]
    exact kk.pure hW hL
  | 1, h, hq =>
    obtain ⟨rfl, rfl, rfl, rfl⟩ := go_eq h
    refine va_gets (rest := st.map (mvv xa xe)) hx hb u2 hS hown (hts _ (lwG_mem (hasW_mem hq) rfl)) (fun _ h9 => h9) hd ?_
    rw [← u1]
    exact kk.pure hW hL
  | 2, h, hq =>
    obtain ⟨rfl, rfl, rfl, rfl⟩ := go_eq h
    exact va_gets (rest := st.map (mvv xa xe)) hx hb h5 hS hown (hts _ (lwG_mem (hasW_mem hq) rfl)) (fun _ h9 => h9) hd (kk.pure hW hL)
  | 3, h, hq =>
    obtain ⟨rfl, rfl, rfl, rfl⟩ := go_eq h
    exact va_gets (rest := st.map (mvv xa xe)) hx hb h6 hS hown (hts _ (lwG_mem (hasW_mem hq) rfl)) (fun _ h9 => h9) hd (kk.pure hW hL)
  | n + 4, h, hq => cases h
theorem s_iaload (hC : Cx p R s m args meth c D cA xe A SL sx dep k) (hW : Wd D cA xe A s xa G H locs) (hL : lR xa xe ls (mMax k) L) (ho : chkE k (pc, (.iaload, nx, aux), j) = true) (h : dstep SL sx dep k pc (.iaload, nx, aux) L st G = some (.inl (pc', L', st', G'))) (kk : KK p l e R s m args below meth c Q D cA xe A k xa G cells slots pc' L' st' G') : W p l e R s m args below meth c H locs cells slots Q (F0 m pc ls (st.map (mvv xa xe))) := by
  obtain ⟨⟨hx, hb, hr, hlk, hml, hown, hts, hin⟩, hK, hE, hA, hR, hxe⟩ := id hC
  obtain ⟨hd, rfl, hq⟩ := ckd (fun _ => rfl) ho
  obtain ⟨hG, hP, hD, hS⟩ := id hW
  rw [dq_iaload] at h
  obtain ⟨⟨i, r1⟩, h1, h⟩ := Option.bind_eq_some_iff.mp h
  obtain ⟨⟨a, r⟩, h2, h⟩ := Option.bind_eq_some_iff.mp h
  obtain ⟨⟨n, f⟩, h3, h⟩ := Option.bind_eq_some_iff.mp h
  obtain ⟨hb1, h⟩ := gc1_eq h
  obtain ⟨rfl, rfl, rfl, rfl⟩ := go_eq h
  obtain rfl := pI_eq h1
  obtain rfl := pA_eq h2
  have hi := inB_in hb1
  show W p l e R s m args below meth c H locs cells slots Q (F0 m pc ls (.int i :: mvv xa xe (.ref a) :: r.map (mvv xa xe)))
  rcases arrI_eq h3 with ⟨ha, h4⟩ | ⟨ha, h4⟩
  · obtain ⟨⟨b, b1, b2, b3, b4⟩, ⟨t, t1, t2, t3⟩, ⟨u, u1, u2, u3⟩, -⟩ := hE
    rcases xArr_eq h4 with ⟨rfl, -, rfl, rfl⟩ | ⟨rfl, -, rfl, rfl⟩ | ⟨rfl, -, rfl, rfl⟩ | ⟨y, -, -, e1, -⟩
    · rw [show mvv xa xe (.ref 1000) = .ref b from (mvv_out (Nat.le_refl _)).trans b1]
      exact va_sld hx hb b2 b3 b4 hS hi hd (kk.pure hW hL)
    · rw [show mvv xa xe (.ref 1001) = .ref t from (mvv_out (by omega)).trans t1]
      exact va_ti hx hb t3 hS hi rfl hd (kk.pure hW hL)
    · rw [show mvv xa xe (.ref 1002) = .ref u from (mvv_out (by omega)).trans u1]
      exact va_ti hx hb u3 hS hi rfl hd (kk.pure hW hL)
    · cases e1
  · rw [mvv_own ha]
    exact va_iald hx hb hK hP a 0 (wsW_at h4) rfl hi hd (kk.pure hW hL)
theorem s_baload (hC : Cx p R s m args meth c D cA xe A SL sx dep k) (hW : Wd D cA xe A s xa G H locs) (hL : lR xa xe ls (mMax k) L) (ho : chkE k (pc, (.baload, nx, aux), j) = true) (h : dstep SL sx dep k pc (.baload, nx, aux) L st G = some (.inl (pc', L', st', G'))) (kk : KK p l e R s m args below meth c Q D cA xe A k xa G cells slots pc' L' st' G') : W p l e R s m args below meth c H locs cells slots Q (F0 m pc ls (st.map (mvv xa xe))) := by
  obtain ⟨⟨hx, hb, hr, hlk, hml, hown, hts, hin⟩, hK, hE, hA, hR, hxe⟩ := id hC
  obtain ⟨hd, rfl, hq⟩ := ckd (fun _ => rfl) ho
  obtain ⟨hG, hP, hD, hS⟩ := id hW
  rw [dq_baload] at h
  obtain ⟨⟨i, r1⟩, h1, h⟩ := Option.bind_eq_some_iff.mp h
  obtain ⟨⟨a, r⟩, h2, h⟩ := Option.bind_eq_some_iff.mp h
  obtain ⟨⟨n, f⟩, h3, h⟩ := Option.bind_eq_some_iff.mp h
  obtain ⟨hb1, h⟩ := gc1_eq h
  obtain ⟨rfl, rfl, rfl, rfl⟩ := go_eq h
  obtain rfl := pI_eq h1
  obtain rfl := pA_eq h2
  have hi := inB_in hb1
  show W p l e R s m args below meth c H locs cells slots Q (F0 m pc ls (.int i :: mvv xa xe (.ref a) :: r.map (mvv xa xe)))
  rcases arrI_eq h3 with ⟨ha, h4⟩ | ⟨ha, h4⟩
  · obtain ⟨-, -, -, ⟨tk, tv, k1, k2, -⟩, -⟩ := hE
    rcases xArr_eq h4 with ⟨-, e1, -⟩ | ⟨-, e1, -⟩ | ⟨-, e1, -⟩ | ⟨y, hy, rfl, -, rfl, rfl⟩
    · cases e1
    · cases e1
    · cases e1
    · rw [show mvv xa xe (.ref (1003 + y)) = .ref (tv y) from (mvv_out (by omega)).trans (by rw [show 1003 + y - 1000 = 3 + y by omega]; exact (k1 y hy).1)]
      exact va_tb hx hb (k2.1 y hy).2.2.2 hS hi rfl hd (kk.pure hW hL)
  · rw [mvv_own ha]
    exact va_bald hx hb hK hP a 1 (wsW_at h4) rfl hi hd (kk.pure hW hL)
theorem s_laload (hC : Cx p R s m args meth c D cA xe A SL sx dep k) (hW : Wd D cA xe A s xa G H locs) (hL : lR xa xe ls (mMax k) L) (ho : chkE k (pc, (.laload, nx, aux), j) = true) (h : dstep SL sx dep k pc (.laload, nx, aux) L st G = some (.inl (pc', L', st', G'))) (kk : KK p l e R s m args below meth c Q D cA xe A k xa G cells slots pc' L' st' G') : W p l e R s m args below meth c H locs cells slots Q (F0 m pc ls (st.map (mvv xa xe))) := by
  obtain ⟨⟨hx, hb, hr, hlk, hml, hown, hts, hin⟩, hK, hE, hA, hR, hxe⟩ := id hC
  obtain ⟨hd, rfl, hq⟩ := ckd (fun _ => rfl) ho
  obtain ⟨hG, hP, hD, hS⟩ := id hW
  rw [dq_laload] at h
  obtain ⟨⟨i, r1⟩, h1, h⟩ := Option.bind_eq_some_iff.mp h
  obtain ⟨⟨a, r⟩, h2, h⟩ := Option.bind_eq_some_iff.mp h
  obtain ⟨⟨n, f⟩, h3, h⟩ := Option.bind_eq_some_iff.mp h
  obtain ⟨hb1, h⟩ := gc1_eq h
  obtain ⟨rfl, rfl, rfl, rfl⟩ := go_eq h
  obtain rfl := pI_eq h1
  obtain rfl := pA_eq h2
  have hi := inB_in hb1
  have h4 := ownJ_eq h3
  have ha := lt_of_at h4
  show W p l e R s m args below meth c H locs cells slots Q (F0 m pc ls (.int i :: mvv xa xe (.ref a) :: r.map (mvv xa xe)))
  rw [mvv_own (by omega)]
  exact va_lald hx hb hK hP a 2 (wsW_at h4) rfl hi hd (kk.pure hW hL)
theorem s_aaload (hC : Cx p R s m args meth c D cA xe A SL sx dep k) (hW : Wd D cA xe A s xa G H locs) (hL : lR xa xe ls (mMax k) L) (ho : chkE k (pc, (.aaload, nx, aux), j) = true) (h : dstep SL sx dep k pc (.aaload, nx, aux) L st G = some (.inl (pc', L', st', G'))) (kk : KK p l e R s m args below meth c Q D cA xe A k xa G cells slots pc' L' st' G') : W p l e R s m args below meth c H locs cells slots Q (F0 m pc ls (st.map (mvv xa xe))) := by
  obtain ⟨⟨hx, hb, hr, hlk, hml, hown, hts, hin⟩, hK, hE, hA, hR, hxe⟩ := id hC
  obtain ⟨hd, rfl, hq⟩ := ckd (fun _ => rfl) ho
  obtain ⟨hG, hP, hD, hS⟩ := id hW
  rw [dq_aaload] at h
  obtain ⟨⟨i, r1⟩, h1, h⟩ := Option.bind_eq_some_iff.mp h
  obtain ⟨⟨a, r⟩, h2, h⟩ := Option.bind_eq_some_iff.mp h
  obtain ⟨⟨t, n, f⟩, h3, h⟩ := Option.bind_eq_some_iff.mp h
  obtain ⟨hb1, hz⟩ := gc1_eq h
  clear h
  obtain rfl := pI_eq h1
  obtain rfl := pA_eq h2
  have hi := inB_in hb1
  obtain ⟨h4, ht, hn⟩ := ownQ_eq h3
  have ha := lt_of_at h4
  cases hv : f.getD i.toNatClampNeg none with
  | none => dsimp only at hz; rw [hv] at hz; cases hz
  | some x =>
    dsimp only at hz
    rw [hv] at hz
    obtain ⟨hb2, hz⟩ := gc1_eq hz
    obtain ⟨rfl, rfl, rfl, rfl⟩ := go_eq hz
    show W p l e R s m args below meth c H locs cells slots Q (F0 m pc ls (.int i :: mvv xa xe (.ref a) :: r.map (mvv xa xe)))
    rw [mvv_own (by omega)]
    have hw := kk.pure hW hL
    rw [List.map_cons, mvv_own (blt_l hb2)] at hw
    have e5 : Value.ref (xa x) = va_rf ((f.getD i.toNatClampNeg none).map xa) := by rw [hv]; rfl
    rw [e5] at hw
    rcases ht with rfl | rfl
    · exact va_aldq hx hb hK hP a 3 (wsW_at h4) rfl hi hd hw
    · exact va_aldq hx hb hK hP a 4 (wsW_at h4) rfl hi hd hw
theorem s_iastore (hC : Cx p R s m args meth c D cA xe A SL sx dep k) (hW : Wd D cA xe A s xa G H locs) (hL : lR xa xe ls (mMax k) L) (ho : chkE k (pc, (.iastore, nx, aux), j) = true) (h : dstep SL sx dep k pc (.iastore, nx, aux) L st G = some (.inl (pc', L', st', G'))) (kk : KK p l e R s m args below meth c Q D cA xe A k xa G cells slots pc' L' st' G') : W p l e R s m args below meth c H locs cells slots Q (F0 m pc ls (st.map (mvv xa xe))) := by
  obtain ⟨⟨hx, hb, hr, hlk, hml, hown, hts, hin⟩, hK, hE, hA, hR, hxe⟩ := id hC
  obtain ⟨hd, rfl, hq⟩ := ckd (fun _ => rfl) ho
  obtain ⟨hG, hP, hD, hS⟩ := id hW
  rw [dq_iastore] at h
  obtain ⟨⟨x, r0⟩, h0, h⟩ := Option.bind_eq_some_iff.mp h
  obtain ⟨⟨i, r1⟩, h1, h⟩ := Option.bind_eq_some_iff.mp h
  obtain ⟨⟨a, r⟩, h2, h⟩ := Option.bind_eq_some_iff.mp h
  obtain ⟨⟨n, f⟩, h3, h⟩ := Option.bind_eq_some_iff.mp h
  obtain ⟨hb1, h⟩ := gc1_eq h
  obtain ⟨rfl, rfl, rfl, rfl⟩ := go_eq h
  obtain rfl := pI_eq h0
  obtain rfl := pI_eq h1
  obtain rfl := pA_eq h2
  have hi := inB_in hb1
  have h4 := ownI_eq h3
  have ha := lt_of_at h4
  show W p l e R s m args below meth c H locs cells slots Q (F0 m pc ls (.int x :: .int i :: mvv xa xe (.ref a) :: r.map (mvv xa xe)))
  rw [mvv_own (by omega)]
  exact va_iast hx hb hK hP hD hS a 0 (wsW_at h4) rfl hi hd (fun H1 locs1 z1 z2 z3 => KK.put kk h4 rfl hG z1 z2 z3 hL)
theorem s_bastore (hC : Cx p R s m args meth c D cA xe A SL sx dep k) (hW : Wd D cA xe A s xa G H locs) (hL : lR xa xe ls (mMax k) L) (ho : chkE k (pc, (.bastore, nx, aux), j) = true) (h : dstep SL sx dep k pc (.bastore, nx, aux) L st G = some (.inl (pc', L', st', G'))) (kk : KK p l e R s m args below meth c Q D cA xe A k xa G cells slots pc' L' st' G') : W p l e R s m args below meth c H locs cells slots Q (F0 m pc ls (st.map (mvv xa xe))) := by
  obtain ⟨⟨hx, hb, hr, hlk, hml, hown, hts, hin⟩, hK, hE, hA, hR, hxe⟩ := id hC
  obtain ⟨hd, rfl, hq⟩ := ckd (fun _ => rfl) ho
  obtain ⟨hG, hP, hD, hS⟩ := id hW
  rw [dq_bastore] at h
  obtain ⟨⟨x, r0⟩, h0, h⟩ := Option.bind_eq_some_iff.mp h
  obtain ⟨⟨i, r1⟩, h1, h⟩ := Option.bind_eq_some_iff.mp h
  obtain ⟨⟨a, r⟩, h2, h⟩ := Option.bind_eq_some_iff.mp h
  obtain ⟨⟨n, f⟩, h3, h⟩ := Option.bind_eq_some_iff.mp h
  obtain ⟨hb1, h⟩ := gc1_eq h
  obtain ⟨rfl, rfl, rfl, rfl⟩ := go_eq h
  obtain rfl := pI_eq h0
  obtain rfl := pI_eq h1
  obtain rfl := pA_eq h2
  have hi := inB_in hb1
  have h4 := ownI_eq h3
  have ha := lt_of_at h4
  show W p l e R s m args below meth c H locs cells slots Q (F0 m pc ls (.int x :: .int i :: mvv xa xe (.ref a) :: r.map (mvv xa xe)))
  rw [mvv_own (by omega)]
  exact va_bast hx hb hK hP hD hS a 1 (wsW_at h4) rfl hi hd (fun H1 locs1 z1 z2 z3 => KK.put kk h4 rfl hG z1 z2 z3 hL)
theorem s_lastore (hC : Cx p R s m args meth c D cA xe A SL sx dep k) (hW : Wd D cA xe A s xa G H locs) (hL : lR xa xe ls (mMax k) L) (ho : chkE k (pc, (.lastore, nx, aux), j) = true) (h : dstep SL sx dep k pc (.lastore, nx, aux) L st G = some (.inl (pc', L', st', G'))) (kk : KK p l e R s m args below meth c Q D cA xe A k xa G cells slots pc' L' st' G') : W p l e R s m args below meth c H locs cells slots Q (F0 m pc ls (st.map (mvv xa xe))) := by
  obtain ⟨⟨hx, hb, hr, hlk, hml, hown, hts, hin⟩, hK, hE, hA, hR, hxe⟩ := id hC
  obtain ⟨hd, rfl, hq⟩ := ckd (fun _ => rfl) ho
  obtain ⟨hG, hP, hD, hS⟩ := id hW
  rw [dq_lastore] at h
  obtain ⟨⟨x, r0⟩, h0, h⟩ := Option.bind_eq_some_iff.mp h
  obtain ⟨⟨i, r1⟩, h1, h⟩ := Option.bind_eq_some_iff.mp h
  obtain ⟨⟨a, r⟩, h2, h⟩ := Option.bind_eq_some_iff.mp h
  obtain ⟨⟨n, f⟩, h3, h⟩ := Option.bind_eq_some_iff.mp h
  obtain ⟨hb1, h⟩ := gc1_eq h
  obtain ⟨rfl, rfl, rfl, rfl⟩ := go_eq h
  obtain rfl := pJ_eq h0
  obtain rfl := pI_eq h1
  obtain rfl := pA_eq h2
  have hi := inB_in hb1
  have h4 := ownJ_eq h3
  have ha := lt_of_at h4
  show W p l e R s m args below meth c H locs cells slots Q (F0 m pc ls (.long x :: .int i :: mvv xa xe (.ref a) :: r.map (mvv xa xe)))
  rw [mvv_own (by omega)]
  exact va_last hx hb hK hP hD hS a 2 (wsW_at h4) rfl hi hd (fun H1 locs1 z1 z2 z3 => KK.put kk h4 rfl hG z1 z2 z3 hL)
theorem s_arraylength (hC : Cx p R s m args meth c D cA xe A SL sx dep k) (hW : Wd D cA xe A s xa G H locs) (hL : lR xa xe ls (mMax k) L) (ho : chkE k (pc, (.arraylength, nx, aux), j) = true) (h : dstep SL sx dep k pc (.arraylength, nx, aux) L st G = some (.inl (pc', L', st', G'))) (kk : KK p l e R s m args below meth c Q D cA xe A k xa G cells slots pc' L' st' G') : W p l e R s m args below meth c H locs cells slots Q (F0 m pc ls (st.map (mvv xa xe))) := by
  obtain ⟨⟨hx, hb, hr, hlk, hml, hown, hts, hin⟩, hK, hE, hA, hR, hxe⟩ := id hC
  obtain ⟨hd, rfl, hq⟩ := ckd (fun _ => rfl) ho
  obtain ⟨hG, hP, hD, hS⟩ := id hW
  rw [dq_arraylength] at h
  obtain ⟨⟨a, r⟩, h2, h⟩ := Option.bind_eq_some_iff.mp h
  obtain ⟨n, h3, h⟩ := Option.bind_eq_some_iff.mp h
  obtain ⟨rfl, rfl, rfl, rfl⟩ := go_eq h
  obtain rfl := pA_eq h2
  show W p l e R s m args below meth c H locs cells slots Q (F0 m pc ls (mvv xa xe (.ref a) :: r.map (mvv xa xe)))
  rcases lenA_eq h3 with ⟨ha, t0, f, h4⟩ | ⟨ha, t0, x, ht0, h4⟩
  · obtain ⟨⟨b, b1, b2, b3, b4⟩, ⟨t, t1, t2, t3⟩, ⟨u, u1, u2, u3⟩, ⟨tk, tv, k1, k2, -⟩, -⟩ := hE
    rcases xArr_eq h4 with ⟨rfl, -, rfl, rfl⟩ | ⟨rfl, -, rfl, rfl⟩ | ⟨rfl, -, rfl, rfl⟩ | ⟨y, hy, rfl, -, rfl, rfl⟩
    · rw [show mvv xa xe (.ref 1000) = .ref b from (mvv_out (Nat.le_refl _)).trans b1]
      exact va_slen hx hb b2 b3 b4 hS hd (kk.pure hW hL)
    · rw [show mvv xa xe (.ref 1001) = .ref t from (mvv_out (by omega)).trans t1]
      exact va_tlen hx hb t3 hS rfl hd (kk.pure hW hL)
    · rw [show mvv xa xe (.ref 1002) = .ref u from (mvv_out (by omega)).trans u1]
      exact va_tlen hx hb u3 hS rfl hd (kk.pure hW hL)
    · rw [show mvv xa xe (.ref (1003 + y)) = .ref (tv y) from (mvv_out (by omega)).trans (by rw [show 1003 + y - 1000 = 3 + y by omega]; exact (k1 y hy).1)]
      exact va_tlen hx hb (k2.1 y hy).2.2.2 hS rfl hd (kk.pure hW hL)
  · rw [mvv_own ha]
    have he := wsW_at (cA := cA) (xa := xa) (xe := xe) h4
    have hcell : ∃ x', cellW cA xa xe (.inl (t0, n, x)) = .inl (cA t0, n, x') := by
      rcases x with f | f | f
      · exact ⟨_, rfl⟩
      · exact ⟨_, rfl⟩
      · exact ⟨_, rfl⟩
    obtain ⟨x', hx'⟩ := hcell
    rw [hx'] at he
    have hty : ∃ ty, (tysW cA)[t0]? = some (cA t0, ty) := by
      match t0, ht0 with
      | 0, _ => exact ⟨_, rfl⟩
      | 1, _ => exact ⟨_, rfl⟩
      | 2, _ => exact ⟨_, rfl⟩
      | 3, _ => exact ⟨_, rfl⟩
      | 4, _ => exact ⟨_, rfl⟩
    obtain ⟨ty, hty⟩ := hty
    exact va_alen hx hb hK hP a t0 he hty rfl hd (kk.pure hW hL)
theorem s_aastore (hC : Cx p R s m args meth c D cA xe A SL sx dep k) (hW : Wd D cA xe A s xa G H locs) (hL : lR xa xe ls (mMax k) L) (ho : chkE k (pc, (.aastore, nx, aux), j) = true) (h : dstep SL sx dep k pc (.aastore, nx, aux) L st G = some (.inl (pc', L', st', G'))) (kk : KK p l e R s m args below meth c Q D cA xe A k xa G cells slots pc' L' st' G') : W p l e R s m args below meth c H locs cells slots Q (F0 m pc ls (st.map (mvv xa xe))) := by
  obtain ⟨⟨hx, hb, hr, hlk, hml, hown, hts, hin⟩, hK, hE, hA, hR, hxe⟩ := id hC
  obtain ⟨hd, rfl, hq⟩ := ckd (fun _ => rfl) ho
  obtain ⟨hG, hP, hD, hS⟩ := id hW
  rw [dq_aastore] at h
  obtain ⟨⟨x, r0⟩, h0, h⟩ := Option.bind_eq_some_iff.mp h
  obtain ⟨⟨i, r1⟩, h1, h⟩ := Option.bind_eq_some_iff.mp h
  obtain ⟨⟨a, r⟩, h2, h⟩ := Option.bind_eq_some_iff.mp h
  obtain ⟨⟨t, n, f⟩, h3, h⟩ := Option.bind_eq_some_iff.mp h
  obtain ⟨⟨ci, vs⟩, h5, h⟩ := Option.bind_eq_some_iff.mp h
  obtain ⟨hb1, h⟩ := gc1_eq h
  obtain ⟨rfl, rfl, rfl, rfl⟩ := go_eq h
  obtain rfl := pA_eq h0
  obtain rfl := pI_eq h1
  obtain rfl := pA_eq h2
  simp only [Bool.and_eq_true] at hb1
  obtain ⟨⟨c1, c2⟩, c3⟩ := hb1
  have hi := inB_in c1
  have c2 := blt_l c2
  have c3 := Nat.eq_of_beq_eq_true c3
  obtain ⟨h4, ht, hn⟩ := ownQ_eq h3
  have h5 := ownO_eq h5
  have ha := lt_of_at h4
  show W p l e R s m args below meth c H locs cells slots Q (F0 m pc ls (mvv xa xe (.ref x) :: .int i :: mvv xa xe (.ref a) :: r.map (mvv xa xe)))
  rw [mvv_own (k := x) c2, mvv_own (k := a) (Nat.lt_of_lt_of_le ha hG)]
  have hlt : i.toNatClampNeg < f.length := by
    have : ¬ n ≤ i.toNatClampNeg := fun q => hi (Or.inr q)
    omega
  have ef : (va_up (fun j => (f.getD j none).map xa) i.toNatClampNeg (some (xa x))) = fun j => ((f.set i.toNatClampNeg (some x)).getD j none).map xa := by
    funext j
    unfold va_up
    by_cases hj : j = i.toNatClampNeg
    · subst hj
      simp [hlt]
    · rw [if_neg hj]
      simp only [List.getD_eq_getElem?_getD, List.getElem?_set]
      rw [if_neg (fun q => hj q.symm)]
  have hkk : ∀ (H1 : Heap) (locs1 : List Loc), va_P D vwCl ((wsW cA xa xe G).set a (xa a, .inl (cA t, n, .inr (.inr (.inr (.inr (va_up (fun j => (f.getD j none).map xa) i.toNatClampNeg (some (xa x))))))))) H1 → va_D A ((wsW cA xa xe G).set a (xa a, .inl (cA t, n, .inr (.inr (.inr (.inr (va_up (fun j => (f.getD j none).map xa) i.toNatClampNeg (some (xa x))))))))) → va_S A s.heap H1 locs1 → W p l e R s m args below meth c H1 locs1 cells slots Q (F0 m (pc + 1) ls (r.map (mvv xa xe))) := by
    intro H1 locs1 z1 z2 z3
    rw [ef] at z1 z2
    exact KK.put kk h4 rfl hG z1 z2 z3 hL
  rcases ht with rfl | rfl
  · have c4 : ci = 6 := c3
    subst c4
    exact va_astq hx hb hK hP hD hS a 3 x 6 (wsW_at h4) (r := (RX6, TX6, 2)) rfl (wsW_at h5) rfl hi hd hkk
  · have c4 : ci = 1 := c3
    subst c4
    exact va_astq hx hb hK hP hD hS a 4 x 1 (wsW_at h4) (r := (RX1, TX1, 2)) rfl (wsW_at h5) rfl hi hd hkk
end STH
