theorem w_aint : Cond.arrayClass .int ∈ lwG := lwG_mem (hasW_mem (h := 127) (by decide +kernel)) rfl
theorem w_abyte : Cond.arrayClass .byte ∈ lwG := lwG_mem (hasW_mem (h := 126) (by decide +kernel)) rfl
theorem w_along : Cond.arrayClass .long ∈ lwG := lwG_mem (hasW_mem (h := 210) (by decide +kernel)) rfl
theorem w_acnat : Cond.native arraycopyName ∈ lwG := lwG_mem (hasW_mem (h := 642) (by decide +kernel)) rfl
theorem w_acst : Cond.static arraycopyName ∈ lwG := lwG_mem (hasW_mem (h := 641) (by decide +kernel)) rfl
theorem w_sys : Cond.initialized "java/lang/System" ∈ lwG := lwG_mem (hasW_mem (h := 96) (by decide +kernel)) rfl
theorem w_math : Cond.initialized "java/lang/Math" ∈ lwG := lwG_mem (hasW_mem (h := 90) (by decide +kernel)) rfl
theorem w_maxst : Cond.static Lib.Math.max.name ∈ lwG := lwG_mem (hasW_mem (h := 458) (by decide +kernel)) rfl
theorem w_maxc : Cond.code Lib.Math.max.name Lib.Math.max.code 2 (some .int) ∈ lwG := lwG_mem (hasW_mem (h := 459) (by decide +kernel)) rfl
theorem w_minst : Cond.static Lib.Math.min.name ∈ lwG := lwG_mem (hasW_mem (h := 455) (by decide +kernel)) rfl
theorem w_minc : Cond.code Lib.Math.min.name Lib.Math.min.code 2 (some .int) ∈ lwG := lwG_mem (hasW_mem (h := 456) (by decide +kernel)) rfl
theorem w_obi : Cond.instanceMethod objectInit ∈ lwG := lwG_mem (hasW_mem (h := 103) (by decide +kernel)) rfl
theorem w_obc : Cond.code objectInit ⟨#[0xb1]⟩ 1 none ∈ lwG := lwG_mem (hasW_mem (h := 104) (by decide +kernel)) rfl
theorem mvv_agree {xa xa' : Nat → Nat} {xe : Nat → Value} {n : Nat} (ha : ∀ j, j < n → xa' j = xa j) (hn : n ≤ 1000) {v : Value} (hv : wfV n v = true) : mvv xa' xe v = mvv xa xe v := by
  cases v with
  | ref k =>
    unfold wfV at hv
    rw [Bool.or_eq_true] at hv
    rcases hv with h | h
    · have := blt_l h
      rw [mvv_own (by omega), mvv_own (by omega), ha k this]
    · have := ble_l h
      rw [mvv_out this, mvv_out this]
  | _ => rfl
theorem map_agree {xa xa' : Nat → Nat} {xe : Nat → Value} {n : Nat} (ha : ∀ j, j < n → xa' j = xa j) (hn : n ≤ 1000) {st : List Value} (hv : st.all (wfV n) = true) : st.map (mvv xa' xe) = st.map (mvv xa xe) :=
  List.map_congr_left fun v h => mvv_agree ha hn (List.all_eq_true.mp hv v h)
theorem cell_agree {cA : Nat → ClassId} {xa xa' : Nat → Nat} {xe : Nat → Value} {n : Nat} (ha : ∀ j, j < n → xa' j = xa j) (hn : n ≤ 1000) {q : mC} (hq : wfC n q = true) : cellW cA xa' xe q = cellW cA xa xe q := by
  rcases q with ⟨t, len, f | f | f⟩ | ⟨ci, fs⟩
  · rfl
  · rfl
  · show (Sum.inl (cA t, len, Sum.inr (Sum.inr (Sum.inr (Sum.inr fun j => (f.getD j none).map xa')))) : va_E) = Sum.inl (cA t, len, Sum.inr (Sum.inr (Sum.inr (Sum.inr fun j => (f.getD j none).map xa))))
    have e : (fun j => (f.getD j none).map xa') = fun j => (f.getD j none).map xa := by
      funext j
      cases hj : f.getD j none with
      | none => rfl
      | some k =>
        have hm : some k ∈ f := by
          rw [List.getD_eq_getElem?_getD] at hj
          cases hq2 : f[j]? with
          | none => rw [hq2] at hj; cases hj
          | some z => rw [hq2] at hj; cases hj; exact List.mem_of_getElem? hq2
        have h1 := List.all_eq_true.mp hq _ hm
        show some (xa' k) = some (xa k)
        rw [ha k (blt_l h1)]
    rw [e]
  · show (Sum.inr (ci, fs.map (mvv xa' xe)) : va_E) = Sum.inr (ci, fs.map (mvv xa xe))
    rw [map_agree ha hn hq]
theorem lR_agree {xa xa' : Nat → Nat} {xe : Nat → Value} {n nL : Nat} (ha : ∀ j, j < n → xa' j = xa j) (hn : n ≤ 1000) {ls : Array Slot} {L : List Value} (hv : L.all (wfV n) = true) (h : lR xa xe ls nL L) : lR xa' xe ls nL L := by
  refine ⟨h.1, h.2.1, h.2.2.1, ?_⟩
  rintro ⟨j, w⟩ hq
  obtain ⟨u, h1, h2, rfl⟩ := lvO_mem.mp hq
  rw [mvv_agree ha hn (List.all_eq_true.mp hv u (List.mem_of_getElem? h1))]
  exact h.2.2.2 _ (lvO_mem.mpr ⟨u, h1, h2, rfl⟩)
theorem wsW_app {cA : Nat → ClassId} {xa xa' : Nat → Nat} {xe : Nat → Value} {G : mH} {q : mC} (ha : ∀ j, j < G.length → xa' j = xa j) (hn : G.length ≤ 1000) (hG : G.all (wfC G.length) = true) : wsW cA xa' xe (G ++ [q]) = wsW cA xa xe G ++ [(xa' G.length, cellW cA xa' xe q)] := by
  unfold wsW
  rw [List.mapIdx_concat]
  congr 1
  apply List.ext_getElem?
  intro i
  rw [List.getElem?_mapIdx, List.getElem?_mapIdx]
  cases hi : G[i]? with
  | none => rfl
  | some z =>
    have h1 := lt_of_at hi
    have h2 := List.all_eq_true.mp hG z (List.mem_of_getElem? hi)
    show some (xa' i, cellW cA xa' xe z) = some (xa i, cellW cA xa xe z)
    rw [ha i h1, cell_agree ha hn h2]
theorem szG_app {G : mH} {q : mC} : szG (G ++ [q]) = szG G + szC q := by
  unfold szG
  simp
section STN
variable {p : Program} {l : Launch} {e : Env} {R : Room} {s : State} {m : MethodId} {args : Array Value} {below : List Frame} {meth : Method} {c : Code} {Q : State → Prop} {D : va_G} {cA : Nat → ClassId} {xe : Nat → Value} {A : Nat → Prop} {SL : Nat} {sx : Nat → Int32} {dep k pc : Nat} {xa : Nat → Nat} {H : Heap} {locs : List Loc} {cells slots : Nat} {ls : Array Slot} {L st : List Value} {G : mH} {pc' : Nat} {L' st' : List Value} {G' : mH} {nx aux j : Nat}
theorem KK.grow {r : List Value} {q : mC} {a : Nat} (kk : KK p l e R s m args below meth c Q D cA xe A k xa G cells slots pc' L' (.ref G.length :: r) (G ++ [q])) (hw : wfA L' r G = true)
    (hP : va_P D vwCl (wsW cA xa xe G ++ [(a, cellW cA (fun j => if j = G.length then a else xa j) xe q)]) H) (hD : va_D A (wsW cA xa xe G ++ [(a, cellW cA (fun j => if j = G.length then a else xa j) xe q)])) (hS : va_S A s.heap H locs) (hL : lR xa xe ls (mMax k) L') : W p l e R s m args below meth c H locs (cells + 1) (slots + szC q) Q (F0 m pc' ls (.ref a :: r.map (mvv xa xe))) := by
  unfold wfA at hw
  simp only [Bool.and_eq_true] at hw
  obtain ⟨⟨⟨w1, w2⟩, w3⟩, w4⟩ := hw
  have w4 := blt_l w4
  have ha : ∀ j, j < G.length → (fun j => if j = G.length then a else xa j) j = xa j := fun j hj => if_neg (Nat.ne_of_lt hj)
  have hn : G.length ≤ 1000 := by omega
  have e1 : (fun j => if j = G.length then a else xa j) G.length = a := if_pos rfl
  have e2 := wsW_app (cA := cA) (xe := xe) (q := q) ha hn w3
  rw [if_pos rfl] at e2
  have z := kk (fun j => if j = G.length then a else xa j) H locs ls (cells + 1) (slots + szC q) (by simp) (by rw [szG_app]; omega) ha (fun h => absurd h (by simp)) ⟨by simp; omega, by rw [e2]; exact hP, by rw [e2]; exact hD, hS⟩ (lR_agree ha hn w1 hL)
  rw [List.map_cons, map_agree ha hn w2, mvv_own (by omega), if_pos rfl] at z
  exact z
theorem s_new {i : Nat} (hC : Cx p R s m args meth c D cA xe A SL sx dep k) (hW : Wd D cA xe A s xa G H locs) (hL : lR xa xe ls (mMax k) L) (ho : chkE k (pc, (.new i, nx, aux), j) = true) (h : dstep SL sx dep k pc (.new i, nx, aux) L st G = some (.inl (pc', L', st', G'))) (hg : cells + (G'.length - G.length) ≤ R.cells ∧ slots + (szG G' - szG G) ≤ R.slots) (kk : KK p l e R s m args below meth c Q D cA xe A k xa G cells slots pc' L' st' G') : W p l e R s m args below meth c H locs cells slots Q (F0 m pc ls (st.map (mvv xa xe))) := by
  obtain ⟨⟨hx, hb, hr, hlk, hml, hown, hts, hin⟩, hK, hE, hA, hR, hxe⟩ := id hC
  obtain ⟨hd, rfl, hq⟩ := ckd (fun _ => rfl) ho
  obtain ⟨hG, hP, hD, hS⟩ := id hW
  rw [dq_new] at h
  obtain ⟨hw, h⟩ := gc1_eq h
  obtain ⟨fs, h1, h⟩ := Option.bind_eq_some_iff.mp h
  obtain ⟨rfl, rfl, rfl, rfl⟩ := go_eq h
  unfold chkX at hq
  dsimp only at hq
  unfold newO at h1
  obtain ⟨q, hq1, hq2⟩ := Option.map_eq_some_iff.mp h1
  rw [hq1] at hq
  simp only [Bool.and_eq_true] at hq
  obtain ⟨⟨x1, x2⟩, x3⟩ := hq
  obtain ⟨hu, ty0, hty, hnm⟩ := cls_ok hq1
  have hlen : fs.length = q.2.2 := by rw [← hq2]; simp
  have hat : ∀ j, j < q.2.2 → fs[j]? = some (defaultValue (ty0 j)) := by
    intro j hj
    rw [← hq2, List.getElem?_map, List.getElem?_range hj]
    show some (match parseFieldDescriptor (q.2.1 j).2.2.1 with
      | some ty => defaultValue ty
      | none => .null) = _
    rw [hty j hj]
  have hmap : ∀ f : Nat → Nat, fs.map (mvv f xe) = fs := by
    intro f
    apply List.ext_getElem?
    intro j
    rw [List.getElem?_map]
    by_cases hj : j < q.2.2
    · rw [hat j hj]
      show some (mvv f xe (defaultValue (ty0 j))) = _
      cases ty0 j <;> rfl
    · rw [List.getElem?_eq_none (by omega)]; rfl
  have g1 : cells + 1 ≤ R.cells := by have := hg.1; simp at this; exact this
  have g2 : slots + q.2.2 ≤ R.slots := by
    have := hg.2
    rw [szG_app, show szC (.inr (aux, fs)) = fs.length from rfl, hlen] at this
    omega
  refine va_new (ci := aux) (fs := fs) (C := q.1) (T := q.2.1) (N := q.2.2) hx hb hts hu ty0 hty hown (hts _ (lwG_mem (hasW_mem x1) rfl)) (hts _ (lwG_mem (hasW_mem x2) rfl)) (hts _ (lwG_mem (hasW_mem x3) rfl)) hK hP hD hS hA hq1 (fun j hj => ?_) g1 g2 hd (fun a H1 z1 z2 z3 => ?_)
  · unfold vp_V
    rw [List.getD_eq_getElem?_getD, hat j hj]; rfl
  · have e1 : cellW cA (fun j => if j = G.length then a else xa j) xe (.inr (aux, fs)) = .inr (aux, fs) := by
      show (Sum.inr (aux, fs.map _) : va_E) = _
      rw [hmap]
    have z := KK.grow (a := a) kk hw (by rw [e1]; exact z1) (by rw [e1]; exact z2) z3 hL
    rw [show szC (.inr (aux, fs)) = fs.length from rfl, hlen] at z
    exact z
theorem s_newarray {i : ArrayType} (hC : Cx p R s m args meth c D cA xe A SL sx dep k) (hW : Wd D cA xe A s xa G H locs) (hL : lR xa xe ls (mMax k) L) (ho : chkE k (pc, (.newarray i, nx, aux), j) = true) (h : dstep SL sx dep k pc (.newarray i, nx, aux) L st G = some (.inl (pc', L', st', G'))) (hg : cells + (G'.length - G.length) ≤ R.cells ∧ slots + (szG G' - szG G) ≤ R.slots) (kk : KK p l e R s m args below meth c Q D cA xe A k xa G cells slots pc' L' st' G') : W p l e R s m args below meth c H locs cells slots Q (F0 m pc ls (st.map (mvv xa xe))) := by
  obtain ⟨⟨hx, hb, hr, hlk, hml, hown, hts, hin⟩, hK, hE, hA, hR, hxe⟩ := id hC
  obtain ⟨hd, rfl, hq⟩ := ckd (fun _ => rfl) ho
  obtain ⟨hG, hP, hD, hS⟩ := id hW
  rw [dq_newarray] at h
  obtain ⟨⟨n, r⟩, h1, h⟩ := Option.bind_eq_some_iff.mp h
  obtain ⟨hw, hz⟩ := gc1_eq h
  clear h
  obtain rfl := pI_eq h1
  simp only [Bool.and_eq_true] at hw
  obtain ⟨⟨w1, w2⟩, w3⟩ := hw
  have w2 := of_decide_eq_true w2
  have w3 := ble_l w3
  unfold chkX at hq
  match aux, hz, hq with
  | 0, h, hq =>
    obtain ⟨rfl, rfl, rfl, rfl⟩ := go_eq h
    obtain rfl := of_decide_eq_true hq
    have g1 : cells + 1 ≤ R.cells := by have := hg.1; simp at this; exact this
    have g2 : slots + n.toNatClampNeg ≤ R.slots := by
      have := hg.2
      rw [szG_app] at this
      have e0 : szC (.inl (0, n.toNatClampNeg, .inl (fun _ => 0))) = n.toNatClampNeg := rfl
      rw [e0] at this
      omega
    refine va_newa (atype := .int) (rest := r.map (mvv xa xe)) (a0 := (n.toNatClampNeg, .inl (fun _ => 0))) hx hb (hts _ w_aint) rfl hK hP hD hS hA (fun cA => rfl) w2 rfl (by show n.toNatClampNeg * 4 ≤ _; omega) g1 g2 hd (fun a cA' H1 hK' z1 z2 z3 => ?_)
    have e2 : cA' = cA 0 := Option.some.inj ((show s.vm.findClass _ = some cA' from (hK'.2 5 _ rfl).2).symm.trans (hK.2 0 _ rfl).2)
    subst e2
    exact KK.grow (a := a) kk w1 z1 z2 z3 hL
  | 1, h, hq =>
    obtain ⟨rfl, rfl, rfl, rfl⟩ := go_eq h
    obtain rfl := of_decide_eq_true hq
    have g1 : cells + 1 ≤ R.cells := by have := hg.1; simp at this; exact this
    have g2 : slots + n.toNatClampNeg ≤ R.slots := by
      have := hg.2
      rw [szG_app] at this
      have e0 : szC (.inl (1, n.toNatClampNeg, .inl (fun _ => 0))) = n.toNatClampNeg := rfl
      rw [e0] at this
      omega
    refine va_newa (atype := .byte) (rest := r.map (mvv xa xe)) (a0 := (n.toNatClampNeg, .inl (fun _ => 0))) hx hb (hts _ w_abyte) rfl hK hP hD hS hA (fun cA => rfl) w2 rfl (by show n.toNatClampNeg * 1 ≤ _; omega) g1 g2 hd (fun a cA' H1 hK' z1 z2 z3 => ?_)
    have e2 : cA' = cA 1 := Option.some.inj ((show s.vm.findClass _ = some cA' from (hK'.2 5 _ rfl).2).symm.trans (hK.2 1 _ rfl).2)
    subst e2
    exact KK.grow (a := a) kk w1 z1 z2 z3 hL
  | 2, h, hq =>
    obtain ⟨rfl, rfl, rfl, rfl⟩ := go_eq h
    obtain rfl := of_decide_eq_true hq
    have g1 : cells + 1 ≤ R.cells := by have := hg.1; simp at this; exact this
    have g2 : slots + n.toNatClampNeg ≤ R.slots := by
      have := hg.2
      rw [szG_app] at this
      have e0 : szC (.inl (2, n.toNatClampNeg, .inr (.inl (fun _ => 0)))) = n.toNatClampNeg := rfl
      rw [e0] at this
      omega
    refine va_newa (atype := .long) (rest := r.map (mvv xa xe)) (a0 := (n.toNatClampNeg, .inr (.inl (fun _ => 0)))) hx hb (hts _ w_along) rfl hK hP hD hS hA (fun cA => rfl) w2 rfl (by show n.toNatClampNeg * 8 ≤ _; omega) g1 g2 hd (fun a cA' H1 hK' z1 z2 z3 => ?_)
    have e2 : cA' = cA 2 := Option.some.inj ((show s.vm.findClass _ = some cA' from (hK'.2 5 _ rfl).2).symm.trans (hK.2 2 _ rfl).2)
    subst e2
    exact KK.grow (a := a) kk w1 z1 z2 z3 hL
  | y + 3, h, hq => cases h
theorem s_anewarray {i : Nat} (hC : Cx p R s m args meth c D cA xe A SL sx dep k) (hW : Wd D cA xe A s xa G H locs) (hL : lR xa xe ls (mMax k) L) (ho : chkE k (pc, (.anewarray i, nx, aux), j) = true) (h : dstep SL sx dep k pc (.anewarray i, nx, aux) L st G = some (.inl (pc', L', st', G'))) (hg : cells + (G'.length - G.length) ≤ R.cells ∧ slots + (szG G' - szG G) ≤ R.slots) (kk : KK p l e R s m args below meth c Q D cA xe A k xa G cells slots pc' L' st' G') : W p l e R s m args below meth c H locs cells slots Q (F0 m pc ls (st.map (mvv xa xe))) := by
  obtain ⟨⟨hx, hb, hr, hlk, hml, hown, hts, hin⟩, hK, hE, hA, hR, hxe⟩ := id hC
  obtain ⟨hd, rfl, hq⟩ := ckd (fun _ => rfl) ho
  obtain ⟨hG, hP, hD, hS⟩ := id hW
  rw [dq_anewarray] at h
  obtain ⟨⟨n, r⟩, h1, h⟩ := Option.bind_eq_some_iff.mp h
  obtain ⟨hw, h⟩ := gc1_eq h
  obtain ⟨rfl, rfl, rfl, rfl⟩ := go_eq h
  obtain rfl := pI_eq h1
  simp only [Bool.and_eq_true, Bool.or_eq_true] at hw
  obtain ⟨⟨⟨w1, w2⟩, w3⟩, w4⟩ := hw
  have w2 := of_decide_eq_true w2
  have w3 := ble_l w3
  obtain ⟨-, -, -, -, -, -, -, h8, h9⟩ := hE
  unfold chkX at hq
  dsimp only at hq
  have g1 : cells + 1 ≤ R.cells := by have := hg.1; simp at this; exact this
  have g2 : slots + n.toNatClampNeg ≤ R.slots := by
    have := hg.2
    rw [szG_app] at this
    have e0 : szC (.inl (aux, n.toNatClampNeg, .inr (.inr (List.replicate n.toNatClampNeg none)))) = n.toNatClampNeg := rfl
    rw [e0] at this
    omega
  have ef : ∀ f : Nat → Nat, (fun j => ((List.replicate n.toNatClampNeg (none : Option Nat)).getD j none).map f) = fun _ => none := by
    intro f
    funext j
    rw [List.getD_eq_getElem?_getD, List.getElem?_replicate]
    split <;> rfl
  have ec : ∀ (t : Nat) (f : Nat → Nat), cellW cA f xe (.inl (t, n.toNatClampNeg, .inr (.inr (List.replicate n.toNatClampNeg none)))) = .inl (cA t, n.toNatClampNeg, .inr (.inr (.inr (.inr (fun _ => none))))) := by
    intro t f
    show (Sum.inl (cA t, n.toNatClampNeg, Sum.inr (Sum.inr (Sum.inr (Sum.inr _)))) : va_E) = _
    rw [ef]
  rcases w4 with w4 | w4
  · obtain rfl := Nat.eq_of_beq_eq_true w4
    refine va_newq (rest := r.map (mvv xa xe)) hx hb hown (hts _ (lwG_mem (hasW_mem hq) rfl)) h8 hK hP hD hS hA w2 rfl (by omega) g1 g2 hd (fun a cA' H1 hK' z1 z2 z3 => ?_)
    obtain ⟨_, _, _, _, _, y1⟩ := (hK'.2 5 _ rfl).2
    obtain ⟨_, _, _, _, _, y2⟩ := (hK.2 3 _ rfl).2
    have e2 : cA' = cA 3 := Option.some.inj (y1.symm.trans y2)
    subst e2
    exact KK.grow (a := a) kk w1 (by rw [ec]; exact z1) (by rw [ec]; exact z2) z3 hL
  · obtain rfl := Nat.eq_of_beq_eq_true w4
    refine va_newq (rest := r.map (mvv xa xe)) hx hb hown (hts _ (lwG_mem (hasW_mem hq) rfl)) h9 hK hP hD hS hA w2 rfl (by omega) g1 g2 hd (fun a cA' H1 hK' z1 z2 z3 => ?_)
    obtain ⟨_, _, _, _, _, y1⟩ := (hK'.2 5 _ rfl).2
    obtain ⟨_, _, _, _, _, y2⟩ := (hK.2 4 _ rfl).2
    have e2 : cA' = cA 4 := Option.some.inj (y1.symm.trans y2)
    subst e2
    exact KK.grow (a := a) kk w1 (by rw [ec]; exact z1) (by rw [ec]; exact z2) z3 hL
theorem s_static {i : Nat} (hC : Cx p R s m args meth c D cA xe A SL sx dep k) (hW : Wd D cA xe A s xa G H locs) (hL : lR xa xe ls (mMax k) L) (ho : chkE k (pc, (.invokestatic i, nx, aux), j) = true) (h : dstep SL sx dep k pc (.invokestatic i, nx, aux) L st G = some (.inl (pc', L', st', G'))) (hg : cells + (G'.length - G.length) ≤ R.cells ∧ slots + (szG G' - szG G) ≤ R.slots) (kk : KK p l e R s m args below meth c Q D cA xe A k xa G cells slots pc' L' st' G') : W p l e R s m args below meth c H locs cells slots Q (F0 m pc ls (st.map (mvv xa xe))) := by
  obtain ⟨⟨hx, hb, hr, hlk, hml, hown, hts, hin⟩, hK, hE, hA, hR, hxe⟩ := id hC
  obtain ⟨hd, rfl, hq⟩ := ckd (fun _ => rfl) ho
  obtain ⟨hG, hP, hD, hS⟩ := id hW
  have hsz : c.maxLocals = ls.size := by rw [hml]; exact hL.2.1.symm
  rw [dq_invokestatic] at h
  unfold chkX at hq
  dsimp only at hq
  cases h1 : Nat.beq aux 901 with
  | true =>
    rw [h1, cond_true] at h hq
    split at h
    · rename_i n dp b sp a r
      obtain ⟨⟨n0, f⟩, h2, h⟩ := Option.bind_eq_some_iff.mp h
      obtain ⟨⟨n1, g⟩, h3, h⟩ := Option.bind_eq_some_iff.mp h
      obtain ⟨hw, h⟩ := gc1_eq h
      obtain ⟨rfl, rfl, rfl, rfl⟩ := go_eq h
      simp only [Bool.and_eq_true, decide_eq_true_eq] at hw
      obtain ⟨⟨⟨⟨⟨⟨w1, w2⟩, w3⟩, w4⟩, w5⟩, w6⟩, w7⟩ := hw
      have w4 := ble_l w4
      have w5 := ble_l w5
      have w6 := blt_l w6
      have w7 := ble_l w7
      have h2 := ownI_eq h2
      have h3 := ownI_eq h3
      have ha := lt_of_at h2
      have hb2 := lt_of_at h3
      show W p l e R s m args below meth c H locs cells slots Q (F0 m pc ls (.int n :: .int dp :: mvv xa xe (.ref b) :: .int sp :: mvv xa xe (.ref a) :: r.map (mvv xa xe)))
      rw [mvv_own (k := b) (Nat.lt_of_lt_of_le hb2 hG), mvv_own (k := a) (Nat.lt_of_lt_of_le ha hG)]
      refine va_copyi (ty := .int) hx hb hsz hown (hts _ (lwG_mem (hasW_mem hq) rfl)) (hts _ w_acnat) (hts _ w_acst) (hts _ w_sys) hK hP hD hS a b 0 0 (wsW_at h2) (wsW_at h3) rfl rfl rfl w1 w2 w3 w4 w5 (fun _ _ => rfl) (by omega) ?_ hd (fun H1 locs1 z1 z2 z3 => KK.put kk h3 rfl hG z1 z2 z3 hL)
      rw [mvv_catS hxe]
      have e0 : nativeFrameWords "java/lang/System" "arraycopy" 5 = 7 := by decide
      rw [e0]
      omega
    · cases h
  | false =>
    rw [h1, cond_false] at h hq
    cases h2 : Nat.beq aux 902 with
    | true =>
      rw [h2, cond_true] at h hq
      obtain ⟨⟨y, r1⟩, h3, h⟩ := Option.bind_eq_some_iff.mp h
      obtain ⟨⟨x, r⟩, h4, h⟩ := Option.bind_eq_some_iff.mp h
      obtain ⟨hw, h⟩ := gc1_eq h
      obtain ⟨rfl, rfl, rfl, rfl⟩ := go_eq h
      obtain rfl := pI_eq h3
      obtain rfl := pI_eq h4
      rw [Bool.and_eq_true] at hw
      have w1 := blt_l hw.1
      have w2 := ble_l hw.2
      exact va_mmax (x := x) (y := y) (rest := r.map (mvv xa xe)) hx hb hsz hown (hts _ (lwG_mem (hasW_mem hq) rfl)) (hts _ w_maxst) (hts _ w_math) (hts _ w_maxc) (by omega) (by rw [mvv_catS hxe]; have : catS r ≤ 8 := w2; omega) (by have := hg.1; omega) (by have := hg.2; omega) hd (kk.pure hW hL)
    | false =>
      rw [h2, cond_false] at h hq
      cases h3 : Nat.beq aux 903 with
      | true =>
        rw [h3, cond_true] at h hq
        obtain ⟨⟨y, r1⟩, h4, h⟩ := Option.bind_eq_some_iff.mp h
        obtain ⟨⟨x, r⟩, h5, h⟩ := Option.bind_eq_some_iff.mp h
        obtain ⟨hw, h⟩ := gc1_eq h
        obtain ⟨rfl, rfl, rfl, rfl⟩ := go_eq h
        obtain rfl := pI_eq h4
        obtain rfl := pI_eq h5
        rw [Bool.and_eq_true] at hw
        have w1 := blt_l hw.1
        have w2 := ble_l hw.2
        exact va_mmin (x := x) (y := y) (rest := r.map (mvv xa xe)) hx hb hsz hown (hts _ (lwG_mem (hasW_mem hq) rfl)) (hts _ w_minst) (hts _ w_math) (hts _ w_minc) (by omega) (by rw [mvv_catS hxe]; have : catS r ≤ 8 := w2; omega) (by have := hg.1; omega) (by have := hg.2; omega) hd (kk.pure hW hL)
      | false =>
        rw [h3, cond_false] at h
        obtain ⟨_, h⟩ := gc1_eq h
        unfold call0 at h
        obtain ⟨_, h⟩ := gc1_eq h
        cases h
theorem s_special {i : Nat} (hC : Cx p R s m args meth c D cA xe A SL sx dep k) (hW : Wd D cA xe A s xa G H locs) (hL : lR xa xe ls (mMax k) L) (ho : chkE k (pc, (.invokespecial i, nx, aux), j) = true) (h : dstep SL sx dep k pc (.invokespecial i, nx, aux) L st G = some (.inl (pc', L', st', G'))) (kk : KK p l e R s m args below meth c Q D cA xe A k xa G cells slots pc' L' st' G') : W p l e R s m args below meth c H locs cells slots Q (F0 m pc ls (st.map (mvv xa xe))) := by
  obtain ⟨⟨hx, hb, hr, hlk, hml, hown, hts, hin⟩, hK, hE, hA, hR, hxe⟩ := id hC
  obtain ⟨hd, rfl, hq⟩ := ckd (fun _ => rfl) ho
  rw [dq_invokespecial] at h
  unfold chkX at hq
  dsimp only at hq
  cases h1 : Nat.beq aux 900 with
  | true =>
    rw [h1, cond_true] at h hq
    split at h
    · rename_i a r
      obtain ⟨hw, h⟩ := gc1_eq h
      obtain ⟨rfl, rfl, rfl, rfl⟩ := go_eq h
      simp only [Bool.and_eq_true] at hw
      obtain ⟨⟨w1, w2⟩, w3⟩ := hw
      have w2 := blt_l w2
      have w3 := ble_l w3
      show W p l e R s m args below meth c H locs cells slots Q (F0 m pc ls (mvv xa xe (.ref a) :: r.map (mvv xa xe)))
      rw [mvv_own (blt_l w1)]
      refine W.objInit hx hb hown (hts _ (lwG_mem (hasW_mem hq) rfl)) (hts _ w_obi) (hts _ w_obc) rfl (by rw [hml]; exact hL.2.1) rfl hd (by omega) ?_ (kk.pure hW hL)
      show 2 * 0 + _ + 12 ≤ _
      rw [mvv_catS hxe]
      omega
    · cases h
  | false =>
    rw [h1, cond_false] at h
    obtain ⟨_, h⟩ := gc1_eq h
    unfold call0 at h
    obtain ⟨_, h⟩ := gc1_eq h
    cases h
end STN
