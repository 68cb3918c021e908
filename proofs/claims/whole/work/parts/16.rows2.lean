/-! rows with names for numbers, and small facts of ints -/
section ROX
variable {S : mScr} {dep k pc nx aux : Nat} {L st : List Value} {h : Hp} {Q : Option Value → Hp → Prop}
theorem V_ic {n : Int} {v : Int32} (hp : prog k pc = some (.iconst n, nx, aux)) (hv : Int32.ofInt n = v) (kk : V S dep k nx L (.int v :: st) h Q) : V S dep k pc L st h Q := V_iconst hp (hv ▸ kk)
theorem V_bi {n : Int} {v : Int32} (hp : prog k pc = some (.bipush n, nx, aux)) (hv : (Int8.ofInt n).toInt32 = v) (kk : V S dep k nx L (.int v :: st) h Q) : V S dep k pc L st h Q := V_bipush hp (hv ▸ kk)
theorem V_si {n : Int} {v : Int32} (hp : prog k pc = some (.sipush n, nx, aux)) (hv : (Int16.ofInt n).toInt32 = v) (kk : V S dep k nx L (.int v :: st) h Q) : V S dep k pc L st h Q := V_sipush hp (hv ▸ kk)
theorem V_lc {n : Fin 2} {v : Int64} (hp : prog k pc = some (.lconst n, nx, aux)) (hv : Int64.ofNat (n : Nat) = v) (kk : V S dep k nx L (.long v :: st) h Q) : V S dep k pc L st h Q := V_lconst hp (hv ▸ kk)
theorem V_l2 {n : Nat} {v : Int64} (hp : prog k pc = some (.ldc2_w n, nx, aux)) (hv : Int64.ofNat aux = v) (kk : V S dep k nx L (.long v :: st) h Q) : V S dep k pc L st h Q := V_ldc2_w hp (hv ▸ kk)
theorem V_lw {n : Nat} {v : Int32} (hp : prog k pc = some (.ldc_w n, nx, aux)) (hv : Int32.ofNat aux = v) (kk : V S dep k nx L (.int v :: st) h Q) : V S dep k pc L st h Q := V_ldc_w hp (hv ▸ kk)
theorem V_gi {i a : Nat} (j : Nat) (hp : prog k pc = some (.getfield i, nx, aux)) (hs : shI a aux = true) (hj : aux % 100 = j) (kk : V S dep k nx L (.int (h.1 a j) :: st) h Q) : V S dep k pc L (.ref a :: st) h Q := V_getI hp hs (hj ▸ kk)
def putI (k aux : Nat) : Bool := match fldT aux with
  | none => false
  | some (c, _, d, fin) => decide (d = "I") && (!fin || (Nat.beq (mKind k) 2 && decide (c = (mName k).cls)))
theorem putI_ok {v : Int32} (h : putI k aux = true) : putOk k aux (.int v) = true := by
  unfold putI at h
  unfold putOk
  cases hf : fldT aux with
  | none => rw [hf] at h; cases h
  | some q =>
    obtain ⟨c, n, d, fin⟩ := q
    rw [hf] at h
    dsimp only at h ⊢
    rw [Bool.and_eq_true] at h
    obtain ⟨h1, h2⟩ := h
    obtain rfl := of_decide_eq_true h1
    rw [h2, Bool.and_true, show parseFieldDescriptor "I" = some .int from by decide +kernel]
    show (decide (narrow .int (.int v) = .int v) && fits .int (.int v)) = true
    rw [decide_eq_true (show narrow .int (.int v) = .int v from rfl)]; rfl
theorem V_pi {i a : Nat} {v : Int32} (j : Nat) (hp : prog k pc = some (.putfield i, nx, aux)) (hs : shI a aux = true) (ho : putI k aux = true) (hj : aux % 100 = j) (kk : V S dep k nx L st (wI h a j v) Q) : V S dep k pc L (.int v :: .ref a :: st) h Q := V_putI hp hs (putI_ok ho) (hj ▸ kk)
theorem V_pz {i a : Nat} {v : Int32} (j : Nat) (hp : prog k pc = some (.putfield i, nx, aux)) (hs : shI a aux = true) (ho : putOk k aux (.int v) = true) (hj : aux % 100 = j) (kk : V S dep k nx L st (wI h a j v) Q) : V S dep k pc L (.int v :: .ref a :: st) h Q := V_putI hp hs ho (hj ▸ kk)
theorem V_al {a : Nat} (n : Nat) {i : Int32} {j : Nat} (hp : prog k pc = some (.iaload, nx, aux)) (hs : shA a 0 n = true) (hi : i = nI j) (hj : j < n) (hn : Nat.blt n 2147483648 = true) (kk : V S dep k nx L (.int (h.1 a j) :: st) h Q) : V S dep k pc L (.int i :: .ref a :: st) h Q := by
  have hn := blt_l hn
  have e : i.toNatClampNeg = j := by rw [hi]; exact nI_clamp (by omega)
  exact V_iald hp hs (inB_nI (by rw [hi]; exact nI_pos' (by omega)) (by rw [e]; exact hj)) (by rw [e]; exact kk)
theorem V_bl {a : Nat} (n : Nat) {i : Int32} {j : Nat} (hp : prog k pc = some (.baload, nx, aux)) (hs : shA a 1 n = true) (hi : i = nI j) (hj : j < n) (hn : Nat.blt n 2147483648 = true) (kk : V S dep k nx L (.int (h.1 a j) :: st) h Q) : V S dep k pc L (.int i :: .ref a :: st) h Q := by
  have hn := blt_l hn
  have e : i.toNatClampNeg = j := by rw [hi]; exact nI_clamp (by omega)
  exact V_bald hp hs (inB_nI (by rw [hi]; exact nI_pos' (by omega)) (by rw [e]; exact hj)) (by rw [e]; exact kk)
theorem V_ll {a : Nat} (n : Nat) {i : Int32} {j : Nat} (hp : prog k pc = some (.laload, nx, aux)) (hs : shJ a n = true) (hi : i = nI j) (hj : j < n) (hn : Nat.blt n 2147483648 = true) (kk : V S dep k nx L (.long (h.2 a j) :: st) h Q) : V S dep k pc L (.int i :: .ref a :: st) h Q := by
  have hn := blt_l hn
  have e : i.toNatClampNeg = j := by rw [hi]; exact nI_clamp (by omega)
  exact V_lald hp hs (inB_nI (by rw [hi]; exact nI_pos' (by omega)) (by rw [e]; exact hj)) (by rw [e]; exact kk)
theorem V_as {a : Nat} (n : Nat) {i x : Int32} {j : Nat} (hp : prog k pc = some (.iastore, nx, aux)) (hs : shA a 0 n = true) (hi : i = nI j) (hj : j < n) (hn : Nat.blt n 2147483648 = true) (kk : V S dep k nx L st (wI h a j x) Q) : V S dep k pc L (.int x :: .int i :: .ref a :: st) h Q := by
  have hn := blt_l hn
  have e : i.toNatClampNeg = j := by rw [hi]; exact nI_clamp (by omega)
  exact V_iast hp hs (inB_nI (by rw [hi]; exact nI_pos' (by omega)) (by rw [e]; exact hj)) (by rw [e]; exact kk)
theorem V_bs {a : Nat} (n : Nat) {i x : Int32} {j : Nat} (hp : prog k pc = some (.bastore, nx, aux)) (hs : shA a 1 n = true) (hi : i = nI j) (hj : j < n) (hn : Nat.blt n 2147483648 = true) (kk : V S dep k nx L st (wI h a j (vp_nar .byte x)) Q) : V S dep k pc L (.int x :: .int i :: .ref a :: st) h Q := by
  have hn := blt_l hn
  have e : i.toNatClampNeg = j := by rw [hi]; exact nI_clamp (by omega)
  exact V_bast hp hs (inB_nI (by rw [hi]; exact nI_pos' (by omega)) (by rw [e]; exact hj)) (by rw [e]; exact kk)
theorem V_ls {a : Nat} (n : Nat) {i : Int32} {x : Int64} {j : Nat} (hp : prog k pc = some (.lastore, nx, aux)) (hs : shJ a n = true) (hi : i = nI j) (hj : j < n) (hn : Nat.blt n 2147483648 = true) (kk : V S dep k nx L st (wJ h a j x) Q) : V S dep k pc L (.long x :: .int i :: .ref a :: st) h Q := by
  have hn := blt_l hn
  have e : i.toNatClampNeg = j := by rw [hi]; exact nI_clamp (by omega)
  exact V_last hp hs (inB_nI (by rw [hi]; exact nI_pos' (by omega)) (by rw [e]; exact hj)) (by rw [e]; exact kk)
theorem V_iret {v : Int32} (hp : prog k pc = some (.ireturn, nx, aux)) (hr : mRet k = some .int) (hq : Q (some (.int v)) h) : V S dep k pc L [.int v] h Q := V_ireturn hp (by
  rw [hr]
  show (fits .int (.int v) && decide (narrow .int (.int v) = .int v)) = true
  rw [decide_eq_true (show narrow .int (.int v) = .int v from rfl)]; rfl) hq
theorem V_zret {v : Int32} (hp : prog k pc = some (.ireturn, nx, aux)) (hr : mRet k = some .boolean) (hv : v = 0 ∨ v = 1) (hq : Q (some (.int v)) h) : V S dep k pc L [.int v] h Q := V_ireturn hp (by
  rw [hr]
  rcases hv with rfl | rfl <;> rfl) hq
/-- a method that gives back x and changes nothing -/
def Rt (x : Int32) (h : Hp) : Option Value → Hp → Prop := fun r h' => r = some (.int x) ∧ h' = h
theorem Rt.rf {x : Int32} {h : Hp} : Rt x h (some (.int x)) h := ⟨rfl, rfl⟩
theorem Rt.of {x y : Int32} {h : Hp} (e : x = y) : Rt x h (some (.int y)) h := ⟨by rw [e], rfl⟩
theorem V_cS {i k' : Nat} {as rest : List Value} {x : Int32} (hp : prog k pc = some (.invokestatic i, nx, k')) (hk : (Nat.beq (mKind k') 0 && Nat.blt k' 900) = true) (ho : okC k' as rest = true) (hst : st = as.reverse ++ rest) (hc : Cal S dep k' as h (Rt x h)) (kk : V S (dep + 1) k nx L (.int x :: rest) h Q) : V S (dep + 1) k pc L st h Q := V_callS hp hk ho hst hc (fun r h' hq => by obtain ⟨rfl, rfl⟩ := hq; exact kk)
theorem V_cV {i k' a : Nat} {as rest : List Value} {x : Int32} (hp : prog k pc = some (.invokevirtual i, nx, k')) (hk : (Nat.beq (mKind k') 1 && !(Nat.beq (mCls k') 50)) = true) (ha : shC a (mCls k') = true) (ho : okC k' (.ref a :: as) rest = true) (hst : st = (.ref a :: as).reverse ++ rest) (hc : Cal S dep k' (.ref a :: as) h (Rt x h)) (kk : V S (dep + 1) k nx L (.int x :: rest) h Q) : V S (dep + 1) k pc L st h Q := V_callV hp hk ha ho hst hc (fun r h' hq => by obtain ⟨rfl, rfl⟩ := hq; exact kk)
theorem V_tabO {d lo hi : Int} {offs : Array Int} {x : Int32} {t : Nat} (hp : prog k pc = some (.tableswitch d lo hi offs, nx, aux)) (ho : x.toInt < lo ∨ hi < x.toInt) (ht : ((pc : Int) + d).toNat = t) (kk : V S dep k t L st h Q) : V S dep k pc L (.int x :: st) h Q := by
  refine V_step hp ?_ kk
  rw [dq_tableswitch]
  show some (Sum.inl (bif decide (x.toInt < lo) || decide (hi < x.toInt) then ((pc : Int) + d).toNat else ((pc : Int) + offs.getD (x.toInt - lo).toNat 0).toNat, L, st, Gof h)) = _
  rw [show (decide (x.toInt < lo) || decide (hi < x.toInt)) = true by simpa using ho, cond_true, ht]
theorem V_tabI {d lo hi : Int} {offs : Array Int} {x : Int32} {t : Nat} (hp : prog k pc = some (.tableswitch d lo hi offs, nx, aux)) (j : Nat) (hx : x.toInt = lo + j) (hj : (j : Int) ≤ hi - lo) (ht : ((pc : Int) + offs.getD j 0).toNat = t) (kk : V S dep k t L st h Q) : V S dep k pc L (.int x :: st) h Q := by
  refine V_step hp ?_ kk
  rw [dq_tableswitch]
  show some (Sum.inl (bif decide (x.toInt < lo) || decide (hi < x.toInt) then ((pc : Int) + d).toNat else ((pc : Int) + offs.getD (x.toInt - lo).toNat 0).toNat, L, st, Gof h)) = _
  rw [show (decide (x.toInt < lo) || decide (hi < x.toInt)) = false by
    have h1 : ¬ x.toInt < lo := by omega
    have h2 : ¬ hi < x.toInt := by omega
    simp [h1, h2], cond_false, show (x.toInt - lo).toNat = j by omega, ht]
end ROX
theorem net_b {a : Nat} (h : isNet a = true) : Nat.blt a 1020 = true := blt_t (by have := net_lt h; omega)
theorem net_b1 {a : Nat} (h : isNet a = true) : Nat.blt (a + 1) 1020 = true := blt_t (by have := net_lt h; omega)
theorem deck_b {a : Nat} (h : isDeck a = true) : Nat.blt a 1020 = true := blt_t (by have := deck_lt h; omega)
theorem deck_b1 {a : Nat} (h : isDeck a = true) : Nat.blt (a + 1) 1020 = true := blt_t (by have := deck_lt h; omega)
theorem ld_b {a : Nat} (h : isLD a = true) : Nat.blt a 1020 = true := blt_t (by have := ld_lt h; omega)
theorem ld_b1 {a : Nat} (h : isLD a = true) : Nat.blt (a + 1) 1020 = true := blt_t (by have := ld_lt h; omega)
/-! ints as naturals -/
theorem nI_toNat {x : Nat} (h : x < 2 ^ 31) : (nI x).toInt = (x : Int) := nI_toInt h
theorem nI_inj {a b : Nat} (ha : a < 2 ^ 31) (hb : b < 2 ^ 31) (h : nI a = nI b) : a = b := (nI_eq ha hb).mp h
theorem nI_bv {x : Nat} : (nI x).toBitVec = BitVec.ofNat 32 x := rfl
theorem nI_ext {x y : Int32} (h : x.toBitVec = y.toBitVec) : x = y := Int32.toBitVec_inj.mp h
theorem nI_and (a b : Nat) : nI a &&& nI b = nI (a &&& b) := by
  apply nI_ext
  show BitVec.ofNat 32 a &&& BitVec.ofNat 32 b = BitVec.ofNat 32 (a &&& b)
  apply BitVec.eq_of_toNat_eq
  simp [Nat.and_mod_two_pow]
theorem nI_or (a b : Nat) : nI a ||| nI b = nI (a ||| b) := by
  apply nI_ext
  show BitVec.ofNat 32 a ||| BitVec.ofNat 32 b = BitVec.ofNat 32 (a ||| b)
  apply BitVec.eq_of_toNat_eq
  simp [Nat.or_mod_two_pow]
theorem nI_xor (a b : Nat) : nI a ^^^ nI b = nI (a ^^^ b) := by
  apply nI_ext
  show BitVec.ofNat 32 a ^^^ BitVec.ofNat 32 b = BitVec.ofNat 32 (a ^^^ b)
  apply BitVec.eq_of_toNat_eq
  simp [Nat.xor_mod_two_pow]
theorem nI_mul (a b : Nat) : nI a * nI b = nI (a * b) := by
  apply nI_ext
  show BitVec.ofNat 32 a * BitVec.ofNat 32 b = BitVec.ofNat 32 (a * b)
  apply BitVec.eq_of_toNat_eq
  simp [Nat.mul_mod]
theorem nI_sub {a b : Nat} (h : b ≤ a) : nI a - nI b = nI (a - b) := by
  have e : nI a = nI (a - b) + nI b := by rw [nI_add, Nat.sub_add_cancel h]
  rw [e]
  apply nI_ext
  show (BitVec.ofNat 32 (a - b) + BitVec.ofNat 32 b) - BitVec.ofNat 32 b = BitVec.ofNat 32 (a - b)
  rw [BitVec.add_sub_cancel]
theorem nI_shl {a k : Nat} (hk : k < 32) : nI a <<< (nI k &&& 31) = nI (a <<< k) := by
  apply nI_ext
  rw [show (31 : Int32) = nI 31 from rfl, nI_and]
  have h1 : k &&& 31 = k := by
    rw [show (31 : Nat) = 2 ^ 5 - 1 from rfl, Nat.and_two_pow_sub_one_eq_mod]
    exact Nat.mod_eq_of_lt hk
  rw [h1]
  have h2 : (nI a <<< nI k).toBitVec = (nI a).toBitVec <<< ((nI k).toBitVec.smod 32) := rfl
  rw [h2]
  have h3 : (nI k).toBitVec.smod 32 = BitVec.ofNat 32 k := by
    rw [nI_bv]
    have : ∀ j : Fin 32, (BitVec.ofNat 32 j.val).smod 32 = BitVec.ofNat 32 j.val := by decide +kernel
    exact this ⟨k, hk⟩
  rw [h3]
  apply BitVec.eq_of_toNat_eq
  show (BitVec.ofNat 32 a <<< BitVec.ofNat 32 k).toNat = (BitVec.ofNat 32 (a <<< k)).toNat
  simp only [BitVec.shiftLeft_eq', BitVec.toNat_shiftLeft, BitVec.toNat_ofNat]
  rw [Nat.mod_eq_of_lt (show k < 2 ^ 32 by omega), Nat.shiftLeft_eq, Nat.shiftLeft_eq, Nat.mod_mul_mod]
theorem nI_shr {a k : Nat} (ha : a < 2 ^ 31) (hk : k < 32) : nI a >>> (nI k &&& 31) = nI (a >>> k) := by
  apply nI_ext
  rw [show (31 : Int32) = nI 31 from rfl, nI_and]
  have h1 : k &&& 31 = k := by
    rw [show (31 : Nat) = 2 ^ 5 - 1 from rfl, Nat.and_two_pow_sub_one_eq_mod]
    exact Nat.mod_eq_of_lt hk
  rw [h1]
  have h2 : (nI a >>> nI k).toBitVec = (nI a).toBitVec.sshiftRight' ((nI k).toBitVec.smod 32) := rfl
  rw [h2]
  have h3 : (nI k).toBitVec.smod 32 = BitVec.ofNat 32 k := by
    rw [nI_bv]
    have : ∀ j : Fin 32, (BitVec.ofNat 32 j.val).smod 32 = BitVec.ofNat 32 j.val := by decide +kernel
    exact this ⟨k, hk⟩
  rw [h3]
  apply BitVec.eq_of_toInt_eq
  show ((BitVec.ofNat 32 a).sshiftRight (BitVec.ofNat 32 k).toNat).toInt = (BitVec.ofNat 32 (a >>> k)).toInt
  rw [BitVec.toInt_sshiftRight]
  have e1 : (BitVec.ofNat 32 a).toInt = (a : Int) := nI_toInt ha
  have hle : a >>> k ≤ a := by rw [Nat.shiftRight_eq_div_pow]; exact Nat.div_le_self _ _
  have e2 : (BitVec.ofNat 32 (a >>> k)).toInt = ((a >>> k : Nat) : Int) := nI_toInt (by omega)
  rw [e1, e2, BitVec.toNat_ofNat, Nat.mod_eq_of_lt (by omega)]
  rfl
