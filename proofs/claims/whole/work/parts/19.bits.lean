/-! Integer.bitCount -/
theorem and_split (x m M : Nat) (hm : m < 256) : x &&& (m + 256 * M) = (x % 256 &&& m) + 256 * (x / 256 &&& M) := by
  apply Nat.eq_of_testBit_eq
  intro j
  have e1 : m + 256 * M = 2 ^ 8 * M + m := by omega
  have hl : (x % 256 &&& m) < 2 ^ 8 := Nat.lt_of_le_of_lt Nat.and_le_right hm
  have e2 : (x % 256 &&& m) + 256 * (x / 256 &&& M) = 2 ^ 8 * (x / 256 &&& M) + (x % 256 &&& m) := by omega
  rw [e1, e2, Nat.testBit_and, Nat.testBit_two_pow_mul_add _ hm, Nat.testBit_two_pow_mul_add _ hl]
  by_cases hj : j < 8
  · rw [if_pos hj, if_pos hj, Nat.testBit_and, show (256 : Nat) = 2 ^ 8 from rfl, Nat.testBit_mod_two_pow]
    simp [hj]
  · rw [if_neg hj, if_neg hj, Nat.testBit_and, show (256 : Nat) = 2 ^ 8 from rfl, Nat.testBit_div_two_pow, show j - 8 + 8 = j by omega]
def sw1 (M x : Nat) : Nat := x - (x >>> 1 &&& M)
def sw2 (M x : Nat) : Nat := (x &&& M) + (x >>> 2 &&& M)
def sw3 (M x : Nat) : Nat := (x + x >>> 4) &&& M
def sw4 (x : Nat) : Nat := x + x >>> 8
def sw5 (x : Nat) : Nat := x + x >>> 16
theorem sw1_le (M x : Nat) : (x >>> 1 &&& M) ≤ x := Nat.le_trans Nat.and_le_left (by rw [Nat.shiftRight_eq_div_pow]; exact Nat.div_le_self _ _)
theorem sw1_s {a y M : Nat} (ha : a < 256) : sw1 (0x55 + 256 * M) (a + 256 * y) = sw1 0x55 a + 256 * sw1 M y := by
  unfold sw1
  have h1 := sw1_le 0x55 a
  have h2 := sw1_le M y
  simp only [Nat.shiftRight_eq_div_pow, Nat.pow_one] at *
  rw [and_split _ _ _ (by decide), show (a + 256 * y) / 2 / 256 = y / 2 by omega, show (a + 256 * y) / 2 % 256 = a / 2 + 128 * (y % 2) by omega]
  have f : ∀ a, a < 256 → ∀ t, t < 2 → (a / 2 + 128 * t) &&& 0x55 = a / 2 &&& 0x55 := by decide +kernel
  rw [f a ha _ (Nat.mod_lt _ (by decide))]
  omega
theorem sw2_s {a y M : Nat} (ha : a < 256) : sw2 (0x33 + 256 * M) (a + 256 * y) = sw2 0x33 a + 256 * sw2 M y := by
  unfold sw2
  simp only [Nat.shiftRight_eq_div_pow]
  rw [and_split _ _ _ (by decide), and_split _ _ _ (by decide), show (a + 256 * y) / 2 ^ 2 / 256 = y / 2 ^ 2 by omega, show (a + 256 * y) / 2 ^ 2 % 256 = a / 4 + 64 * (y % 4) by omega, show (a + 256 * y) % 256 = a by omega, show (a + 256 * y) / 256 = y by omega]
  have f : ∀ a, a < 256 → ∀ t, t < 4 → (a / 4 + 64 * t) &&& 0x33 = a / 2 ^ 2 &&& 0x33 := by decide +kernel
  rw [f a ha _ (Nat.mod_lt _ (by decide))]
  omega
theorem sw3_s {a y M : Nat} (ha : a < 69) (hy : y % 16 < 5) : sw3 (0xf + 256 * M) (a + 256 * y) = sw3 0xf a + 256 * sw3 M y := by
  unfold sw3
  simp only [Nat.shiftRight_eq_div_pow]
  rw [and_split _ _ _ (by decide), show (a + 256 * y + (a + 256 * y) / 2 ^ 4) / 256 = y + y / 2 ^ 4 by omega, show (a + 256 * y + (a + 256 * y) / 2 ^ 4) % 256 = a + a / 16 + 16 * (y % 16) by omega]
  have f : ∀ a, a < 69 → ∀ t, t < 5 → (a + a / 16 + 16 * t) &&& 0xf = (a + a / 2 ^ 4) &&& 0xf := by decide +kernel
  rw [f a ha _ hy]
def swar (x : Nat) : Nat := sw5 (sw4 (sw3 0x0f0f0f0f (sw2 0x33333333 (sw1 0x55555555 x)))) &&& 63
theorem sw_byte : ∀ a, a < 256 → sw1 0x55 a < 256 ∧ sw2 0x33 (sw1 0x55 a) < 69 ∧ sw2 0x33 (sw1 0x55 a) % 16 < 5 ∧ sw3 0xf (sw2 0x33 (sw1 0x55 a)) = cnt a.testBit 8 := by decide +kernel
theorem swar_pop {x : Nat} (hx : x < 2 ^ 24) : swar x = pop x := by
  obtain ⟨a, y, ha, hxe⟩ : ∃ a y, a < 256 ∧ x = a + 256 * y := ⟨x % 256, x / 256, by omega, by omega⟩
  obtain ⟨b, c, hb, hye⟩ : ∃ b c, b < 256 ∧ y = b + 256 * c := ⟨y % 256, y / 256, by omega, by omega⟩
  have hc : c < 256 := by omega
  subst hye
  subst hxe
  obtain ⟨a1, a2, a3, a4⟩ := sw_byte a ha
  obtain ⟨b1, b2, b3, b4⟩ := sw_byte b hb
  obtain ⟨c1, c2, c3, c4⟩ := sw_byte c hc
  have p1 : pop (a + 256 * (b + 256 * c)) = cnt a.testBit 8 + (cnt b.testBit 8 + cnt c.testBit 8) := by
    unfold pop
    rw [show (24 : Nat) = 8 + (8 + 8) from rfl, cnt_add, cnt_add]
    congr 1
    · apply cnt_ext
      intro i hi
      rw [show a + 256 * (b + 256 * c) = 2 ^ 8 * (b + 256 * c) + a by omega, Nat.testBit_two_pow_mul_add _ ha, if_pos hi]
    · congr 1
      · apply cnt_ext
        intro i hi
        rw [show a + 256 * (b + 256 * c) = 2 ^ 8 * (b + 256 * c) + a by omega, Nat.testBit_two_pow_mul_add _ ha, if_neg (by omega), show 8 + i - 8 = i by omega, show b + 256 * c = 2 ^ 8 * c + b by omega, Nat.testBit_two_pow_mul_add _ hb, if_pos hi]
      · apply cnt_ext
        intro i hi
        rw [show a + 256 * (b + 256 * c) = 2 ^ 8 * (b + 256 * c) + a by omega, Nat.testBit_two_pow_mul_add _ ha, if_neg (by omega), show 8 + (8 + i) - 8 = 8 + i by omega, show b + 256 * c = 2 ^ 8 * c + b by omega, Nat.testBit_two_pow_mul_add _ hb, if_neg (by omega), show 8 + i - 8 = i by omega]
  rw [p1, ← a4, ← b4, ← c4]
  have l1 := cnt_le a.testBit 8
  have l2 := cnt_le b.testBit 8
  have l3 := cnt_le c.testBit 8
  rw [← a4] at l1
  rw [← b4] at l2
  rw [← c4] at l3
  unfold swar
  have z1 : ∀ M, sw1 M 0 = 0 := fun M => by simp [sw1]
  have z2 : ∀ M, sw2 M 0 = 0 := fun M => by simp [sw2]
  have z3 : ∀ M, sw3 M 0 = 0 := fun M => by simp [sw3]
  rw [show (0x55555555 : Nat) = 0x55 + 256 * (0x55 + 256 * (0x55 + 256 * 0x55)) from rfl, sw1_s ha, sw1_s hb, show c = c + 256 * 0 from rfl, sw1_s hc, z1]
  rw [show (0x33333333 : Nat) = 0x33 + 256 * (0x33 + 256 * (0x33 + 256 * 0x33)) from rfl, sw2_s a1, sw2_s b1, sw2_s c1, z2]
  rw [show (0x0f0f0f0f : Nat) = 0xf + 256 * (0xf + 256 * (0xf + 256 * 0xf)) from rfl, sw3_s a2 (by omega), sw3_s b2 (by omega), sw3_s c2 (by omega), z3]
  generalize sw3 15 (sw2 51 (sw1 85 a)) = X at *
  generalize sw3 15 (sw2 51 (sw1 85 b)) = Y at *
  generalize sw3 15 (sw2 51 (sw1 85 c)) = Z at *
  unfold sw5 sw4
  simp only [Nat.shiftRight_eq_div_pow]
  rw [show (63 : Nat) = 2 ^ 6 - 1 from rfl, Nat.and_two_pow_sub_one_eq_mod]
  rw [show (X + 256 * (Y + 256 * (Z + 256 * 0))) / 2 ^ 8 = Y + 256 * Z by omega]
  rw [show (X + 256 * (Y + 256 * (Z + 256 * 0)) + (Y + 256 * Z)) / 2 ^ 16 = Z by omega]
  omega
theorem nI_ushr {a k : Nat} (ha : a < 2 ^ 31) (hk : k < 32) : ((nI a).toUInt32 >>> ((nI k).toUInt32 &&& Int32.toUInt32 31)).toInt32 = nI (a >>> k) := by
  apply nI_ext
  show (BitVec.ofNat 32 a >>> ((BitVec.ofNat 32 k &&& 31) % 32)) = BitVec.ofNat 32 (a >>> k)
  have h3 : (BitVec.ofNat 32 k &&& 31) % 32 = BitVec.ofNat 32 k := by
    have : ∀ j : Fin 32, (BitVec.ofNat 32 j.val &&& 31) % 32 = BitVec.ofNat 32 j.val := by decide +kernel
    exact this ⟨k, hk⟩
  rw [h3]
  apply BitVec.eq_of_toNat_eq
  have hle : a >>> k ≤ a := by rw [Nat.shiftRight_eq_div_pow]; exact Nat.div_le_self _ _
  simp only [BitVec.ushiftRight_eq', BitVec.toNat_ushiftRight, BitVec.toNat_ofNat]
  rw [Nat.mod_eq_of_lt (show k < 2 ^ 32 by omega), Nat.mod_eq_of_lt (show a < 2 ^ 32 by omega), Nat.mod_eq_of_lt (by omega)]
theorem c_bc {S : mScr} {dep x : Nat} {h : Hp} (hx : x < 2 ^ 24) : Cal S dep 255 [.int (nI x)] h (Rt (nI (pop x)) h) := by
  rw [← swar_pop hx]
  have b1 : sw1 0x55555555 x < 2 ^ 24 := Nat.lt_of_le_of_lt (Nat.sub_le _ _) hx
  have b2 : sw2 0x33333333 (sw1 0x55555555 x) < 2 ^ 30 := by
    unfold sw2
    have q1 : sw1 0x55555555 x &&& 0x33333333 ≤ sw1 0x55555555 x := Nat.and_le_left
    have q2 : sw1 0x55555555 x >>> 2 &&& 0x33333333 ≤ sw1 0x55555555 x >>> 2 := Nat.and_le_left
    have q3 : sw1 0x55555555 x >>> 2 ≤ sw1 0x55555555 x := by rw [Nat.shiftRight_eq_div_pow]; exact Nat.div_le_self _ _
    omega
  have b3 : sw3 0x0f0f0f0f (sw2 0x33333333 (sw1 0x55555555 x)) < 2 ^ 28 := Nat.lt_of_le_of_lt Nat.and_le_right (by decide)
  have b4 : sw4 (sw3 0x0f0f0f0f (sw2 0x33333333 (sw1 0x55555555 x))) < 2 ^ 30 := by
    unfold sw4
    have q3 : sw3 0x0f0f0f0f (sw2 0x33333333 (sw1 0x55555555 x)) >>> 8 ≤ sw3 0x0f0f0f0f (sw2 0x33333333 (sw1 0x55555555 x)) := by rw [Nat.shiftRight_eq_div_pow]; exact Nat.div_le_self _ _
    omega
  show V S dep 255 0 [.int (nI x)] [] h _
  refine V_iload_n rfl rfl ?_
  refine V_iload_n rfl rfl ?_
  refine V_ic (v := nI 1) rfl rfl ?_
  refine V_iushr rfl ?_
  refine V_lw (v := nI 1431655765) rfl rfl ?_
  refine V_iand rfl ?_
  refine V_isub rfl ?_
  -- at 9: .istore_n 0
  rw [nI_ushr (by omega) (by decide), nI_and, nI_sub (sw1_le _ _)]
  show V S dep 255 9 _ [.int (nI (sw1 0x55555555 x))] h _
  refine V_istore_n (L' := [_]) rfl rfl rfl ?_
  refine V_iload_n rfl rfl ?_
  refine V_lw (v := nI 858993459) rfl rfl ?_
  refine V_iand rfl ?_
  refine V_iload_n rfl rfl ?_
  refine V_ic (v := nI 2) rfl rfl ?_
  refine V_iushr rfl ?_
  refine V_lw (v := nI 858993459) rfl rfl ?_
  refine V_iand rfl ?_
  refine V_iadd rfl ?_
  -- at 23: .istore_n 0
  rw [nI_ushr (by omega) (by decide), nI_and, nI_and, nI_add]
  show V S dep 255 23 _ [.int (nI (sw2 0x33333333 (sw1 0x55555555 x)))] h _
  refine V_istore_n (L' := [_]) rfl rfl rfl ?_
  refine V_iload_n rfl rfl ?_
  refine V_iload_n rfl rfl ?_
  refine V_ic (v := nI 4) rfl rfl ?_
  refine V_iushr rfl ?_
  refine V_iadd rfl ?_
  refine V_lw (v := nI 252645135) rfl rfl ?_
  refine V_iand rfl ?_
  -- at 33: .istore_n 0
  rw [nI_ushr (by omega) (by decide), nI_add, nI_and]
  show V S dep 255 33 _ [.int (nI (sw3 0x0f0f0f0f (sw2 0x33333333 (sw1 0x55555555 x))))] h _
  refine V_istore_n (L' := [_]) rfl rfl rfl ?_
  refine V_iload_n rfl rfl ?_
  refine V_iload_n rfl rfl ?_
  refine V_bi (v := nI 8) rfl rfl ?_
  refine V_iushr rfl ?_
  refine V_iadd rfl ?_
  -- at 40: .istore_n 0
  rw [nI_ushr (by omega) (by decide), nI_add]
  show V S dep 255 40 _ [.int (nI (sw4 (sw3 0x0f0f0f0f (sw2 0x33333333 (sw1 0x55555555 x)))))] h _
  refine V_istore_n (L' := [_]) rfl rfl rfl ?_
  refine V_iload_n rfl rfl ?_
  refine V_iload_n rfl rfl ?_
  refine V_bi (v := nI 16) rfl rfl ?_
  refine V_iushr rfl ?_
  refine V_iadd rfl ?_
  -- at 47: .istore_n 0
  rw [nI_ushr (by omega) (by decide), nI_add]
  show V S dep 255 47 _ [.int (nI (sw5 (sw4 (sw3 0x0f0f0f0f (sw2 0x33333333 (sw1 0x55555555 x))))))] h _
  refine V_istore_n (L' := [_]) rfl rfl rfl ?_
  refine V_iload_n rfl rfl ?_
  refine V_bi (v := nI 63) rfl rfl ?_
  refine V_iand rfl ?_
  -- at 52: .ireturn
  refine V_iret rfl rfl ?_
  rw [nI_and]
  exact Rt.rf
