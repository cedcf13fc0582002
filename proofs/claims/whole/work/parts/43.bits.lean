/-! bitCount of sixteen bits, byte by byte -/
def pop (m : Nat) : Nat := fb_ct (fun j => m.testBit j) 16
theorem and_split {x y M N : Nat} (hy : y < 256) (hN : N < 256) : (256 * x + y) &&& (256 * M + N) = 256 * (x &&& M) + (y &&& N) := by
  have h1 : y < 2 ^ 8 := hy
  have h2 : N < 2 ^ 8 := hN
  have h3 : y &&& N < 2 ^ 8 := Nat.lt_of_le_of_lt Nat.and_le_left h1
  apply Nat.eq_of_testBit_eq
  intro i
  rw [Nat.testBit_and, show 256 = 2 ^ 8 from rfl, Nat.testBit_two_pow_mul_add _ h1, Nat.testBit_two_pow_mul_add _ h2, Nat.testBit_two_pow_mul_add _ h3]
  split
  · rw [Nat.testBit_and]
  · rw [Nat.testBit_and]
def bc1 (m : Nat) : Nat := m - (m / 2 &&& 85)
def bc2 (n : Nat) : Nat := (n &&& 51) + (n / 4 &&& 51)
def bc3 (n : Nat) : Nat := (n + n / 16) &&& 15
theorem bc_byte : ∀ b : Fin 256, bc1 b.val ≤ 170 ∧ bc2 (bc1 b.val) ≤ 68 ∧ bc2 (bc1 b.val) % 16 ≤ 4 ∧ bc3 (bc2 (bc1 b.val)) = pop b.val ∧ pop b.val ≤ 8 := by decide +kernel
theorem bc_m1 : ∀ (a : Fin 2) (b : Fin 256), (128 * a.val + b.val / 2) &&& 85 = b.val / 2 &&& 85 := by decide +kernel
theorem bc_m2 : ∀ (a : Fin 4) (b : Fin 256), (64 * a.val + b.val / 4) &&& 51 = b.val / 4 &&& 51 := by decide +kernel
theorem bc_m3 : ∀ (a : Fin 5) (y : Fin 69), (16 * a.val + (y.val + y.val / 16)) &&& 15 = (y.val + y.val / 16) &&& 15 := by decide +kernel
theorem and_low {x M N : Nat} (hx : x < 256) (hN : N < 256) : x &&& (256 * M + N) = x &&& N := by
  have := and_split (x := 0) (y := x) (M := M) (N := N) hx hN
  rw [Nat.mul_zero, Nat.zero_add, Nat.zero_and, Nat.mul_zero, Nat.zero_add] at this
  exact this
theorem s1 {a b : Nat} (ha : a < 256) (hb : b < 256) : (256 * a + b) - ((256 * a + b) / 2 &&& 1431655765) = 256 * bc1 a + bc1 b := by
  have e : (256 * a + b) / 2 &&& 1431655765 = 256 * (a / 2 &&& 85) + (b / 2 &&& 85) := by
    rw [show (256 * a + b) / 2 = 256 * (a / 2) + (128 * (a % 2) + b / 2) by omega, show 1431655765 = 256 * 5592405 + 85 from rfl, and_split (by omega) (by decide), show 5592405 = 256 * 21845 + 85 from rfl, and_low (by omega) (by decide), bc_m1 ⟨a % 2, by omega⟩ ⟨b, hb⟩]
  have h1 : a / 2 &&& 85 ≤ a / 2 := Nat.and_le_left
  have h2 : b / 2 &&& 85 ≤ b / 2 := Nat.and_le_left
  rw [e]
  unfold bc1
  omega
theorem s2 {x y : Nat} (hx : x < 256) (hy : y < 256) : ((256 * x + y) &&& 858993459) + ((256 * x + y) / 4 &&& 858993459) = 256 * bc2 x + bc2 y := by
  rw [show (256 * x + y) / 4 = 256 * (x / 4) + (64 * (x % 4) + y / 4) by omega, show 858993459 = 256 * 3355443 + 51 from rfl, and_split hy (by decide), and_split (by omega) (by decide), show 3355443 = 256 * 13107 + 51 from rfl, and_low hx (by decide), and_low (by omega) (by decide), bc_m2 ⟨x % 4, by omega⟩ ⟨y, hy⟩]
  unfold bc2
  dsimp only
  omega
theorem s3 {x y : Nat} (hx : x ≤ 68) (hx4 : x % 16 ≤ 4) (hy : y ≤ 68) : ((256 * x + y) + (256 * x + y) / 16) &&& 252645135 = 256 * bc3 x + bc3 y := by
  rw [show (256 * x + y) + (256 * x + y) / 16 = 256 * (x + x / 16) + (16 * (x % 16) + (y + y / 16)) by omega, show 252645135 = 256 * 986895 + 15 from rfl, and_split (by omega) (by decide), show 986895 = 256 * 3855 + 15 from rfl, and_low (by omega) (by decide), bc_m3 ⟨x % 16, by omega⟩ ⟨y, by omega⟩]
  rfl
theorem s4 {X Y : Nat} (hX : X ≤ 8) (hY : Y ≤ 8) : (((256 * X + Y) + (256 * X + Y) / 256) + ((256 * X + Y) + (256 * X + Y) / 256) / 65536) &&& 63 = X + Y := by
  rw [show ((256 * X + Y) + (256 * X + Y) / 256) + ((256 * X + Y) + (256 * X + Y) / 256) / 65536 = 256 * X + (X + Y) by omega, show 63 = 256 * 0 + 63 from rfl, and_split (by omega) (by decide), Nat.and_zero, Nat.mul_zero, Nat.zero_add]
  have : ∀ k : Fin 17, k.val &&& 63 = k.val := by decide
  exact this ⟨X + Y, by omega⟩
theorem pop_byte {b : Nat} (hb : b < 256) : pop b = fb_ct (fun j => b.testBit j) 8 := by
  unfold pop
  rw [show 16 = 8 + 8 from rfl, fb_ct_split]
  have : fb_ct (fun k => b.testBit (8 + k)) 8 = 0 := fb_ct_zero.mpr (fun k _ => Nat.testBit_lt_two_pow (Nat.lt_of_lt_of_le hb (show 2 ^ 8 ≤ 2 ^ (8 + k) from Nat.pow_le_pow_right (by decide) (by omega))))
  rw [this]; rfl
theorem pop_two {a b : Nat} (ha : a < 256) (hb : b < 256) : pop (256 * a + b) = pop a + pop b := by
  rw [pop_byte ha, pop_byte hb]
  unfold pop
  rw [show 16 = 8 + 8 from rfl, fb_ct_split, Nat.add_comm]
  have hb8 : b < 2 ^ 8 := hb
  congr 1
  · refine fb_ct_cong (fun k hk => ?_)
    rw [show 256 = 2 ^ 8 from rfl, Nat.testBit_two_pow_mul_add _ hb8, if_neg (by omega), show 8 + k - 8 = k by omega]
  · refine fb_ct_cong (fun k hk => ?_)
    rw [show 256 = 2 ^ 8 from rfl, Nat.testBit_two_pow_mul_add _ hb8, if_pos hk]
theorem us {n : Nat} (hn : n < 4294967296) (c : Int32) (k d : Nat) (hs : ((c.toUInt32 &&& Int32.toUInt32 31).toBitVec % 32).toNat = k) (hd : 2 ^ k = d) : ((nI n).toUInt32 >>> (c.toUInt32 &&& Int32.toUInt32 31)).toInt32 = nI (n / d) := hd ▸ pk_ushrN hn c k hs
theorem e_bits {m : Nat} (h : m < 65536) {s : St} {Q : Int32 → St → Prop} : wJ6_bitCount_0f7a4 (nI m) s Q = Q (nI (pop m)) s := by
  obtain ⟨a, b, ha, hb, rfl⟩ : ∃ a b, a < 256 ∧ b < 256 ∧ m = 256 * a + b := ⟨m / 256, m % 256, by omega, by omega, by omega⟩
  obtain ⟨a1, a2, a3, a4, a5⟩ := bc_byte ⟨a, ha⟩
  obtain ⟨b1, b2, b3, b4, b5⟩ := bc_byte ⟨b, hb⟩
  dsimp only at a1 a2 a3 a4 a5 b1 b2 b3 b4 b5
  have L1 : (256 * a + b) / 2 &&& 1431655765 ≤ (256 * a + b) / 2 := Nat.and_le_left
  have e1 : nI (256 * a + b) - (((nI (256 * a + b)).toUInt32 >>> ((1 : Int32).toUInt32 &&& Int32.toUInt32 31)).toInt32 &&& (1431655765 : Int32)) = nI (256 * bc1 a + bc1 b) := by
    rw [us (by omega) 1 1 2 (by decide) rfl, show (1431655765 : Int32) = nI 1431655765 from rfl, fa_and, pk_sub (by omega), s1 ha hb]
  have e2 : (nI (256 * bc1 a + bc1 b) &&& (858993459 : Int32)) + (((nI (256 * bc1 a + bc1 b)).toUInt32 >>> ((2 : Int32).toUInt32 &&& Int32.toUInt32 31)).toInt32 &&& (858993459 : Int32)) = nI (256 * bc2 (bc1 a) + bc2 (bc1 b)) := by
    rw [us (by omega) 2 2 4 (by decide) rfl, show (858993459 : Int32) = nI 858993459 from rfl, fa_and, fa_and, nI_add, s2 (by omega) (by omega)]
  have e3 : (nI (256 * bc2 (bc1 a) + bc2 (bc1 b)) + ((nI (256 * bc2 (bc1 a) + bc2 (bc1 b))).toUInt32 >>> ((4 : Int32).toUInt32 &&& Int32.toUInt32 31)).toInt32) &&& (252645135 : Int32) = nI (256 * pop a + pop b) := by
    rw [us (by omega) 4 4 16 (by decide) rfl, nI_add, show (252645135 : Int32) = nI 252645135 from rfl, fa_and, s3 (by omega) a3 (by omega), a4, b4]
  have e4 : nI (256 * pop a + pop b) + ((nI (256 * pop a + pop b)).toUInt32 >>> ((8 : Int32).toUInt32 &&& Int32.toUInt32 31)).toInt32 = nI ((256 * pop a + pop b) + (256 * pop a + pop b) / 256) := by
    rw [us (by omega) 8 8 256 (by decide) rfl, nI_add]
  have e5 : (nI ((256 * pop a + pop b) + (256 * pop a + pop b) / 256) + ((nI ((256 * pop a + pop b) + (256 * pop a + pop b) / 256)).toUInt32 >>> ((16 : Int32).toUInt32 &&& Int32.toUInt32 31)).toInt32) &&& (63 : Int32) = nI (pop (256 * a + b)) := by
    rw [us (by omega) 16 16 65536 (by decide) rfl, nI_add, show (63 : Int32) = nI 63 from rfl, fa_and, s4 a5 b5, pop_two ha hb]
  unfold wJ6_bitCount_0f7a4
  simp only [e1, e2, e3, e4, e5]
