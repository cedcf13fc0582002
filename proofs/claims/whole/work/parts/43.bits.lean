/-! bitCount of sixteen bits, byte by byte -/
def pop (m : Nat) : Nat := fb_ct (fun j => m.testBit j) 16
theorem and_split {x y M N : Nat} (hy : y < 256) (hN : N < 256) : (256 * x + y) &&& (256 * M + N) = 256 * (x &&& M) + (y &&& N) := by
  have h1 : y < 2 ^ 8 := hy
  have h2 : N < 2 ^ 8 := hN
  have h3 : y &&& N < 2 ^ 8 := Nat.lt_of_le_of_lt Nat.and_le_left h1
  apply Nat.eq_of_testBit_eq
  intro i
  rw [Nat.testBit_and, show 256 = 2 ^ 8 from rfl, Nat.testBit_two_pow_mul_add _ h1, Nat.testBit_two_pow_mul_add _ h2, Nat.testBit_two_pow_mul_add _ h3]
  split
  · rw [Nat.testBit_and]
  · rw [Nat.testBit_and]
def bc1 (m : Nat) : Nat := m - (m / 2 &&& 85)
def bc2 (n : Nat) : Nat := (n &&& 51) + (n / 4 &&& 51)
def bc3 (n : Nat) : Nat := (n + n / 16) &&& 15
theorem bc_byte : ∀ b : Fin 256, bc1 b.val ≤ 170 ∧ bc2 (bc1 b.val) ≤ 68 ∧ bc2 (bc1 b.val) % 16 ≤ 4 ∧ bc3 (bc2 (bc1 b.val)) = pop b.val ∧ pop b.val ≤ 8 := by decide +kernel
theorem bc_m1 : ∀ (a : Fin 2) (b : Fin 256), (128 * a.val + b.val / 2) &&& 85 = b.val / 2 &&& 85 := by decide +kernel
theorem bc_m2 : ∀ (a : Fin 4) (b : Fin 256), (64 * a.val + b.val / 4) &&& 51 = b.val / 4 &&& 51 := by decide +kernel
theorem bc_m3 : ∀ (a : Fin 5) (y : Fin 69), (16 * a.val + (y.val + y.val / 16)) &&& 15 = (y.val + y.val / 16) &&& 15 := by decide +kernel
