/-! feed -/
theorem low8 (v : BitVec 64) (k : Nat) (hk : k ≤ 56) : BitVec.signExtend 8 (BitVec.signExtend 32 (v >>> k)) = BitVec.signExtend 8 (BitVec.signExtend 32 (v.sshiftRight k)) := by
  apply BitVec.eq_of_getLsbD_eq
  intro i hi
  have h1 : i < 32 := by omega
  have h2 : k + i < 64 := by omega
  have h3 : i < 64 := by omega
  simp only [BitVec.getLsbD_signExtend, BitVec.getLsbD_ushiftRight, BitVec.getLsbD_sshiftRight]
  simp [hi, h1, h2, h3]
/-- the byte of a long at shift k, read by both -/
theorem byte_eq (v : Int64) (k : Nat) (hk : k ≤ 56) (a : UInt64) (b : Int64) (ha : (a.toBitVec % 64#64).toNat = k) (hb : (b.toBitVec.smod 64#64).toNat = k) : ((v.toUInt64 >>> a).toInt64.toInt32).toInt8 = ((v >>> b).toInt32).toInt8 := by
  apply Int8.toBitVec_inj.mp
  have e1 : ((v.toUInt64 >>> a).toInt64.toInt32).toInt8.toBitVec = BitVec.signExtend 8 (BitVec.signExtend 32 (v.toBitVec >>> (a.toBitVec % 64#64).toNat)) := by
    rw [Int32.toBitVec_toInt8, Int64.toBitVec_toInt32, UInt64.toBitVec_toInt64, UInt64.toBitVec_shiftRight]
    rfl
  have e2 : ((v >>> b).toInt32).toInt8.toBitVec = BitVec.signExtend 8 (BitVec.signExtend 32 (v.toBitVec.sshiftRight (b.toBitVec.smod 64#64).toNat)) := by
    rw [Int32.toBitVec_toInt8, Int64.toBitVec_toInt32, Int64.toBitVec_shiftRight]
    rfl
  rw [e1, e2, ha, hb]
  exact low8 _ _ hk
def bsh (i : Nat) : Nat := 8 * (7 - i)
/-- the i-th byte, the highest first -/
def byt8 (v : Int64) (i : Nat) : Nat := ((v >>> Int64.ofNat (bsh i)).toInt32).toBitVec.toNat % 256
theorem byt8_lt (v : Int64) (i : Nat) : byt8 v i < 256 := Nat.mod_lt _ (by decide)
theorem y_bt (v : Int64) {i : Nat} (hi : i < 8) : ((v >>> ((nI (bsh i)).toInt64 &&& 63)).toInt32 &&& (255 : Int32)) = nI (byt8 v i) := by
  have e : (nI (bsh i)).toInt64 &&& 63 = Int64.ofNat (bsh i) := by
    have : i = 0 ∨ i = 1 ∨ i = 2 ∨ i = 3 ∨ i = 4 ∨ i = 5 ∨ i = 6 ∨ i = 7 := by omega
    rcases this with rfl | rfl | rfl | rfl | rfl | rfl | rfl | rfl <;> decide
  rw [e]
  exact pk_and _ 8 (by decide)
theorem x_bt (v : Int64) {i : Nat} (hi : i < 8) : vp_nar .byte (((v.toUInt64 >>> (((8 : Int32) * ((7 : Int32) - nI i)).toInt64.toUInt64 &&& Int64.toUInt64 63)).toInt64.toInt32).toInt8.toInt32) = (nI (byt8 v i)).toInt8.toInt32 := by
  rw [pk_vb, ← y_bt v hi, fa_byte_low]
  congr 1
  have : i = 0 ∨ i = 1 ∨ i = 2 ∨ i = 3 ∨ i = 4 ∨ i = 5 ∨ i = 6 ∨ i = 7 := by omega
  rcases this with rfl | rfl | rfl | rfl | rfl | rfl | rfl | rfl 
  · exact byte_eq v 56 (by decide) _ _ (by decide) (by decide)
  · exact byte_eq v 48 (by decide) _ _ (by decide) (by decide)
  · exact byte_eq v 40 (by decide) _ _ (by decide) (by decide)
  · exact byte_eq v 32 (by decide) _ _ (by decide) (by decide)
  · exact byte_eq v 24 (by decide) _ _ (by decide) (by decide)
  · exact byte_eq v 16 (by decide) _ _ (by decide) (by decide)
  · exact byte_eq v 8 (by decide) _ _ (by decide) (by decide)
  · exact byte_eq v 0 (by decide) _ _ (by decide) (by decide)
