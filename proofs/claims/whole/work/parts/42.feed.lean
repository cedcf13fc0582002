/-! feed -/
theorem low8 (v : BitVec 64) (k : Nat) (hk : k ≤ 56) : BitVec.signExtend 8 (BitVec.signExtend 32 (v >>> k)) = BitVec.signExtend 8 (BitVec.signExtend 32 (v.sshiftRight k)) := by
  apply BitVec.eq_of_getLsbD_eq
  intro i hi
  have h1 : i < 32 := by omega
  have h2 : k + i < 64 := by omega
  have h3 : i < 64 := by omega
  simp only [BitVec.getLsbD_signExtend, BitVec.getLsbD_ushiftRight, BitVec.getLsbD_sshiftRight]
  simp [hi, h1, h2, h3]
/-- the byte of a long at shift k, read by both -/
theorem byte_eq (v : Int64) (k : Nat) (hk : k ≤ 56) (a : UInt64) (b : Int64) (ha : (a.toBitVec % 64#64).toNat = k) (hb : (b.toBitVec.smod 64#64).toNat = k) : ((v.toUInt64 >>> a).toInt64.toInt32).toInt8 = ((v >>> b).toInt32).toInt8 := by
  apply Int8.toBitVec_inj.mp
  have e1 : ((v.toUInt64 >>> a).toInt64.toInt32).toInt8.toBitVec = BitVec.signExtend 8 (BitVec.signExtend 32 (v.toBitVec >>> (a.toBitVec % 64#64).toNat)) := by
    rw [Int32.toBitVec_toInt8, Int64.toBitVec_toInt32, UInt64.toBitVec_toInt64, UInt64.toBitVec_shiftRight]
    rfl
  have e2 : ((v >>> b).toInt32).toInt8.toBitVec = BitVec.signExtend 8 (BitVec.signExtend 32 (v.toBitVec.sshiftRight (b.toBitVec.smod 64#64).toNat)) := by
    rw [Int32.toBitVec_toInt8, Int64.toBitVec_toInt32, Int64.toBitVec_shiftRight]
    rfl
  rw [e1, e2, ha, hb]
  exact low8 _ _ hk
def bsh (i : Nat) : Nat := 8 * (7 - i)
/-- the i-th byte, the highest first -/
def byt8 (v : Int64) (i : Nat) : Nat := ((v >>> Int64.ofNat (bsh i)).toInt32).toBitVec.toNat % 256
theorem byt8_lt (v : Int64) (i : Nat) : byt8 v i < 256 := Nat.mod_lt _ (by decide)
theorem y_bt (v : Int64) {i : Nat} (hi : i < 8) : ((v >>> ((nI (bsh i)).toInt64 &&& 63)).toInt32 &&& (255 : Int32)) = nI (byt8 v i) := by
  have e : (nI (bsh i)).toInt64 &&& 63 = Int64.ofNat (bsh i) := by
    have : i = 0 ∨ i = 1 ∨ i = 2 ∨ i = 3 ∨ i = 4 ∨ i = 5 ∨ i = 6 ∨ i = 7 := by omega
    rcases this with rfl | rfl | rfl | rfl | rfl | rfl | rfl | rfl <;> decide
  rw [e]
  exact pk_and _ 8 (by decide)
theorem x_bt (v : Int64) {i : Nat} (hi : i < 8) : vp_nar .byte (((v.toUInt64 >>> (((8 : Int32) * ((7 : Int32) - nI i)).toInt64.toUInt64 &&& Int64.toUInt64 63)).toInt64.toInt32).toInt8.toInt32) = (nI (byt8 v i)).toInt8.toInt32 := by
  rw [pk_vb, ← y_bt v hi, fa_byte_low]
  congr 1
  have : i = 0 ∨ i = 1 ∨ i = 2 ∨ i = 3 ∨ i = 4 ∨ i = 5 ∨ i = 6 ∨ i = 7 := by omega
  rcases this with rfl | rfl | rfl | rfl | rfl | rfl | rfl | rfl 
  · exact byte_eq v 56 (by decide) _ _ (by decide) (by decide)
  · exact byte_eq v 48 (by decide) _ _ (by decide) (by decide)
  · exact byte_eq v 40 (by decide) _ _ (by decide) (by decide)
  · exact byte_eq v 32 (by decide) _ _ (by decide) (by decide)
  · exact byte_eq v 24 (by decide) _ _ (by decide) (by decide)
  · exact byte_eq v 16 (by decide) _ _ (by decide) (by decide)
  · exact byte_eq v 8 (by decide) _ _ (by decide) (by decide)
  · exact byte_eq v 0 (by decide) _ _ (by decide) (by decide)
def fx (f : Nat → Int32) (t i : Nat) (g : Nat → Int32) : Nat → Int32 := fun x => if t + i ≤ x ∧ x < t + 8 then g (x - t) else f x
theorem fx_8 {f : Nat → Int32} {t : Nat} {g : Nat → Int32} : fx f t 8 g = f := by funext x; unfold fx; rw [if_neg (by omega)]
theorem fx_s {f : Nat → Int32} {t i : Nat} {g : Nat → Int32} (h : i < 8) : fx (upd f (t + i) (g i)) t (i + 1) g = fx f t i g := by
  funext x
  unfold fx upd
  by_cases h1 : t + (i + 1) ≤ x ∧ x < t + 8
  · try dsimp only
    rw [if_pos h1, if_pos (by omega)]
  · try dsimp only
    rw [if_neg h1]
    by_cases h2 : x = t + i
    · try dsimp only
      rw [if_pos h2, if_pos (by omega), show x - t = i by omega]
    · try dsimp only
      rw [if_neg h2, if_neg (by omega)]
theorem st_FAF {s : St} {k j : Nat} {i v a b : Int32} {f : Nat → Int32} : stF (stC (stF (stA s k i v) j a) k f) j b = stF (stC s k f) j b := by
  show (va_up (va_up s.1 j a) j b, va_up (va_up s.2 k _) k f) = (va_up s.1 j b, va_up s.2 k f)
  rw [bx_uu, bx_uu]
theorem x_feed {v : Int64} {t : Nat} (ht : t ≤ 92) {Q : Int32 → St → Prop} : ∀ m i s, i + m = 8 → gF s 701 = nI t → Q (nI (t + 8)) (stF (stC s 8 (fx (s.2 8) t i (fun j => (nI (byt8 v j)).toInt8.toInt32))) 701 (nI (t + 8))) → wX5_takeEight_14 v (nI i) s Q := by
  intro m i s hm hg hq P hP
  induction m generalizing i s with
  | zero =>
    have e : i = 8 := by omega
    subst e
    rw [fx_8, st_self] at hq
    refine hP _ _ _ ?_
    try dsimp only
    unfold wX5_takeEight_14_b
    try dsimp only
    rw [if_pos (show (8 : Int32) ≤ nI 8 from nI_le (a := 8) (b := 8) (by omega) (by omega)), hg, l_n 8, nI_add, g_FF, if_pos rfl]
    exact hq
  | succ m ih =>
    refine hP _ _ _ ?_
    try dsimp only
    unfold wX5_takeEight_14_b
    try dsimp only
    rw [if_neg (show ¬ (8 : Int32) ≤ nI i from nI_ge (a := i) (b := 8) (by omega) (by omega)), hg, nI_add, x_bt v (by omega), nI_1]
    refine ⟨vin (by omega) (by decide), ih (i + 1) _ (by omega) hg ?_⟩
    rw [st_AC, g_AA, if_pos rfl, cl (by omega), fx_s (g := fun j => (nI (byt8 v j)).toInt8.toInt32) (by omega)]
    exact hq
theorem bsh_s {i : Nat} (h : i < 8) : nI (bsh i) + (-8 : Int32) = if i + 1 < 8 then nI (bsh (i + 1)) else -8 := by
  have : i = 0 ∨ i = 1 ∨ i = 2 ∨ i = 3 ∨ i = 4 ∨ i = 5 ∨ i = 6 ∨ i = 7 := by omega
  rcases this with rfl | rfl | rfl | rfl | rfl | rfl | rfl | rfl <;> decide
theorem y_feed {v : Int64} {t : Nat} (ht : t ≤ 92) {Q : Int32 → St → Prop} : ∀ m i s, i + m = 8 → gF s 3009 = nI (t + i) → Q (nI (t + 8)) (stF (stC s 38 (fx (s.2 38) t i (fun j => nI (byt8 v j)))) 3009 (nI (t + 8))) → wX8_feed_18 v (if i < 8 then nI (bsh i) else -8) s Q := by
  intro m i s hm hg hq P hP
  induction m generalizing i s with
  | zero =>
    have e : i = 8 := by omega
    subst e
    rw [fx_8, st_self] at hq
    refine hP _ _ _ ?_
    try dsimp only
    unfold wX8_feed_18_b
    try dsimp only
    rw [if_neg (show ¬ 8 < 8 by omega), if_pos (show (-8 : Int32) < 0 from by decide), hg]
    have e2 : stF s 3009 (nI (t + 8)) = s := by
      refine st_ext (fun k => ?_) (fun _ _ => rfl)
      rw [g_FF]
      split
      · rename_i z; rw [z]; exact hg.symm
      · rfl
    rw [e2] at hq
    exact hq
  | succ m ih =>
    refine hP _ _ _ ?_
    try dsimp only
    unfold wX8_feed_18_b
    try dsimp only
    rw [if_pos (show i < 8 by omega), if_neg (nI_n0 (by unfold bsh; omega)), g_AF, hg, y_bt v (by omega), nI_1, bsh_s (by omega)]
    refine ⟨vin (by omega) (by decide), ih (i + 1) _ (by omega) (by rw [g_FF, if_pos rfl, Nat.add_assoc]) ?_⟩
    rw [st_FAF, g_FA, g_AA, if_pos rfl, cl (by omega), fx_s (g := fun j => nI (byt8 v j)) (by omega)]
    exact hq
theorem op_feed (v : Int64) : Op (fun Q s => wX7_feed v s Q) (fun Q s => wX8_feed v s Q) := by
  intro s hI K hK
  obtain ⟨n, t, hP, hB, hF, hC, hT, ⟨⟨x1, x2, x3, x4⟩, x5⟩, hZ, hQ⟩ := id hI
  show wX7_feed v s _
  try dsimp only
  unfold wX7_feed wX5_takeEight
  rw [x1]
  by_cases h : t ≤ 92
  · try dsimp only
    rw [if_pos (show nI t ≤ (92 : Int32) from nI_le (b := 92) h (by decide))]
    refine x_feed h 8 0 s (by omega) x1 ?_
    try dsimp only
    unfold wX8_feed
    rw [show gF (stF (stC s 8 (fx (s.2 8) t 0 (fun j => (nI (byt8 v j)).toInt8.toInt32))) 701 (nI (t + 8))) 3009 = nI t from x2, l_n 8, nI_add, if_pos (show nI (t + 8) ≤ (100 : Int32) from nI_le (b := 100) (by omega) (by decide))]
    refine y_feed (t := t) h 8 0 _ (by omega) x2 ?_
    refine hK _ _ ⟨n, t + 8, hP, hB, hF, hC, hT, ⟨⟨rfl, rfl, by omega, fun i hi => ?_⟩, x5⟩, hZ, hQ⟩
    show ∃ v' : Nat, v' < 256 ∧ fx (s.2 38) t 0 (fun j => nI (byt8 v j)) i = nI v' ∧ fx (s.2 8) t 0 (fun j => (nI (byt8 v j)).toInt8.toInt32) i = (nI v').toInt8.toInt32
    unfold fx
    by_cases z : t ≤ i
    · try dsimp only
      rw [if_pos (by omega), if_pos (by omega)]
      exact ⟨byt8 v (i - t), byt8_lt v _, rfl, rfl⟩
    · try dsimp only
      rw [if_neg (by omega), if_neg (by omega)]
      exact x4 i (by omega)
  · try dsimp only
    rw [if_neg (show ¬ nI t ≤ (92 : Int32) from nI_ge (a := 92) (by omega) (by omega))]
    try dsimp only
    unfold wX8_feed
    rw [x2, l_n 8, nI_add, if_neg (show ¬ nI (t + 8) ≤ (100 : Int32) from nI_ge (a := 100) (by omega) (by omega))]
    exact hK _ _ hI
