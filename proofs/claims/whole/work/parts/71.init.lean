/-! the law: every run of calls -/
theorem inv_init : Inv sInit := by
  have fl : ∀ (N : Nat) (f : Nat → Int32) k, k < N → flf N (-4) f k = -4 := fun N f k h => by unfold flf; rw [if_pos h]
  refine ⟨0, 0, ⟨by omega, rfl, rfl, rfl, rfl, rfl, fun _ => Or.inl rfl, fun _ => Or.inl rfl, fun _ => ⟨0, by omega, rfl⟩⟩, ⟨fun _ => 0, fun _ _ => rfl, fun _ => (show (0 : Nat) < 65536 by decide), fun i j _ _ => by rw [Nat.zero_testBit]; rfl, fun i j h => by rw [Nat.zero_testBit] at h; exact absurd h (by decide), fun i j => by rw [Nat.zero_testBit, Nat.zero_testBit]⟩, ⟨fun _ => 0, fun _ _ => rfl, fun _ => (show (0 : Nat) < 65536 by decide), fun i j _ _ => by rw [Nat.zero_testBit]; rfl, fun i j h => by rw [Nat.zero_testBit] at h; exact absurd h (by decide), fun i j => by rw [Nat.zero_testBit, Nat.zero_testBit]⟩, ⟨fun p d hp => absurd hp (by omega), fun p d _ hp hd => ?_, fun p d hp => absurd hp (by omega)⟩, fun k hk => ?_, ⟨⟨rfl, rfl, by omega, fun i hi => absurd hi (by omega)⟩, rfl⟩, ⟨fun k hk => Or.inl ?_, rfl⟩, ⟨rfl, fun i => ⟨0, by omega, rfl, fun h => absurd h (by omega)⟩⟩, Or.inl rfl, fun h => ?_⟩
  · exact fl 384 (fun _ => 0) (24 * p + d) (by omega)
  · have e9 : sInit.2 9 k = -4 := fl 4 (fun _ => 0) k hk
    have e39 : sInit.2 39 k = -4 := by
      have : k = 0 ∨ k = 1 ∨ k = 2 ∨ k = 3 := by omega
      rcases this with rfl | rfl | rfl | rfl <;> rfl
    rw [e9, e39]
    exact ⟨rfl, Or.inl rfl⟩
  · have e46 : sInit.2 46 k = -4 := by
      have : k = 0 ∨ k = 1 ∨ k = 2 ∨ k = 3 := by omega
      rcases this with rfl | rfl | rfl | rfl <;> rfl
    exact ⟨fl 4 (fun _ => 0) k hk, e46⟩
  · exact absurd h (by decide)
