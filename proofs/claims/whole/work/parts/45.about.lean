/-! about -/
def sitB (c : Nat → Int32) (p d : Nat) : Bool := decide (c (24 * p + d) = -5)
def lgst (c : Nat → Int32) (p : Nat) : Nat → Nat := mxs (fun k => lr c p (k + 1))
theorem lgst_s {c : Nat → Int32} {p k : Nat} : lgst c p (k + 1) = if lgst c p k < lr c p (k + 1) then lr c p (k + 1) else lgst c p k := rfl
theorem lgst_le {c : Nat → Int32} {p : Nat} : ∀ k, lgst c p k ≤ k
  | 0 => Nat.le_refl 0
  | k + 1 => by
    rw [lgst_s]
    have := lgst_le (c := c) (p := p) k
    have := lr_le (c := c) (p := p) (k + 1)
    split <;> omega
theorem lr_s {c : Nat → Int32} {p k : Nat} : lr c p (k + 1) = if pd c p k then lr c p k + 1 else 0 := rfl
theorem x_sit {p : Nat} (hp : p < 16) {s : St} {Q : Int32 → St → Prop} (hq : Q (nI (fb_ct (sitB (s.2 12) p) 24)) s) : wX0_sittings (nI p) s Q := by
  have lp : ∀ m k, k + m = 24 → wX0_sittings_4 (nI p) (nI (fb_ct (sitB (s.2 12) p) k)) (nI k) s Q := by
    intro m k hm P hP
    induction m generalizing k with
    | zero =>
      have e : k = 24 := by omega
      subst e
      refine hP _ _ _ _ ?_
      try dsimp only
      unfold wX0_sittings_4_b
      try dsimp only
      rw [if_pos (show (24 : Int32) ≤ nI 24 from nI_le (a := 24) (b := 24) (by omega) (by omega))]
      exact hq
    | succ m ih =>
      refine hP _ _ _ _ ?_
      try dsimp only
      unfold wX0_sittings_4_b wX0_sittings_27 wX7_toInt
      try dsimp only
      rw [if_neg (show ¬ (24 : Int32) ≤ nI k from nI_ge (b := 24) (by omega) (by omega)), e_entry hp (by omega)]
      by_cases z : s.2 12 (24 * p + k) = -5
      · try dsimp only
        rw [if_pos z, if_neg (by decide), acc1 (p := sitB (s.2 12) p) (by unfold sitB; simpa using z), nI_1]
        exact ih (k + 1) (by omega)
      · try dsimp only
        rw [if_neg z, if_pos rfl, acc0 (p := sitB (s.2 12) p) (by unfold sitB; simpa using z), nI_1]
        exact ih (k + 1) (by omega)
  exact lp 24 0 (by omega)
theorem x_long {p : Nat} (hp : p < 16) {s : St} {Q : Int32 → St → Prop} (hq : Q (nI (lgst (s.2 12) p 24)) s) : wX0_longestRow (nI p) s Q := by
  have lp : ∀ m k, k + m = 24 → wX0_longestRow_7 (nI p) (nI (lgst (s.2 12) p k)) (nI (lr (s.2 12) p k)) (nI k) s Q := by
    intro m k hm P hP
    induction m generalizing k with
    | zero =>
      have e : k = 24 := by omega
      subst e
      refine hP _ _ _ _ _ ?_
      try dsimp only
      unfold wX0_longestRow_7_b
      try dsimp only
      rw [if_pos (show (24 : Int32) ≤ nI 24 from nI_le (a := 24) (b := 24) (by omega) (by omega))]
      exact hq
    | succ m ih =>
      refine hP _ _ _ _ _ ?_
      have nx := ih (k + 1) (by omega)
      have h1 := lgst_le (c := s.2 12) (p := p) k
      have h2 := lr_le (c := s.2 12) (p := p) (k + 1)
      have e : ∀ r, nI (lr (s.2 12) p (k + 1)) = r → P (nI p) (if nI (lgst (s.2 12) p k) < r then r else nI (lgst (s.2 12) p k)) r (nI (k + 1)) s := by
        rintro r rfl
        rw [lgst_s] at nx
        by_cases z : lgst (s.2 12) p k < lr (s.2 12) p (k + 1)
        · try dsimp only
          rw [if_pos z] at nx
          try dsimp only
          rw [if_pos (nI_lt z (by omega))]; exact nx
        · try dsimp only
          rw [if_neg z] at nx
          try dsimp only
          rw [if_neg (nI_nlt (by omega) (by omega))]; exact nx
      try dsimp only
      unfold wX0_longestRow_7_b wX0_longestRow_31
      try dsimp only
      rw [if_neg (show ¬ (24 : Int32) ≤ nI k from nI_ge (b := 24) (by omega) (by omega)), e_paired hp (by omega), nI_1, nI_1]
      by_cases z : pd (s.2 12) p k = true
      · try dsimp only
        rw [bi_t z, if_neg (by decide)]
        exact e _ (by rw [lr_s, if_pos z])
      · try dsimp only
        rw [bi_f z, if_pos rfl]
        exact e _ (by rw [lr_s, if_neg z]; rfl)
  exact lp 24 0 (by omega)
