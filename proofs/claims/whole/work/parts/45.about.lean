/-! about -/
def sitB (c : Nat → Int32) (p d : Nat) : Bool := decide (c (24 * p + d) = -5)
def lgst (c : Nat → Int32) (p : Nat) : Nat → Nat := mxs (fun k => lr c p (k + 1))
theorem lgst_s {c : Nat → Int32} {p k : Nat} : lgst c p (k + 1) = if lgst c p k < lr c p (k + 1) then lr c p (k + 1) else lgst c p k := rfl
theorem lgst_le {c : Nat → Int32} {p : Nat} : ∀ k, lgst c p k ≤ k
  | 0 => Nat.le_refl 0
  | k + 1 => by
    rw [lgst_s]
    have := lgst_le (c := c) (p := p) k
    have := lr_le (c := c) (p := p) (k + 1)
    split <;> omega
theorem lr_s {c : Nat → Int32} {p k : Nat} : lr c p (k + 1) = if pd c p k then lr c p k + 1 else 0 := rfl
theorem x_sit {p : Nat} (hp : p < 16) {s : St} {Q : Int32 → St → Prop} (hq : Q (nI (fb_ct (sitB (s.2 12) p) 24)) s) : wX0_sittings (nI p) s Q := by
  have lp : ∀ m k, k + m = 24 → wX0_sittings_4 (nI p) (nI (fb_ct (sitB (s.2 12) p) k)) (nI k) s Q := by
    intro m k hm P hP
    induction m generalizing k with
    | zero =>
      have e : k = 24 := by omega
      subst e
      refine hP _ _ _ _ ?_
      try dsimp only
      unfold wX0_sittings_4_b
      try dsimp only
      rw [if_pos (show (24 : Int32) ≤ nI 24 from nI_le (a := 24) (b := 24) (by omega) (by omega))]
      exact hq
    | succ m ih =>
      refine hP _ _ _ _ ?_
      try dsimp only
      unfold wX0_sittings_4_b wX0_sittings_27 wX7_toInt
      try dsimp only
      rw [if_neg (show ¬ (24 : Int32) ≤ nI k from nI_ge (b := 24) (by omega) (by omega)), e_entry hp (by omega)]
      by_cases z : s.2 12 (24 * p + k) = -5
      · try dsimp only
        rw [if_pos z, if_neg (by decide), acc1 (p := sitB (s.2 12) p) (by unfold sitB; simpa using z), nI_1]
        exact ih (k + 1) (by omega)
      · try dsimp only
        rw [if_neg z, if_pos rfl, acc0 (p := sitB (s.2 12) p) (by unfold sitB; simpa using z), nI_1]
        exact ih (k + 1) (by omega)
  exact lp 24 0 (by omega)
theorem x_long {p : Nat} (hp : p < 16) {s : St} {Q : Int32 → St → Prop} (hq : Q (nI (lgst (s.2 12) p 24)) s) : wX0_longestRow (nI p) s Q := by
  have lp : ∀ m k, k + m = 24 → wX0_longestRow_7 (nI p) (nI (lgst (s.2 12) p k)) (nI (lr (s.2 12) p k)) (nI k) s Q := by
    intro m k hm P hP
    induction m generalizing k with
    | zero =>
      have e : k = 24 := by omega
      subst e
      refine hP _ _ _ _ _ ?_
      try dsimp only
      unfold wX0_longestRow_7_b
      try dsimp only
      rw [if_pos (show (24 : Int32) ≤ nI 24 from nI_le (a := 24) (b := 24) (by omega) (by omega))]
      exact hq
    | succ m ih =>
      refine hP _ _ _ _ _ ?_
      have nx := ih (k + 1) (by omega)
      have h1 := lgst_le (c := s.2 12) (p := p) k
      have h2 := lr_le (c := s.2 12) (p := p) (k + 1)
      have e : ∀ r, nI (lr (s.2 12) p (k + 1)) = r → P (nI p) (if nI (lgst (s.2 12) p k) < r then r else nI (lgst (s.2 12) p k)) r (nI (k + 1)) s := by
        rintro r rfl
        rw [lgst_s] at nx
        by_cases z : lgst (s.2 12) p k < lr (s.2 12) p (k + 1)
        · try dsimp only
          rw [if_pos z] at nx
          try dsimp only
          rw [if_pos (nI_lt z (by omega))]; exact nx
        · try dsimp only
          rw [if_neg z] at nx
          try dsimp only
          rw [if_neg (nI_nlt (by omega) (by omega))]; exact nx
      try dsimp only
      unfold wX0_longestRow_7_b wX0_longestRow_31
      try dsimp only
      rw [if_neg (show ¬ (24 : Int32) ≤ nI k from nI_ge (b := 24) (by omega) (by omega)), e_paired hp (by omega), nI_1, nI_1]
      by_cases z : pd (s.2 12) p k = true
      · try dsimp only
        rw [bi_t z, if_neg (by decide)]
        exact e _ (by rw [lr_s, if_pos z])
      · try dsimp only
        rw [bi_f z, if_pos rfl]
        exact e _ (by rw [lr_s, if_neg z]; rfl)
  exact lp 24 0 (by omega)
def mt (c : Nat → Int32) (p : Nat) : Nat → Nat
  | 0 => 0
  | k + 1 => if pd c p k then mt c p k ||| 2 ^ (c (24 * p + k)).toNatClampNeg else mt c p k
theorem mt_s {c : Nat → Int32} {p k : Nat} : mt c p (k + 1) = if pd c p k then mt c p k ||| 2 ^ (c (24 * p + k)).toNatClampNeg else mt c p k := rfl
theorem pd_iff {c : Nat → Int32} {p d : Nat} : pd c p d = true ↔ 0 ≤ c (24 * p + d) := by unfold pd; simp
theorem mt_lt {n p : Nat} {L e c : Nat → Int32} (h : InvC n L e c) (h16 : n ≤ 16) (hp : p < n) : ∀ k, k ≤ 24 → mt c p k < 65536
  | 0, _ => by decide
  | k + 1, hk => by
    rw [mt_s]
    have ih := mt_lt h h16 hp k (by omega)
    by_cases z : pd c p k = true
    · try dsimp only
      rw [if_pos z]
      obtain ⟨q, hq, q1, -⟩ := h.mate h16 hp (d := k) (by omega) (pd_iff.mp z)
      rw [q1, cl (by omega)]
      exact or_lt ih (by omega)
    · try dsimp only
      rw [if_neg z]; exact ih
theorem mt_bit {n p : Nat} {L e c : Nat → Int32} (h : InvC n L e c) (h16 : n ≤ 16) (hp : p < n) {j : Nat} (hj : j < 2147483648) : ∀ k, k ≤ 24 → ((mt c p k).testBit j = true ↔ ∃ d, d < k ∧ c (24 * p + d) = nI j)
  | 0, _ => by simp [mt]
  | k + 1, hk => by
    have ih := mt_bit h h16 hp hj k (by omega)
    rw [mt_s]
    have old : (∃ d, d < k ∧ c (24 * p + d) = nI j) → ∃ d, d < k + 1 ∧ c (24 * p + d) = nI j := fun ⟨d, h1, h2⟩ => ⟨d, by omega, h2⟩
    by_cases z : pd c p k = true
    · try dsimp only
      rw [if_pos z]
      obtain ⟨q, hq, q1, -⟩ := h.mate h16 hp (d := k) (by omega) (pd_iff.mp z)
      rw [q1, cl (by omega), fb_bit_set]
      rw [Bool.or_eq_true, ih, decide_eq_true_iff]
      constructor
      · rintro (h1 | h1)
        · exact old h1
        · exact ⟨k, by omega, by rw [q1, h1]⟩
      · rintro ⟨d, h1, h2⟩
        by_cases e : d = k
        · subst e
          exact Or.inr ((nI_eq (by omega) (by omega)).mp (h2.symm.trans q1))
        · exact Or.inl ⟨d, by omega, h2⟩
    · try dsimp only
      rw [if_neg z, ih]
      constructor
      · exact old
      · rintro ⟨d, h1, h2⟩
        by_cases e : d = k
        · subst e
          exact absurd (pd_iff.mpr (by rw [h2]; exact nI_pos' hj)) z
        · exact ⟨d, by omega, h2⟩
theorem x_others {n p : Nat} {L c : Nat → Int32} {s : St} (h16 : n ≤ 16) (hp : p < n) (hC : InvC n L (s.2 12) c) {Q : Int32 → St → Prop} (hq : Q (nI (pop (mt c p 24))) s) : wX0_others (nI p) s Q := by
  have lp : ∀ m k, k + m = 24 → wX0_others_4 (nI p) (nI (mt c p k)) (nI k) s Q := by
    intro m k hm P hP
    induction m generalizing k with
    | zero =>
      have e : k = 24 := by omega
      subst e
      refine hP _ _ _ _ ?_
      try dsimp only
      unfold wX0_others_4_b
      try dsimp only
      rw [if_pos (show (24 : Int32) ≤ nI 24 from nI_le (a := 24) (b := 24) (by omega) (by omega)), e_bits (mt_lt hC h16 hp 24 (by omega))]
      exact hq
    | succ m ih =>
      refine hP _ _ _ _ ?_
      have nx := ih (k + 1) (by omega)
      try dsimp only
      unfold wX0_others_4_b
      try dsimp only
      rw [if_neg (show ¬ (24 : Int32) ≤ nI k from nI_ge (b := 24) (by omega) (by omega)), e_paired (by omega) (by omega), nI_1]
      have ec := hC.1 p k hp (by omega)
      have ep : pd (s.2 12) p k = pd c p k := by unfold pd; rw [ec]
      rw [ep]
      rw [mt_s] at nx
      by_cases z : pd c p k = true
      · obtain ⟨q, hq1, q1, -⟩ := hC.mate h16 hp (d := k) (by omega) (pd_iff.mp z)
        try dsimp only
        rw [if_pos z, q1, cl (by omega)] at nx
        try dsimp only
        rw [bi_t z, if_neg (by decide), e_entry (by omega) (by omega), ec, q1, bit_or (by omega)]
        exact nx
      · try dsimp only
        rw [if_neg z] at nx
        try dsimp only
        rw [bi_f z, if_pos rfl]
        exact nx
  exact lp 24 0 (by omega)
