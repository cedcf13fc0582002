/-! count -/
theorem toI {r : Int32} {s : St} {Q : Int32 → St → Prop} : wX7_toInt r s Q = Q (bi (¬ r = 0)) s := by
  try dsimp only
  unfold wX7_toInt
  by_cases h : r = 0
  · try dsimp only
    rw [if_pos h, bi_f (fun z => z h)]
  · try dsimp only
    rw [if_neg h, bi_t h]
theorem acc {p : Nat → Bool} {k : Nat} {c : Prop} (h : p k = true ↔ c) : nI (fb_ct p k) + bi c = nI (fb_ct p (k + 1)) := by
  rw [fb_ct_succ]
  by_cases z : c
  · try dsimp only
    rw [bi_t z, if_pos (h.mpr z), nI_1]
  · try dsimp only
    rw [bi_f z, if_neg (fun w => z (h.mp w))]; exact Int32.add_zero _
theorem acc0 {p : Nat → Bool} {k : Nat} (h : ¬ p k = true) : nI (fb_ct p k) + 0 = nI (fb_ct p (k + 1)) := by
  rw [fb_ct_succ, if_neg h]; exact Int32.add_zero _
theorem acc1 {p : Nat → Bool} {k : Nat} (h : p k = true) : nI (fb_ct p k) + 1 = nI (fb_ct p (k + 1)) := by
  rw [fb_ct_succ, if_pos h, nI_1]
def nz (f : Nat → Int32) (k : Nat) : Bool := decide (¬ f k = 0)
def n4 (f : Nat → Int32) (k : Nat) : Bool := decide (¬ f k = -4)
def ge0 (f : Nat → Int32) (k : Nat) : Bool := decide (0 ≤ f k)
theorem nz_iff {f : Nat → Int32} {k : Nat} : nz f k = true ↔ ¬ f k = 0 := by unfold nz; simp
theorem n4_iff {f : Nat → Int32} {k : Nat} : n4 f k = true ↔ ¬ f k = -4 := by unfold n4; simp
theorem ge0_iff {f : Nat → Int32} {k : Nat} : ge0 f k = true ↔ 0 ≤ f k := by unfold ge0; simp
theorem x_ladies {n : Nat} (h16 : n ≤ 16) {s : St} (n1 : gF s 100 = nI n) {Q : Int32 → St → Prop} (hq : Q (nI (fb_ct (nz (s.2 2)) n)) s) : wX2_ladies s Q := by
  have lp : ∀ m k, k + m = n → wX2_ladies_4 (nI (fb_ct (nz (s.2 2)) k)) (nI k) s Q := by
    intro m k hm P hP
    induction m generalizing k with
    | zero =>
      have e : k = n := by omega
      subst e
      refine hP _ _ _ ?_
      try dsimp only
      unfold wX2_ladies_4_b
      rw [n1, if_pos (nI_le (Nat.le_refl k) (by omega))]
      exact hq
    | succ m ih =>
      refine hP _ _ _ ?_
      try dsimp only
      unfold wX2_ladies_4_b
      rw [n1, if_neg (nI_ge (by omega) (by omega)), toI, gn (by omega), acc nz_iff, nI_1]
      exact ⟨vin (by omega) (by decide), ih (k + 1) (by omega)⟩
  exact lp n 0 (by omega)
theorem x_ills {n : Nat} (h16 : n ≤ 16) {s : St} (n1 : gF s 100 = nI n) {Q : Int32 → St → Prop} (hq : Q (nI (fb_ct (nz (s.2 3)) n)) s) : wX2_illOnes s Q := by
  have lp : ∀ m k, k + m = n → wX2_illOnes_4 (nI (fb_ct (nz (s.2 3)) k)) (nI k) s Q := by
    intro m k hm P hP
    induction m generalizing k with
    | zero =>
      have e : k = n := by omega
      subst e
      refine hP _ _ _ ?_
      try dsimp only
      unfold wX2_illOnes_4_b
      rw [n1, if_pos (nI_le (Nat.le_refl k) (by omega))]
      exact hq
    | succ m ih =>
      refine hP _ _ _ ?_
      try dsimp only
      unfold wX2_illOnes_4_b
      rw [n1, if_neg (nI_ge (by omega) (by omega)), toI, gn (by omega), acc nz_iff, nI_1]
      exact ⟨vin (by omega) (by decide), ih (k + 1) (by omega)⟩
  exact lp n 0 (by omega)
theorem y_ladies {n : Nat} (h16 : n ≤ 16) {s : St} (n1 : gF s 3000 = nI n) {Q : Int32 → St → Prop} (hq : Q (nI (fb_ct (nz (s.2 31)) n)) s) : wX8_count_55 0 0 s Q := by
  have lp : ∀ m k, k + m = n → wX8_count_55 (nI (fb_ct (nz (s.2 31)) k)) (nI k) s Q := by
    intro m k hm P hP
    induction m generalizing k with
    | zero =>
      have e : k = n := by omega
      subst e
      refine hP _ _ _ ?_
      try dsimp only
      unfold wX8_count_55_b
      rw [n1, if_pos (nI_le (Nat.le_refl k) (by omega))]
      exact hq
    | succ m ih =>
      refine hP _ _ _ ?_
      try dsimp only
      unfold wX8_count_55_b
      rw [n1, if_neg (nI_ge (by omega) (by omega)), gn (by omega), nI_1]
      refine ⟨vin (by omega) (by decide), ?_⟩
      by_cases z : s.2 31 k = 0
      · try dsimp only
        rw [if_pos z, acc0 (fun w => nz_iff.mp w z)]; exact ih (k + 1) (by omega)
      · try dsimp only
        rw [if_neg z, acc1 (nz_iff.mpr z)]; exact ih (k + 1) (by omega)
  exact lp n 0 (by omega)
theorem y_ills {n : Nat} (h16 : n ≤ 16) {s : St} (n1 : gF s 3000 = nI n) {Q : Int32 → St → Prop} (hq : Q (nI (fb_ct (nz (s.2 33)) n)) s) : wX8_count_164 0 0 s Q := by
  have lp : ∀ m k, k + m = n → wX8_count_164 (nI (fb_ct (nz (s.2 33)) k)) (nI k) s Q := by
    intro m k hm P hP
    induction m generalizing k with
    | zero =>
      have e : k = n := by omega
      subst e
      refine hP _ _ _ ?_
      try dsimp only
      unfold wX8_count_164_b
      rw [n1, if_pos (nI_le (Nat.le_refl k) (by omega))]
      exact hq
    | succ m ih =>
      refine hP _ _ _ ?_
      try dsimp only
      unfold wX8_count_164_b
      rw [n1, if_neg (nI_ge (by omega) (by omega)), gn (by omega), nI_1]
      refine ⟨vin (by omega) (by decide), ?_⟩
      by_cases z : s.2 33 k = 0
      · try dsimp only
        rw [if_pos z, acc0 (fun w => nz_iff.mp w z)]; exact ih (k + 1) (by omega)
      · try dsimp only
        rw [if_neg z, acc1 (nz_iff.mpr z)]; exact ih (k + 1) (by omega)
  exact lp n 0 (by omega)
theorem x_told {s : St} {Q : Int32 → St → Prop} (hq : Q (nI (fb_ct (n4 (s.2 9)) 4)) s) : wX5_toldCustoms s Q := by
  have lp : ∀ m k, k + m = 4 → wX5_toldCustoms_4 (nI (fb_ct (n4 (s.2 9)) k)) (nI k) s Q := by
    intro m k hm P hP
    induction m generalizing k with
    | zero =>
      have e : k = 4 := by omega
      subst e
      refine hP _ _ _ ?_
      try dsimp only
      unfold wX5_toldCustoms_4_b
      try dsimp only
      rw [if_pos (show (4 : Int32) ≤ nI 4 from nI_le (a := 4) (b := 4) (by omega) (by omega))]
      exact hq
    | succ m ih =>
      refine hP _ _ _ ?_
      try dsimp only
      unfold wX5_toldCustoms_4_b
      try dsimp only
      rw [if_neg (show ¬ (4 : Int32) ≤ nI k from nI_ge (b := 4) (by omega) (by omega)), e_told (ck := nI k) rfl (by omega), toI, nI_1, acc (c := ¬ bi (¬ s.2 9 k = -4) = 0) (by rw [n4_iff, bi_0]; exact ⟨fun z w => w z, fun z => Classical.byContradiction z⟩)]
      exact ih (k + 1) (by omega)
  exact lp 4 0 (by omega)
theorem y_told {s : St} {Q : Int32 → St → Prop} (hq : Q (nI (fb_ct (n4 (s.2 39)) 4)) s) : wX8_count_130 0 0 s Q := by
  have lp : ∀ m k, k + m = 4 → wX8_count_130 (nI (fb_ct (n4 (s.2 39)) k)) (nI k) s Q := by
    intro m k hm P hP
    induction m generalizing k with
    | zero =>
      have e : k = 4 := by omega
      subst e
      refine hP _ _ _ ?_
      try dsimp only
      unfold wX8_count_130_b
      try dsimp only
      rw [if_pos (show (4 : Int32) ≤ nI 4 from nI_le (a := 4) (b := 4) (by omega) (by omega))]
      exact hq
    | succ m ih =>
      refine hP _ _ _ ?_
      try dsimp only
      unfold wX8_count_130_b
      try dsimp only
      rw [if_neg (show ¬ (4 : Int32) ≤ nI k from nI_ge (b := 4) (by omega) (by omega)), gn (by omega), nI_1]
      refine ⟨vin (by omega) (by decide), ?_⟩
      by_cases z : s.2 39 k = -4
      · try dsimp only
        rw [if_pos z, acc0 (fun w => n4_iff.mp w z)]; exact ih (k + 1) (by omega)
      · try dsimp only
        rw [if_neg z, acc1 (n4_iff.mpr z)]; exact ih (k + 1) (by omega)
  exact lp 4 0 (by omega)
