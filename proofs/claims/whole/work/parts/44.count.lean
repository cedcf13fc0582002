/-! count -/
theorem toI {r : Int32} {s : St} {Q : Int32 → St → Prop} : wX7_toInt r s Q = Q (bi (¬ r = 0)) s := by
  try dsimp only
  unfold wX7_toInt
  by_cases h : r = 0
  · try dsimp only
    rw [if_pos h, bi_f (fun z => z h)]
  · try dsimp only
    rw [if_neg h, bi_t h]
theorem acc {p : Nat → Bool} {k : Nat} {c : Prop} (h : p k = true ↔ c) : nI (fb_ct p k) + bi c = nI (fb_ct p (k + 1)) := by
  rw [fb_ct_succ]
  by_cases z : c
  · try dsimp only
    rw [bi_t z, if_pos (h.mpr z), nI_1]
  · try dsimp only
    rw [bi_f z, if_neg (fun w => z (h.mp w))]; exact Int32.add_zero _
theorem acc0 {p : Nat → Bool} {k : Nat} (h : ¬ p k = true) : nI (fb_ct p k) + 0 = nI (fb_ct p (k + 1)) := by
  rw [fb_ct_succ, if_neg h]; exact Int32.add_zero _
theorem acc1 {p : Nat → Bool} {k : Nat} (h : p k = true) : nI (fb_ct p k) + 1 = nI (fb_ct p (k + 1)) := by
  rw [fb_ct_succ, if_pos h, nI_1]
def nz (f : Nat → Int32) (k : Nat) : Bool := decide (¬ f k = 0)
def n4 (f : Nat → Int32) (k : Nat) : Bool := decide (¬ f k = -4)
def ge0 (f : Nat → Int32) (k : Nat) : Bool := decide (0 ≤ f k)
theorem nz_iff {f : Nat → Int32} {k : Nat} : nz f k = true ↔ ¬ f k = 0 := by unfold nz; simp
theorem n4_iff {f : Nat → Int32} {k : Nat} : n4 f k = true ↔ ¬ f k = -4 := by unfold n4; simp
theorem ge0_iff {f : Nat → Int32} {k : Nat} : ge0 f k = true ↔ 0 ≤ f k := by unfold ge0; simp
theorem x_ladies {n : Nat} (h16 : n ≤ 16) {s : St} (n1 : gF s 100 = nI n) {Q : Int32 → St → Prop} (hq : Q (nI (fb_ct (nz (s.2 2)) n)) s) : wX2_ladies s Q := by
  have lp : ∀ m k, k + m = n → wX2_ladies_4 (nI (fb_ct (nz (s.2 2)) k)) (nI k) s Q := by
    intro m k hm P hP
    induction m generalizing k with
    | zero =>
      have e : k = n := by omega
      subst e
      refine hP _ _ _ ?_
      try dsimp only
      unfold wX2_ladies_4_b
      rw [n1, if_pos (nI_le (Nat.le_refl k) (by omega))]
      exact hq
    | succ m ih =>
      refine hP _ _ _ ?_
      try dsimp only
      unfold wX2_ladies_4_b
      rw [n1, if_neg (nI_ge (by omega) (by omega)), toI, gn (by omega), acc nz_iff, nI_1]
      exact ⟨vin (by omega) (by decide), ih (k + 1) (by omega)⟩
  exact lp n 0 (by omega)
theorem x_ills {n : Nat} (h16 : n ≤ 16) {s : St} (n1 : gF s 100 = nI n) {Q : Int32 → St → Prop} (hq : Q (nI (fb_ct (nz (s.2 3)) n)) s) : wX2_illOnes s Q := by
  have lp : ∀ m k, k + m = n → wX2_illOnes_4 (nI (fb_ct (nz (s.2 3)) k)) (nI k) s Q := by
    intro m k hm P hP
    induction m generalizing k with
    | zero =>
      have e : k = n := by omega
      subst e
      refine hP _ _ _ ?_
      try dsimp only
      unfold wX2_illOnes_4_b
      rw [n1, if_pos (nI_le (Nat.le_refl k) (by omega))]
      exact hq
    | succ m ih =>
      refine hP _ _ _ ?_
      try dsimp only
      unfold wX2_illOnes_4_b
      rw [n1, if_neg (nI_ge (by omega) (by omega)), toI, gn (by omega), acc nz_iff, nI_1]
      exact ⟨vin (by omega) (by decide), ih (k + 1) (by omega)⟩
  exact lp n 0 (by omega)
theorem y_ladies {n : Nat} (h16 : n ≤ 16) {s : St} (n1 : gF s 3000 = nI n) {Q : Int32 → St → Prop} (hq : Q (nI (fb_ct (nz (s.2 31)) n)) s) : wX8_count_55 0 0 s Q := by
  have lp : ∀ m k, k + m = n → wX8_count_55 (nI (fb_ct (nz (s.2 31)) k)) (nI k) s Q := by
    intro m k hm P hP
    induction m generalizing k with
    | zero =>
      have e : k = n := by omega
      subst e
      refine hP _ _ _ ?_
      try dsimp only
      unfold wX8_count_55_b
      rw [n1, if_pos (nI_le (Nat.le_refl k) (by omega))]
      exact hq
    | succ m ih =>
      refine hP _ _ _ ?_
      try dsimp only
      unfold wX8_count_55_b
      rw [n1, if_neg (nI_ge (by omega) (by omega)), gn (by omega), nI_1]
      refine ⟨vin (by omega) (by decide), ?_⟩
      by_cases z : s.2 31 k = 0
      · try dsimp only
        rw [if_pos z, acc0 (fun w => nz_iff.mp w z)]; exact ih (k + 1) (by omega)
      · try dsimp only
        rw [if_neg z, acc1 (nz_iff.mpr z)]; exact ih (k + 1) (by omega)
  exact lp n 0 (by omega)
theorem y_ills {n : Nat} (h16 : n ≤ 16) {s : St} (n1 : gF s 3000 = nI n) {Q : Int32 → St → Prop} (hq : Q (nI (fb_ct (nz (s.2 33)) n)) s) : wX8_count_164 0 0 s Q := by
  have lp : ∀ m k, k + m = n → wX8_count_164 (nI (fb_ct (nz (s.2 33)) k)) (nI k) s Q := by
    intro m k hm P hP
    induction m generalizing k with
    | zero =>
      have e : k = n := by omega
      subst e
      refine hP _ _ _ ?_
      try dsimp only
      unfold wX8_count_164_b
      rw [n1, if_pos (nI_le (Nat.le_refl k) (by omega))]
      exact hq
    | succ m ih =>
      refine hP _ _ _ ?_
      try dsimp only
      unfold wX8_count_164_b
      rw [n1, if_neg (nI_ge (by omega) (by omega)), gn (by omega), nI_1]
      refine ⟨vin (by omega) (by decide), ?_⟩
      by_cases z : s.2 33 k = 0
      · try dsimp only
        rw [if_pos z, acc0 (fun w => nz_iff.mp w z)]; exact ih (k + 1) (by omega)
      · try dsimp only
        rw [if_neg z, acc1 (nz_iff.mpr z)]; exact ih (k + 1) (by omega)
  exact lp n 0 (by omega)
theorem x_told {s : St} {Q : Int32 → St → Prop} (hq : Q (nI (fb_ct (n4 (s.2 9)) 4)) s) : wX5_toldCustoms s Q := by
  have lp : ∀ m k, k + m = 4 → wX5_toldCustoms_4 (nI (fb_ct (n4 (s.2 9)) k)) (nI k) s Q := by
    intro m k hm P hP
    induction m generalizing k with
    | zero =>
      have e : k = 4 := by omega
      subst e
      refine hP _ _ _ ?_
      try dsimp only
      unfold wX5_toldCustoms_4_b
      try dsimp only
      rw [if_pos (show (4 : Int32) ≤ nI 4 from nI_le (a := 4) (b := 4) (by omega) (by omega))]
      exact hq
    | succ m ih =>
      refine hP _ _ _ ?_
      try dsimp only
      unfold wX5_toldCustoms_4_b
      try dsimp only
      rw [if_neg (show ¬ (4 : Int32) ≤ nI k from nI_ge (b := 4) (by omega) (by omega)), e_told (ck := nI k) rfl (by omega), toI, nI_1, acc (c := ¬ bi (¬ s.2 9 k = -4) = 0) (by rw [n4_iff, bi_0]; exact ⟨fun z w => w z, fun z => Classical.byContradiction z⟩)]
      exact ih (k + 1) (by omega)
  exact lp 4 0 (by omega)
theorem y_told {s : St} {Q : Int32 → St → Prop} (hq : Q (nI (fb_ct (n4 (s.2 39)) 4)) s) : wX8_count_130 0 0 s Q := by
  have lp : ∀ m k, k + m = 4 → wX8_count_130 (nI (fb_ct (n4 (s.2 39)) k)) (nI k) s Q := by
    intro m k hm P hP
    induction m generalizing k with
    | zero =>
      have e : k = 4 := by omega
      subst e
      refine hP _ _ _ ?_
      try dsimp only
      unfold wX8_count_130_b
      try dsimp only
      rw [if_pos (show (4 : Int32) ≤ nI 4 from nI_le (a := 4) (b := 4) (by omega) (by omega))]
      exact hq
    | succ m ih =>
      refine hP _ _ _ ?_
      try dsimp only
      unfold wX8_count_130_b
      try dsimp only
      rw [if_neg (show ¬ (4 : Int32) ≤ nI k from nI_ge (b := 4) (by omega) (by omega)), gn (by omega), nI_1]
      refine ⟨vin (by omega) (by decide), ?_⟩
      by_cases z : s.2 39 k = -4
      · try dsimp only
        rw [if_pos z, acc0 (fun w => n4_iff.mp w z)]; exact ih (k + 1) (by omega)
      · try dsimp only
        rw [if_neg z, acc1 (n4_iff.mpr z)]; exact ih (k + 1) (by omega)
  exact lp 4 0 (by omega)
theorem x_pairs {p : Nat} (hp : p < 16) {s : St} {Q : Int32 → St → Prop} (hq : Q (nI (fb_ct (fun d => pd (s.2 12) p d) 24)) s) : wX0_pairedDances (nI p) s Q := by
  have lp : ∀ m k, k + m = 24 → wX0_pairedDances_4 (nI p) (nI (fb_ct (fun d => pd (s.2 12) p d) k)) (nI k) s Q := by
    intro m k hm P hP
    induction m generalizing k with
    | zero =>
      have e : k = 24 := by omega
      subst e
      refine hP _ _ _ _ ?_
      try dsimp only
      unfold wX0_pairedDances_4_b
      try dsimp only
      rw [if_pos (show (24 : Int32) ≤ nI 24 from nI_le (a := 24) (b := 24) (by omega) (by omega))]
      exact hq
    | succ m ih =>
      refine hP _ _ _ _ ?_
      try dsimp only
      unfold wX0_pairedDances_4_b
      try dsimp only
      rw [if_neg (show ¬ (24 : Int32) ≤ nI k from nI_ge (b := 24) (by omega) (by omega)), e_paired hp (by omega), toI, nI_1, acc (p := fun d => pd (s.2 12) p d) (c := ¬ bi (pd (s.2 12) p k = true) = 0) (by rw [bi_0]; exact ⟨fun z w => w z, fun z => Classical.byContradiction z⟩)]
      exact ih (k + 1) (by omega)
  exact lp 24 0 (by omega)
theorem x_couples {s : St} {Q : Int32 → St → Prop} (hq : Q (nI (fb_sm (fun p => fb_ct (fun d => pd (s.2 12) p d) 24) 16 / 2)) s) : wX0_couples s Q := by
  have bd : ∀ k, fb_sm (fun p => fb_ct (fun d => pd (s.2 12) p d) 24) k ≤ k * 24 := fun k => fb_sm_bound (fun p _ => fb_ct_le _ 24)
  have lp : ∀ m k, k + m = 16 → wX0_couples_4 (nI (fb_sm (fun p => fb_ct (fun d => pd (s.2 12) p d) 24) k)) (nI k) s Q := by
    intro m k hm P hP
    induction m generalizing k with
    | zero =>
      have e : k = 16 := by omega
      subst e
      refine hP _ _ _ ?_
      try dsimp only
      unfold wX0_couples_4_b
      have := bd 16
      try dsimp only
      rw [if_pos (show (16 : Int32) ≤ nI 16 from nI_le (a := 16) (b := 16) (by omega) (by omega)), show (2 : Int32) = nI 2 from rfl, pk_div (by omega) (by omega) (by omega)]
      exact ⟨by decide, hq⟩
    | succ m ih =>
      refine hP _ _ _ ?_
      try dsimp only
      unfold wX0_couples_4_b
      try dsimp only
      rw [if_neg (show ¬ (16 : Int32) ≤ nI k from nI_ge (b := 16) (by omega) (by omega))]
      refine x_pairs (by omega) ?_
      have nx := ih (k + 1) (by omega)
      rw [fb_sm_succ] at nx
      rw [nI_add, nI_1]
      exact nx
  exact lp 16 0 (by omega)
theorem y_couples {n : Nat} (h16 : n ≤ 16) {s : St} (n1 : gF s 3000 = nI n) {Q : Int32 → St → Prop} (hq : Q (nI (fb_ct (ge0 (s.2 37)) (24 * n) / 2)) s) : wX8_count_90 0 0 s Q := by
  have lp : ∀ m k, k + m = 24 * n → wX8_count_90 (nI (fb_ct (ge0 (s.2 37)) k)) (nI k) s Q := by
    intro m k hm P hP
    induction m generalizing k with
    | zero =>
      have e : k = 24 * n := by omega
      subst e
      refine hP _ _ _ ?_
      try dsimp only
      unfold wX8_count_90_b
      have := fb_ct_le (ge0 (s.2 37)) (24 * n)
      rw [n1, show (24 : Int32) = nI 24 from rfl, pk_mul, if_pos (nI_le (Nat.le_refl _) (by omega)), show (2 : Int32) = nI 2 from rfl, pk_div (by omega) (by omega) (by omega)]
      exact ⟨by decide, hq⟩
    | succ m ih =>
      refine hP _ _ _ ?_
      try dsimp only
      unfold wX8_count_90_b
      rw [n1, show (24 : Int32) = nI 24 from rfl, pk_mul, if_neg (nI_ge (by omega) (by omega)), gn (by omega), nI_1]
      refine ⟨vin (by omega) (by decide), ?_⟩
      by_cases z : 0 ≤ s.2 37 k
      · try dsimp only
        rw [if_neg (by rw [Int32.not_lt]; exact z), acc1 (ge0_iff.mpr z)]; exact ih (k + 1) (by omega)
      · try dsimp only
        rw [if_pos (by rw [Int32.not_le] at z; exact z), acc0 (fun w => z (ge0_iff.mp w))]; exact ih (k + 1) (by omega)
  exact lp (24 * n) 0 (by omega)
theorem couples_eq {n : Nat} (h16 : n ≤ 16) {L e c : Nat → Int32} (h : InvC n L e c) : fb_sm (fun p => fb_ct (fun d => pd e p d) 24) 16 = fb_ct (ge0 c) (24 * n) := by
  obtain ⟨c1, c2, c3⟩ := h
  have z := sm_z (f := fun p => fb_ct (fun d => pd e p d) 24) (n := n) (16 - n) (fun k h1 h2 => fb_ct_zero.mpr (fun d hd => by
    unfold pd
    rw [c2 k d h1 (by omega) hd]; decide))
  rw [show n + (16 - n) = 16 by omega] at z
  rw [z]
  have : ∀ k, k ≤ n → fb_sm (fun p => fb_ct (fun d => pd e p d) 24) k = fb_ct (ge0 c) (24 * k) := by
    intro k
    induction k with
    | zero => intro _; rfl
    | succ k ih =>
      intro hk
      rw [fb_sm_succ, ih (by omega), show 24 * (k + 1) = 24 * k + 24 by omega, fb_ct_split]
      congr 1
      refine fb_ct_cong (fun d hd => ?_)
      unfold pd ge0
      rw [c1 k d (by omega) hd]
  exact this n (Nat.le_refl n)
theorem pop_le (m : Nat) : pop m ≤ 16 := fb_ct_le _ 16
theorem x_known {n : Nat} (h16 : n ≤ 16) {s : St} {m : Nat → Nat} (n1 : gF s 100 = nI n) (m1 : ∀ i, i < 16 → s.2 5 i = nI (m i)) (m2 : ∀ i, m i < 65536) {Q : Int32 → St → Prop} (hq : Q (nI (fb_sm (fun p => pop (m p)) n / 2)) s) : wX2_knownPairs s Q := by
  have bd : ∀ k, fb_sm (fun p => pop (m p)) k ≤ k * 16 := fun k => fb_sm_bound (fun p _ => pop_le _)
  have lp : ∀ r k, k + r = n → wX2_knownPairs_4 (nI (fb_sm (fun p => pop (m p)) k)) (nI k) s Q := by
    intro r k hm P hP
    induction r generalizing k with
    | zero =>
      have e : k = n := by omega
      subst e
      refine hP _ _ _ ?_
      try dsimp only
      unfold wX2_knownPairs_4_b
      have := bd k
      rw [n1, if_pos (nI_le (Nat.le_refl k) (by omega)), show (2 : Int32) = nI 2 from rfl, pk_div (by omega) (by omega) (by omega)]
      exact ⟨by decide, hq⟩
    | succ r ih =>
      refine hP _ _ _ ?_
      try dsimp only
      unfold wX2_knownPairs_4_b
      have nx := ih (k + 1) (by omega)
      rw [fb_sm_succ] at nx
      rw [n1, if_neg (nI_ge (by omega) (by omega)), gn (by omega), m1 k (by omega), e_bits (m2 k), nI_add, nI_1]
      exact ⟨vin (by omega) (by decide), nx⟩
  exact lp n 0 (by omega)
theorem y_known {s : St} {Q : Int32 → St → Prop} (hq : Q (nI (fb_ct (nz (s.2 34)) 256 / 2)) s) : wX8_count_199 0 0 s Q := by
  have lp : ∀ m k, k + m = 256 → wX8_count_199 (nI (fb_ct (nz (s.2 34)) k)) (nI k) s Q := by
    intro m k hm P hP
    induction m generalizing k with
    | zero =>
      have e : k = 256 := by omega
      subst e
      refine hP _ _ _ ?_
      try dsimp only
      unfold wX8_count_199_b
      have := fb_ct_le (nz (s.2 34)) 256
      try dsimp only
      rw [if_pos (show (256 : Int32) ≤ nI 256 from nI_le (a := 256) (b := 256) (by omega) (by omega)), show (2 : Int32) = nI 2 from rfl, pk_div (by omega) (by omega) (by omega)]
      exact ⟨by decide, hq⟩
    | succ m ih =>
      refine hP _ _ _ ?_
      try dsimp only
      unfold wX8_count_199_b
      try dsimp only
      rw [if_neg (show ¬ (256 : Int32) ≤ nI k from nI_ge (b := 256) (by omega) (by omega)), gn (by omega), nI_1]
      refine ⟨vin (by omega) (by decide), ?_⟩
      by_cases z : s.2 34 k = 0
      · try dsimp only
        rw [if_pos z, acc0 (fun w => nz_iff.mp w z)]; exact ih (k + 1) (by omega)
      · try dsimp only
        rw [if_neg z, acc1 (nz_iff.mpr z)]; exact ih (k + 1) (by omega)
  exact lp 256 0 (by omega)
theorem known_eq {n : Nat} (h16 : n ≤ 16) {t : Nat → Int32} {m : Nat → Nat} (m3 : ∀ i j, i < 16 → j < 16 → t (16 * i + j) = if (m i).testBit j then 1 else 0) (m4 : ∀ i j, (m i).testBit j = true → i < n ∧ j < n ∧ i ≠ j) : fb_sm (fun p => pop (m p)) n = fb_ct (nz t) 256 := by
  have z := sm_z (f := fun p => pop (m p)) (n := n) (16 - n) (fun k h1 h2 => fb_ct_zero.mpr (fun j hj => by
    cases hb : (m k).testBit j with
    | false => rfl
    | true => exact absurd (m4 k j hb).1 (by omega)))
  rw [show n + (16 - n) = 16 by omega] at z
  rw [← z]
  have : ∀ k, k ≤ 16 → fb_sm (fun p => pop (m p)) k = fb_ct (nz t) (16 * k) := by
    intro k
    induction k with
    | zero => intro _; rfl
    | succ k ih =>
      intro hk
      rw [fb_sm_succ, ih (by omega), show 16 * (k + 1) = 16 * k + 16 by omega, fb_ct_split]
      congr 1
      refine fb_ct_cong (fun j hj => ?_)
      unfold nz
      rw [m3 k j (by omega) hj]
      cases (m k).testBit j <;> decide
  exact this 16 (Nat.le_refl 16)
theorem op_count (a : Int32) : Op (fun Q s => wX7_count a s Q) (fun Q s => wX8_count a s Q) := by
  intro s hI K hK
  obtain ⟨n, t, hP, hB, hF, hC, hT, ⟨⟨x1, x2, x3, x4⟩, x5⟩, ⟨z1, z2⟩, hQ⟩ := id hI
  obtain ⟨h16, n1, n2, p1, p2, -⟩ := hP
  obtain ⟨m, m1, m2, m3, m4, m5⟩ := id hB
  show wX7_count a s _
  try dsimp only
  unfold wX7_count wX8_count
  by_cases c0 : a = 0
  · try dsimp only
    rw [if_pos c0, if_pos c0, n1, n2]; exact hK _ _ hI
  try dsimp only
  rw [if_neg c0]
  simp only [if_neg c0]
  by_cases c1 : a = 1
  · simp only [if_pos c1]
    exact x_ladies h16 n1 (y_ladies h16 n2 (by rw [p1]; exact hK _ _ hI))
  simp only [if_neg c1]
  by_cases c2 : a = 2
  · simp only [if_pos c2]
    exact x_couples (y_couples h16 n2 (by rw [couples_eq h16 hC]; exact hK _ _ hI))
  simp only [if_neg c2]
  by_cases c3 : a = 3
  · simp only [if_pos c3]
    have e : fb_ct (n4 (s.2 9)) 4 = fb_ct (n4 (s.2 39)) 4 := fb_ct_cong (fun k hk => by unfold n4; rw [(hT k hk).1])
    exact x_told (y_told (by rw [e]; exact hK _ _ hI))
  simp only [if_neg c3]
  by_cases c4 : a = 4
  · simp only [if_pos c4]
    exact x_ills h16 n1 (y_ills h16 n2 (by rw [p2]; exact hK _ _ hI))
  simp only [if_neg c4]
  by_cases c5 : a = 5
  · simp only [if_pos c5]
    exact x_known h16 n1 m1 m2 (y_known (by rw [known_eq h16 m3 m4]; exact hK _ _ hI))
  simp only [if_neg c5]
  by_cases c6 : a = 6
  · simp only [if_pos c6]
    have v0 : vp_in (0 : Int32) 4 := vi (k := 0) rfl (by decide) (by decide)
    refine ⟨v0, v0, ?_⟩
    rw [gk (c := 0) (j := 0) rfl (by decide), gk (c := 0) (j := 0) rfl (by decide)]
    rcases z1 0 (by decide) with ⟨y1, y2⟩ | ⟨l, k, hl, hk, y1, y2, y3, y4⟩
    · try dsimp only
      rw [if_pos y2, y1]; exact hK _ _ hI
    · try dsimp only
      rw [if_neg (by rw [y2]; exact m4_ne' (by omega))]
      refine ⟨v0, ?_⟩
      rw [gk (c := 0) (j := 0) rfl (by decide), y3, y4]
      exact hK _ _ hI
  simp only [if_neg c6]
  by_cases c7 : a = 7
  · simp only [if_pos c7]
    rw [x1, x2]; exact hK _ _ hI
  simp only [if_neg c7]
  exact hK _ _ hI
