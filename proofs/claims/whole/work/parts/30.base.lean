/-! pure: the state's rows, small numbers, truth as a number -/
theorem g_AA {s : St} {k j : Nat} {i v : Int32} : (stA s k i v).2 j = if j = k then upd (s.2 k) i.toNatClampNeg v else s.2 j := rfl
theorem g_AF {s : St} {k j : Nat} {i v : Int32} : gF (stA s k i v) j = gF s j := rfl
theorem g_FA {s : St} {k j : Nat} {v : Int32} : (stF s k v).2 j = s.2 j := rfl
theorem g_FF {s : St} {k j : Nat} {v : Int32} : gF (stF s k v) j = if j = k then v else gF s j := rfl
theorem g_CA {s : St} {k j : Nat} {f : Nat → Int32} : (stC s k f).2 j = if j = k then f else s.2 j := rfl
theorem g_CF {s : St} {k j : Nat} {f : Nat → Int32} : gF (stC s k f) j = gF s j := rfl
theorem g_A {s : St} {k : Nat} {i : Int32} : gA s k i = s.2 k i.toNatClampNeg := rfl
theorem st_ext {s t : St} (h1 : ∀ k, gF s k = gF t k) (h2 : ∀ k j, s.2 k j = t.2 k j) : s = t := Prod.ext (funext h1) (funext fun k => funext fun j => h2 k j)
theorem gn {s : St} {k i : Nat} (h : i < 2147483648) : gA s k (nI i) = s.2 k i := by rw [g_A, nI_clamp h]
theorem l_n (n : Nat) : (OfNat.ofNat n : Int32) = nI n := rfl
theorem upd_s {f : Nat → Int32} {k : Nat} {x : Int32} : upd f k x k = x := if_pos rfl
theorem upd_n {f : Nat → Int32} {k j : Nat} {x : Int32} (h : j ≠ k) : upd f k x j = f j := if_neg h
/-- truth as a number -/
noncomputable def bi (c : Prop) : Int32 := @ite _ c (Classical.propDecidable c) 1 0
theorem bi_t {c : Prop} (h : c) : bi c = 1 := if_pos h
theorem bi_f {c : Prop} (h : ¬ c) : bi c = 0 := if_neg h
theorem bi_0 {c : Prop} : (bi c = 0) = ¬ c := propext ⟨fun h hc => absurd ((bi_t hc).symm.trans h) (by decide), bi_f⟩
theorem bi_01 (c : Prop) : bi c = 0 ∨ bi c = 1 := by
  by_cases h : c
  · exact Or.inr (bi_t h)
  · exact Or.inl (bi_f h)
theorem nb_01 {v : Int32} (h : v = 0 ∨ v = 1) : narrow .boolean (.int v) = .int v := by rcases h with rfl | rfl <;> rfl
theorem nb_bi (c : Prop) : narrow .boolean (.int (bi c)) = .int (bi c) := nb_01 (bi_01 c)
theorem vb_01 {v : Int32} (h : v = 0 ∨ v = 1) : vp_nar .boolean v = v := by rcases h with rfl | rfl <;> rfl
theorem vb_cases (v : Int32) : vp_nar .boolean v = 0 ∨ vp_nar .boolean v = 1 := by
  have e : vp_nar .boolean v = v &&& 1 := rfl
  rw [e]
  obtain ⟨j, hj, e2⟩ := pk_andE v (m := 1) 1 (by decide)
  rw [e2]
  rcases (show j = 0 ∨ j = 1 by omega) with rfl | rfl
  · exact Or.inl rfl
  · exact Or.inr rfl
/-- compares of longs -/
theorem lg_lt (a b : Int64) : (lg_cmp a b < 0) = (a < b) := by
  apply propext
  unfold lg_cmp
  by_cases h1 : a > b
  · try dsimp only
    rw [if_pos h1]
    refine ⟨fun h => absurd h (by decide), fun h => ?_⟩
    rw [gt_iff_lt, Int64.lt_iff_toInt_lt] at h1
    rw [Int64.lt_iff_toInt_lt] at h
    omega
  · try dsimp only
    rw [if_neg h1]
    by_cases h2 : a = b
    · try dsimp only
      rw [if_pos h2]
      subst h2
      exact ⟨fun h => absurd h (by decide), fun h => absurd h h1⟩
    · try dsimp only
      rw [if_neg h2]
      refine ⟨fun _ => ?_, fun _ => by decide⟩
      rw [gt_iff_lt, Int64.lt_iff_toInt_lt] at h1
      rw [Int64.lt_iff_toInt_lt]
      have : a.toInt ≠ b.toInt := fun e => h2 (Int64.toInt_inj.mp e)
      omega
theorem lg_gt (a b : Int64) : (0 < lg_cmp a b) = (b < a) := by
  apply propext
  unfold lg_cmp
  by_cases h1 : a > b
  · try dsimp only
    rw [if_pos h1]
    exact ⟨fun _ => h1, fun _ => by decide⟩
  · try dsimp only
    rw [if_neg h1]
    by_cases h2 : a = b
    · try dsimp only
      rw [if_pos h2]
      exact ⟨fun h => absurd h (by decide), fun h => absurd h h1⟩
    · try dsimp only
      rw [if_neg h2]
      exact ⟨fun h => absurd h (by decide), fun h => absurd h h1⟩
theorem l64_lt (a b : Int32) : (a.toInt64 < b.toInt64) = (a < b) := by
  rw [Int64.lt_iff_toInt_lt, Int32.lt_iff_toInt_lt, Int32.toInt_toInt64, Int32.toInt_toInt64]
theorem vp_not {x : Int32} {n : Nat} : ¬ vp_in x n ↔ x.toInt < 0 ∨ (n : Int) ≤ x.toInt := by rw [vp_in_iff]; omega
theorem nI_i {n : Nat} (h : n < 2147483648) : (nI n).toInt = n := nI_toInt h
/-- in(v, 0, m): of an int -/
theorem e_in {a : Int32} {lo hi : Int64} {m : Nat} {s : St} {Q : Int32 → St → Prop} (hlo : lo = 0) (hhi : hi.toInt = (m : Int) - 1) (hm : m < 2147483648) : wX8_in a.toInt64 lo hi s Q = Q (bi (vp_in a m)) s := by
  subst hlo
  try dsimp only
  unfold wX8_in
  simp only [lg_lt, lg_gt]
  by_cases h : vp_in a m
  · try dsimp only
    rw [bi_t h]
    rw [vp_in_iff] at h
    try dsimp only
    rw [if_neg, if_neg]
    · rw [Int64.lt_iff_toInt_lt, Int32.toInt_toInt64, hhi]; omega
    · rw [Int64.lt_iff_toInt_lt, Int32.toInt_toInt64]; show ¬ a.toInt < 0; omega
  · try dsimp only
    rw [bi_f h]
    rw [vp_not] at h
    by_cases h1 : a.toInt < 0
    · try dsimp only
      rw [if_pos]
      rw [Int64.lt_iff_toInt_lt, Int32.toInt_toInt64]; exact h1
    · try dsimp only
      rw [if_neg, if_pos]
      · rw [Int64.lt_iff_toInt_lt, Int32.toInt_toInt64, hhi]; omega
      · rw [Int64.lt_iff_toInt_lt, Int32.toInt_toInt64]; exact h1
theorem e_within {a hi : Int32} {m : Nat} {s : St} {Q : Int32 → St → Prop} (hhi : hi.toInt = (m : Int) - 1) : wX7_isWithin a 0 hi s Q = Q (bi (vp_in a m)) s := by
  try dsimp only
  unfold wX7_isWithin
  by_cases h : vp_in a m
  · try dsimp only
    rw [bi_t h]
    rw [vp_in_iff] at h
    try dsimp only
    rw [if_neg, if_neg]
    · rw [Int32.lt_iff_toInt_lt, hhi]; omega
    · rw [Int32.lt_iff_toInt_lt]; show ¬ a.toInt < 0; omega
  · try dsimp only
    rw [bi_f h]
    rw [vp_not] at h
    by_cases h1 : a.toInt < 0
    · try dsimp only
      rw [if_pos]
      rw [Int32.lt_iff_toInt_lt]; exact h1
    · try dsimp only
      rw [if_neg, if_pos]
      · rw [Int32.lt_iff_toInt_lt, hhi]; omega
      · rw [Int32.lt_iff_toInt_lt]; exact h1
theorem e_dance {a : Int32} {s : St} {Q : Int32 → St → Prop} : wX7_isDance a s Q = Q (bi (vp_in a 24)) s := by
  try dsimp only
  unfold wX7_isDance
  try dsimp only
  rw [e_within (m := 24) (by decide)]
  exact propext ⟨fun h => h.2, fun h => ⟨nb_bi _, h⟩⟩
theorem e_there {a : Int32} {n : Nat} {s : St} {Q : Int32 → St → Prop} (hn : gF s 100 = nI n) (h16 : n ≤ 16) : wX2_isThere a s Q = Q (bi (vp_in a n)) s := by
  try dsimp only
  unfold wX2_isThere
  rw [hn]
  by_cases h : vp_in a n
  · try dsimp only
    rw [bi_t h]
    rw [vp_in_iff] at h
    try dsimp only
    rw [if_neg, if_neg]
    · rw [Int32.le_iff_toInt_le, nI_i (by omega)]; omega
    · rw [Int32.lt_iff_toInt_lt]; show ¬ a.toInt < 0; omega
  · try dsimp only
    rw [bi_f h]
    rw [vp_not] at h
    by_cases h1 : a.toInt < 0
    · try dsimp only
      rw [if_pos]
      rw [Int32.lt_iff_toInt_lt]; exact h1
    · try dsimp only
      rw [if_neg, if_pos]
      · rw [Int32.le_iff_toInt_le, nI_i (by omega)]; omega
      · rw [Int32.lt_iff_toInt_lt]; exact h1
theorem e_is {a : Int32} {n : Nat} {s : St} {Q : Int32 → St → Prop} (hn : gF s 3000 = nI n) (h16 : n ≤ 16) : wX8_is a s Q = Q (bi (vp_in a n)) s := by
  try dsimp only
  unfold wX8_is
  try dsimp only
  rw [e_in (m := n) rfl _ (by omega)]
  · exact propext ⟨fun h => h.2, fun h => ⟨nb_bi _, h⟩⟩
  · rw [hn, Int32.toInt_toInt64, fb_subI (by rw [nI_i (by omega)]; show _ ≤ (n : Int) - 1; omega) (by rw [nI_i (by omega)]; show (n : Int) - 1 < _; omega), nI_i (by omega)]
    rfl
