/-! a token, as a function of the tape; the class reads it -/
def dv (v : Nat → Nat) (p : Nat) : Nat → Nat
  | 0 => 0
  | k + 1 => 10 * dv v p k + (v (p + k) - 48)
theorem dv_s {v : Nat → Nat} {p k : Nat} : dv v p (k + 1) = 10 * dv v p k + (v (p + k) - 48) := rfl
theorem dv_lt {v : Nat → Nat} {p : Nat} : ∀ k, (∀ j, j < k → v (p + j) ≤ 57) → k ≤ 3 → dv v p k + 1 ≤ 10 ^ k := by
  intro k
  induction k with
  | zero => intro _ _; exact Nat.le_refl 1
  | succ k ih =>
    intro h hk
    have a := ih (fun j hj => h j (by omega)) (by omega)
    have b := h k (by omega)
    rw [dv_s, Nat.pow_succ]
    omega
/-- place, end, kind, value -/
def tP (v : Nat → Nat) (t i : Nat) : Nat := rn (isS v) (t - i) i
def tE (v : Nat → Nat) (t j : Nat) : Nat := if j = t then j else if isL v j then rn (isL v) (t - j) j else if isF v j then rn (isF v) (t - j) j else j + 1
noncomputable def tK (v : Nat → Nat) (t j : Nat) : Int32 := if j = t then 0 else if isL v j then (if nmV v j (tE v t j) = -4 then 4 else 1) else if isF v j then (if tE v t j - j ≤ 3 then 2 else 4) else if v j = 59 then 3 else 4
noncomputable def tV (v : Nat → Nat) (t j : Nat) : Int32 := if isL v j then nmV v j (tE v t j) else nI (dv v j (tE v t j - j))
theorem tP_le {v : Nat → Nat} {t i : Nat} (h : i ≤ t) : i ≤ tP v t i ∧ tP v t i ≤ t := by
  obtain ⟨a, b, -, -⟩ := rn_ok (isS v) (t - i) i
  unfold tP
  omega
theorem tE_le {v : Nat → Nat} {t j : Nat} (h : j ≤ t) : j ≤ tE v t j ∧ tE v t j ≤ t := by
  unfold tE
  by_cases z : j = t
  · try dsimp only
    rw [if_pos z]; omega
  · try dsimp only
    rw [if_neg z]
    by_cases y : isL v j = true
    · try dsimp only
      rw [if_pos y]
      obtain ⟨a, b, -, -⟩ := rn_ok (isL v) (t - j) j
      omega
    · try dsimp only
      rw [if_neg y]
      by_cases x : isF v j = true
      · try dsimp only
        rw [if_pos x]
        obtain ⟨a, b, -, -⟩ := rn_ok (isF v) (t - j) j
        omega
      · try dsimp only
        rw [if_neg x]; omega
theorem x_name0 {s : St} {t p : Nat} {v : Nat → Nat} {kk w : Int32} (hB : Byt s t v) {Q : St → Prop} : ∀ m i, i + m = t → wX5_readName_43 0 (tk s (rn (isL v) m i) kk p (-4)) Q → wX5_readName_0 (tk s i kk p w) Q := by
  intro m i hm hq P hP
  obtain ⟨t1, t2, t3⟩ := hB
  induction m generalizing i with
  | zero =>
    refine hP _ ?_
    try dsimp only
    unfold wX5_readName_0_b
    rw [tk1 t2, tk5, if_pos (by rw [nI_leI (by omega) (by omega)]; omega), tk_8]
    exact hq
  | succ m ih =>
    refine hP _ ?_
    try dsimp only
    unfold wX5_readName_0_b
    obtain ⟨v256, v8⟩ := t3 i (by omega)
    rw [tk1 t2, tk5, if_neg (by rw [nI_leI (by omega) (by omega)]; omega), e_letter (s := tk s i kk p w) (by omega) v256 v8]
    by_cases z : isL v i = true
    · try dsimp only
      rw [bi_t z, if_neg (by decide), tk5, nI_1, tk_5]
      rw [rn_y z] at hq
      exact ih (i + 1) (by omega) hq
    · try dsimp only
      rw [bi_f z, if_pos rfl, tk_8]
      rw [rn_n (bfalse z)] at hq
      exact hq
theorem x_num5 {s : St} {t p : Nat} {v : Nat → Nat} {kk : Int32} (hB : Byt s t v) {Q : St → Prop} : ∀ m i w, i + m = t → p ≤ i → (∀ k, p ≤ k → k < i → isF v k = true) → (i - p ≤ 3 → w = nI (dv v p (i - p))) → (∀ w', (rn (isF v) m i - p ≤ 3 → w' = nI (dv v p (rn (isF v) m i - p))) → Q (tk s (rn (isF v) m i) (if rn (isF v) m i - p ≤ 3 then 2 else 4) p w')) → wX5_readNumber_5 (tk s i kk p w) Q := by
  intro m i w hm hp hF hw hq P hP
  obtain ⟨t1, t2, t3⟩ := hB
  have fin : ∀ i w, i ≤ t → p ≤ i → (i - p ≤ 3 → w = nI (dv v p (i - p))) → (∀ w', (i - p ≤ 3 → w' = nI (dv v p (i - p))) → Q (tk s i (if i - p ≤ 3 then 2 else 4) p w')) → wX5_readNumber_64 (tk s i kk p w) Q := by
    intro i w hi hp hw hq
    try dsimp only
    unfold wX5_readNumber_64
    have q := hq w hw
    rw [tk5, tk7, pk_sub hp, tk_6, tk_6]
    by_cases z : i - p ≤ 3
    · try dsimp only
      rw [if_pos z] at q
      try dsimp only
      rw [if_pos (show nI (i - p) ≤ (3 : Int32) from nI_le (b := 3) z (by omega))]; exact q
    · try dsimp only
      rw [if_neg z] at q
      try dsimp only
      rw [if_neg (show ¬ nI (i - p) ≤ (3 : Int32) from nI_ge (a := 3) (by omega) (by omega))]; exact q
  induction m generalizing i w with
  | zero =>
    refine hP _ ?_
    try dsimp only
    unfold wX5_readNumber_5_b
    rw [tk1 t2, tk5, if_pos (by rw [nI_leI (by omega) (by omega)]; omega)]
    exact fin i w (by omega) hp hw hq
  | succ m ih =>
    refine hP _ ?_
    try dsimp only
    unfold wX5_readNumber_5_b
    obtain ⟨v256, v8⟩ := t3 i (by omega)
    rw [tk1 t2, tk5, if_neg (by rw [nI_leI (by omega) (by omega)]; omega), e_figure (s := tk s i kk p w) (by omega) v256 v8]
    by_cases z : isF v i = true
    · have e8 : gA (tk s i kk p w) 8 (nI i) = sb (v i) := by rw [gn (by omega)]; exact v8
      try dsimp only
      rw [bi_t z, if_neg (by decide), tk5, tk8, e8, tk_8, tk5, nI_1, tk_5]
      refine ⟨vin (by omega) (by omega), ?_⟩
      rw [rn_y z] at hq
      refine ih (i + 1) _ (by omega) (by omega) (fun k h1 h2 => ?_) (fun h3 => ?_) hq
      · by_cases e : k = i
        · rw [e]; exact z
        · exact hF k h1 (by omega)
      · have zz := isF_iff.mp z
        have e2 : sb (v i) = nI (v i) := (sb_eq v256 (by omega)).mpr rfl
        rw [e2, hw (by omega), show i + 1 - p = (i - p) + 1 by omega, dv_s, show p + (i - p) = i by omega, l_n 10, pk_mul, nI_add, l_n 48, pk_sub (by omega)]
        congr 1
        omega
    · try dsimp only
      rw [bi_f z, if_pos rfl]
      rw [rn_n (bfalse z)] at hq
      exact fin i w (by omega) hp hw hq
theorem x_tok {s : St} {t i : Nat} {v : Nat → Nat} (hB : Byt s t v) (hi : i ≤ t) {Q : St → Prop} (hq : ∀ w', (tK v t (tP v t i) = 1 ∨ tK v t (tP v t i) = 2 → w' = tV v t (tP v t i)) → Q (tk s (if tP v t i = t then t else tE v t (tP v t i)) (tK v t (tP v t i)) (tP v t i) w')) {k w : Int32} {p : Nat} : wX5_readToken (tk s i k p w) Q := by
  have hB' := hB
  obtain ⟨t1, t2, t3⟩ := hB'
  -- behind the spaces
  have l38 : ∀ j, tP v t i = j → wX5_readToken_38 (tk s j k p w) Q := by
    intro j hj
    have jt := tP_le (v := v) hi
    rw [hj] at hq jt
    try dsimp only
    unfold wX5_readToken_38
    rw [tk5, tk_7, tk5, tk1 t2, tk_6]
    by_cases z : j = t
    · try dsimp only
      rw [if_neg (show ¬ nI j < nI t from nI_nlt (by omega) (by omega))]
      have q := hq w (fun h => by unfold tK at h; rw [if_pos z] at h; exact absurd h (by decide))
      have eK : tK v t j = 0 := by unfold tK; rw [if_pos z]
      rw [eK, if_pos z, ← z] at q
      exact q
    · obtain ⟨v256, v8⟩ := t3 j (by omega)
      try dsimp only
      rw [if_pos (show nI j < nI t from nI_lt (by omega) (by omega)), e_letter (s := tk s j k j w) (by omega) v256 v8]
      try dsimp only
      rw [if_neg z] at hq
      by_cases y : isL v j = true
      · try dsimp only
        rw [bi_t y, if_neg (by decide)]
        have eE : tE v t j = rn (isL v) (t - j) j := by unfold tE; rw [if_neg z, if_pos y]
        obtain ⟨a, b, -, -⟩ := rn_ok (isL v) (t - j) j
        try dsimp only
        unfold wX5_readName
        refine x_name0 hB (t - j) j (by omega) ?_
        rw [← eE] at a b ⊢
        refine x_name43 hB (N := 4) a (by omega) rfl ?_ 4 0 (by omega)
        have eK : tK v t j = if nmV v j (tE v t j) = -4 then 4 else 1 := by unfold tK; rw [if_neg z, if_pos y]
        have eV : tV v t j = nmV v j (tE v t j) := by unfold tV; rw [if_pos y]
        have q := hq (nmV v j (tE v t j)) (fun _ => eV.symm)
        rw [eK] at q
        exact q
      · try dsimp only
        rw [bi_f y, if_pos rfl, tk5, e_figure (s := tk s j k j w) (by omega) v256 v8]
        by_cases x : isF v j = true
        · try dsimp only
          rw [bi_t x, if_neg (by decide)]
          have eE : tE v t j = rn (isF v) (t - j) j := by unfold tE; rw [if_neg z, if_neg y, if_pos x]
          try dsimp only
          unfold wX5_readNumber
          rw [tk_8]
          refine x_num5 hB (t - j) j 0 (by omega) (Nat.le_refl j) (fun k h1 h2 => absurd h2 (by omega)) (fun _ => by rw [Nat.sub_self]; rfl) (fun w' hw' => ?_)
          rw [← eE] at hw' ⊢
          have eK : tK v t j = if tE v t j - j ≤ 3 then 2 else 4 := by unfold tK; rw [if_neg z, if_neg y, if_pos x]
          have eV : tV v t j = nI (dv v j (tE v t j - j)) := by unfold tV; rw [if_neg y]
          have q := hq w' (fun h => by
            rw [eK] at h
            rw [eV]
            refine hw' (Classical.byContradiction (fun c => ?_))
            try dsimp only
            rw [if_neg c] at h
            exact absurd h (by decide))
          rw [eK] at q
          exact q
        · have e8 : gA (tk s j k j w) 8 (nI j) = sb (v j) := by rw [gn (by omega)]; exact v8
          try dsimp only
          rw [bi_f x, if_pos rfl, tk5, e8]
          refine ⟨vin (by omega) (by omega), ?_⟩
          have eE : tE v t j = j + 1 := by unfold tE; rw [if_neg z, if_neg y, if_neg x]
          try dsimp only
          unfold wX5_readToken_121
          rw [tk_6, tk_6, tk5, tk5, nI_1, tk_5, tk_5]
          by_cases u : v j = 59
          · try dsimp only
            rw [if_pos (show sb (v j) = (59 : Int32) from (sb_eq v256 (c := 59) (by omega)).mpr u)]
            have eK : tK v t j = 3 := by unfold tK; rw [if_neg z, if_neg y, if_neg x, if_pos u]
            have q := hq w (fun h => by rw [eK] at h; exact absurd h (by decide))
            rw [eK, eE] at q
            exact q
          · try dsimp only
            rw [if_neg (show ¬ sb (v j) = (59 : Int32) from fun h => u ((sb_eq v256 (c := 59) (by omega)).mp h))]
            have eK : tK v t j = 4 := by unfold tK; rw [if_neg z, if_neg y, if_neg x, if_neg u]
            have q := hq w (fun h => by rw [eK] at h; exact absurd h (by decide))
            rw [eK, eE] at q
            exact q
  have l0 : ∀ m i', i' + m = t → rn (isS v) m i' = tP v t i → wX5_readToken_0 (tk s i' k p w) Q := by
    intro m i' hm he P hP
    induction m generalizing i' with
    | zero =>
      refine hP _ ?_
      try dsimp only
      unfold wX5_readToken_0_b
      rw [tk1 t2, tk5, if_pos (by rw [nI_leI (by omega) (by omega)]; omega)]
      exact l38 i' he.symm
    | succ m ih =>
      refine hP _ ?_
      try dsimp only
      unfold wX5_readToken_0_b
      obtain ⟨v256, v8⟩ := t3 i' (by omega)
      have e8 : gA (tk s i' k p w) 8 (nI i') = sb (v i') := by rw [gn (by omega)]; exact v8
      rw [tk1 t2, tk5, if_neg (by rw [nI_leI (by omega) (by omega)]; omega), e8, nI_1, tk_5]
      refine ⟨vin (by omega) (by omega), ?_⟩
      by_cases z : isS v i' = true
      · try dsimp only
        rw [if_pos (show sb (v i') = (32 : Int32) from (sb_eq v256 (c := 32) (by omega)).mpr (isS_iff.mp z))]
        rw [rn_y z] at he
        exact ih (i' + 1) (by omega) he
      · try dsimp only
        rw [if_neg (show ¬ sb (v i') = (32 : Int32) from fun h => z (isS_iff.mpr ((sb_eq v256 (c := 32) (by omega)).mp h)))]
        rw [rn_n (bfalse z)] at he
        exact l38 i' he.symm
  exact l0 (t - i) i (by omega) rfl
