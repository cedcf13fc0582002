/-! the model's next -/
theorem cd_l (k : Nat) (hk : k < 4) : cd k < 2 ^ 63 := by
  have : ∀ k : Fin 4, cd k.val < 2 ^ 63 := by decide
  exact this ⟨k, hk⟩
theorem y_nameOf {v : Nat → Nat} {p m : Nat} (hm : m ≤ 7) (h : ∀ j, j < m → 97 ≤ v (p + j) ∧ v (p + j) ≤ 122) {s : St} {Q : Int32 → St → Prop} (hq : Q (nmV v p (p + m)) s) : wX8_nameOf (lN (lv v p m)) s Q := by
  have b : lv v p m < 2 ^ 63 := by
    have a := lvv_lt (v := v) (p := p) m (fun j hj => by have := h j hj; omega)
    have c : 256 ^ m ≤ 256 ^ 7 := Nat.pow_le_pow_right (by omega) hm
    have d : (256 : Nat) ^ 7 < 2 ^ 63 := by decide
    omega
  have key : ∀ k, k < 4 → (lN (lv v p m) = lN (cd k) ↔ nmIs v p (p + m) k) := fun k hk => (fb_lN_inj b (cd_l k hk)).trans (nm_iff hk hm h)
  have dis : ∀ k k', k < 4 → k' < 4 → nmIs v p (p + m) k → nmIs v p (p + m) k' → k = k' := fun k k' hk hk' a a' => by
    have e1 := (nm_iff hk hm h).mpr a
    have e2 := (nm_iff hk' hm h).mpr a'
    have : ∀ a b : Fin 4, cd a.val = cd b.val → a = b := by decide
    have := this ⟨k, hk⟩ ⟨k', hk'⟩ (e1.symm.trans e2)
    exact congrArg Fin.val this
  try dsimp only
  unfold wX8_nameOf
  have k0 : lg_cmp (lN (lv v p m)) 1885432178 = 0 ↔ nmIs v p (p + m) 0 := by rw [lg_0]; exact key 0 (by omega)
  have k1 : lg_cmp (lN (lv v p m)) 1918987883 = 0 ↔ nmIs v p (p + m) 1 := by rw [lg_0]; exact key 1 (by omega)
  have k2 : lg_cmp (lN (lv v p m)) 7499639 = 0 ↔ nmIs v p (p + m) 2 := by rw [lg_0]; exact key 2 (by omega)
  have k3 : lg_cmp (lN (lv v p m)) 126948234782066 = 0 ↔ nmIs v p (p + m) 3 := by rw [lg_0]; exact key 3 (by omega)
  have eV : nmV v p (p + m) = pick (nmIs v p (p + m) 3) (nI 3) (pick (nmIs v p (p + m) 2) (nI 2) (pick (nmIs v p (p + m) 1) (nI 1) (pick (nmIs v p (p + m) 0) (nI 0) (-4)))) := rfl
  rw [eV] at hq
  by_cases h0 : nmIs v p (p + m) 0
  · try dsimp only
    rw [if_pos (k0.mpr h0)]
    rw [pick_f (fun z => absurd (dis 3 0 (by omega) (by omega) z h0) (by decide)), pick_f (fun z => absurd (dis 2 0 (by omega) (by omega) z h0) (by decide)), pick_f (fun z => absurd (dis 1 0 (by omega) (by omega) z h0) (by decide)), pick_t h0] at hq
    exact hq
  · try dsimp only
    rw [if_neg (fun z => h0 (k0.mp z))]
    by_cases h1 : nmIs v p (p + m) 1
    · try dsimp only
      rw [if_pos (k1.mpr h1)]
      rw [pick_f (fun z => absurd (dis 3 1 (by omega) (by omega) z h1) (by decide)), pick_f (fun z => absurd (dis 2 1 (by omega) (by omega) z h1) (by decide)), pick_t h1] at hq
      exact hq
    · try dsimp only
      rw [if_neg (fun z => h1 (k1.mp z))]
      by_cases h2 : nmIs v p (p + m) 2
      · try dsimp only
        rw [if_pos (k2.mpr h2)]
        rw [pick_f (fun z => absurd (dis 3 2 (by omega) (by omega) z h2) (by decide)), pick_t h2] at hq
        exact hq
      · try dsimp only
        rw [if_neg (fun z => h2 (k2.mp z))]
        by_cases h3 : nmIs v p (p + m) 3
        · try dsimp only
          rw [if_pos (k3.mpr h3)]
          rw [pick_t h3] at hq
          exact hq
        · try dsimp only
          rw [if_neg (fun z => h3 (k3.mp z))]
          rw [pick_f h3, pick_f h2, pick_f h1, pick_f h0] at hq
          exact hq
theorem nm_long {v : Nat → Nat} {p e : Nat} (h : p + 7 ≤ e) : nmV v p e = -4 := by
  have no : ∀ k, k < 4 → ¬ nmIs v p e k := fun k hk z => by
    have l6 : ln k ≤ 6 := ln_le ⟨k, hk⟩
    have := z.1
    omega
  show pick (nmIs v p e 3) (nI 3) (pick (nmIs v p e 2) (nI 2) (pick (nmIs v p e 1) (nI 1) (pick (nmIs v p e 0) (nI 0) (-4)))) = -4
  rw [pick_f (no 3 (by omega)), pick_f (no 2 (by omega)), pick_f (no 1 (by omega)), pick_f (no 0 (by omega))]
theorem y_fails {s : St} {i p : Nat} {k w y c : Int32} {Q : St → Prop} (hq : Q (tm s i p k w c (nI p))) : wX8_fails c (tm s i p k w 0 y) Q := by
  try dsimp only
  unfold wX8_fails
  rw [tm7, if_pos rfl, tm_7, tm4, tm_8]
  exact hq
theorem y_177 {s : St} {i p : Nat} {k w y r : Int32} {Q : St → Prop} (h1 : r = -4 → ∀ w', Q (tm s i p k w' 1 (nI p))) (h2 : ¬ r = -4 → Q (tm s i p k r 0 y)) : wX8_next_177 r (tm s i p k w 0 y) Q := by
  try dsimp only
  unfold wX8_next_177
  rw [tm_6, tm6]
  by_cases z : r = -4
  · try dsimp only
    rw [if_pos z]; exact y_fails (h1 z r)
  · try dsimp only
    rw [if_neg z]; exact h2 z
theorem y_name {s : St} {t p : Nat} {v : Nat → Nat} {k w y : Int32} (hB : Byt8 s t v) {Q : St → Prop} : ∀ m i a2, i + m = t → p ≤ i → (∀ q, p ≤ q → q < i → isL v q = true) → (i - p ≤ 7 → a2 = lN (lv v p (i - p))) → (nmV v p (rn (isL v) m i) = -4 → ∀ w', Q (tm s (rn (isL v) m i) p 1 w' 1 (nI p))) → (¬ nmV v p (rn (isL v) m i) = -4 → Q (tm s (rn (isL v) m i) p 1 (nmV v p (rn (isL v) m i)) 0 y)) → wX8_next_81 a2 (tm s i p k w 0 y) Q := by
  have hB' := hB
  obtain ⟨t1, t2, t3⟩ := hB'
  intro m i a2 hm hp hL ha h1 h2 P hP
  have fin : ∀ i a2, i ≤ t → p ≤ i → (∀ q, p ≤ q → q < i → isL v q = true) → (i - p ≤ 7 → a2 = lN (lv v p (i - p))) → (nmV v p i = -4 → ∀ w', Q (tm s i p 1 w' 1 (nI p))) → (¬ nmV v p i = -4 → Q (tm s i p 1 (nmV v p i) 0 y)) → (if ((gF (stF (tm s i p k w 0 y) 3015 (1 : Int32)) 3013) - (gF (stF (tm s i p k w 0 y) 3015 (1 : Int32)) 3014)) ≤ (7 : Int32) then wX8_nameOf a2 (stF (tm s i p k w 0 y) 3015 (1 : Int32)) (fun r23 s24 => wX8_next_177 r23 s24 Q) else wX8_next_177 (-4 : Int32) (stF (tm s i p k w 0 y) 3015 (1 : Int32)) Q) := by
    intro i a2 hi hp hL ha h1 h2
    rw [tm_5, tm3, tm4, pk_sub hp]
    by_cases z : i - p ≤ 7
    · try dsimp only
      rw [if_pos (show nI (i - p) ≤ (7 : Int32) from nI_le (b := 7) z (by omega)), ha z]
      refine y_nameOf z (fun j hj => isL_iff.mp (hL (p + j) (by omega) (by omega))) ?_
      rw [show p + (i - p) = i by omega]
      exact y_177 h1 h2
    · try dsimp only
      rw [if_neg (show ¬ nI (i - p) ≤ (7 : Int32) from nI_ge (a := 7) (by omega) (by omega))]
      exact y_177 (fun _ => h1 (nm_long (by omega))) (fun c => absurd rfl c)
  induction m generalizing i a2 with
  | zero =>
    refine hP _ _ ?_
    try dsimp only
    unfold wX8_next_81_b
    have eb : ¬ i < t := by omega
    rw [tm3, e_byte hB (by omega)]
    show wX8_in (byI v t i).toInt64 97 122 _ _
    try dsimp only
    rw [e_inL2 (fun h => absurd h eb), bi_f (fun h => eb h.1), if_pos rfl]
    exact fin i a2 (by omega) hp hL ha h1 h2
  | succ m ih =>
    refine hP _ _ ?_
    try dsimp only
    unfold wX8_next_81_b
    have eb : i < t := by omega
    obtain ⟨v256, v38⟩ := t3 i eb
    rw [tm3, e_byte hB (by omega)]
    show wX8_in (byI v t i).toInt64 97 122 _ _
    try dsimp only
    rw [e_inL2 (fun _ => v256)]
    by_cases z : isL v i = true
    · try dsimp only
      rw [bi_t ⟨eb, z⟩, if_neg (by decide), tm3, tm4, pk_sub hp]
      rw [rn_y z] at h1 h2
      have hL' : ∀ q, p ≤ q → q < i + 1 → isL v q = true := fun q h1 h2 => by
        by_cases e : q = i
        · rw [e]; exact z
        · exact hL q h1 (by omega)
      by_cases c : 7 ≤ i - p
      · try dsimp only
        rw [if_pos (show (7 : Int32) ≤ nI (i - p) from nI_le (a := 7) c (by omega))]
        try dsimp only
        unfold wX8_next_134
        rw [tm3, nI_1, tm_3]
        exact ih (i + 1) 0 (by omega) (by omega) hL' (fun h => absurd h (by omega)) h1 h2
      · try dsimp only
        rw [if_neg (show ¬ (7 : Int32) ≤ nI (i - p) from nI_ge (b := 7) (by omega) (by omega)), e_byte hB (by omega), if_pos eb]
        try dsimp only
        unfold wX8_next_134
        rw [tm3, nI_1, tm_3]
        refine ih (i + 1) _ (by omega) (by omega) hL' (fun _ => ?_) h1 h2
        have bnd : lv v p (i - p) < 2 ^ 48 := by
          have a := lvv_lt (v := v) (p := p) (i - p) (fun j hj => by have := isL_iff.mp (hL (p + j) (by omega) (by omega)); omega)
          have c : 256 ^ (i - p) ≤ 256 ^ 6 := Nat.pow_le_pow_right (by omega) (by omega)
          have d : (256 : Nat) ^ 6 = 2 ^ 48 := by decide
          omega
        rw [ha (by omega), i64_lN v256, show (8 : Int32).toInt64 = (nI 8).toInt64 from rfl, wb_shl _ (by omega), show i + 1 - p = (i - p) + 1 by omega, lv_s, show p + (i - p) = i by omega]
        exact g_or (k := 8) (p := 256) (by decide) v256 (by omega)
    · try dsimp only
      rw [bi_f (fun h => z h.2), if_pos rfl]
      rw [rn_n (bfalse z)] at h1 h2
      exact fin i a2 (by omega) hp hL ha h1 h2
theorem y_num {s : St} {t p : Nat} {v : Nat → Nat} {k y : Int32} (hB : Byt8 s t v) {Q : St → Prop} : ∀ m i w, i + m = t → p ≤ i → (∀ q, p ≤ q → q < i → isF v q = true) → (i - p ≤ 3 → w = nI (dv v p (i - p))) → (rn (isF v) m i - p ≤ 3 → Q (tm s (rn (isF v) m i) p 2 (nI (dv v p (rn (isF v) m i - p))) 0 y)) → (¬ rn (isF v) m i - p ≤ 3 → ∀ w', Q (tm s (rn (isF v) m i) p 2 w' 1 (nI p))) → wX8_next_216 (tm s i p k w 0 y) Q := by
  have hB' := hB
  obtain ⟨t1, t2, t3⟩ := hB'
  intro m i w hm hp hF hw h1 h2 P hP
  have fin : ∀ i w, i ≤ t → p ≤ i → (i - p ≤ 3 → w = nI (dv v p (i - p))) → (i - p ≤ 3 → Q (tm s i p 2 (nI (dv v p (i - p))) 0 y)) → (¬ i - p ≤ 3 → ∀ w', Q (tm s i p 2 w' 1 (nI p))) → (if ((gF (stF (tm s i p k w 0 y) 3015 (2 : Int32)) 3013) - (gF (stF (tm s i p k w 0 y) 3015 (2 : Int32)) 3014)) ≤ (3 : Int32) then Q (stF (tm s i p k w 0 y) 3015 (2 : Int32)) else wX8_fails (1 : Int32) (stF (tm s i p k w 0 y) 3015 (2 : Int32)) (fun s16 => Q s16)) := by
    intro i w hi hp hw h1 h2
    rw [tm_5, tm3, tm4, pk_sub hp]
    by_cases z : i - p ≤ 3
    · try dsimp only
      rw [if_pos (show nI (i - p) ≤ (3 : Int32) from nI_le (b := 3) z (by omega)), hw z]
      exact h1 z
    · try dsimp only
      rw [if_neg (show ¬ nI (i - p) ≤ (3 : Int32) from nI_ge (a := 3) (by omega) (by omega))]
      exact y_fails (h2 z w)
  induction m generalizing i w with
  | zero =>
    refine hP _ ?_
    try dsimp only
    unfold wX8_next_216_b
    have eb : ¬ i < t := by omega
    rw [tm3, e_byte hB (by omega)]
    show wX8_in (byI v t i).toInt64 48 57 _ _
    try dsimp only
    rw [e_inF2 (fun h => absurd h eb), bi_f (fun h => eb h.1), if_pos rfl]
    exact fin i w (by omega) hp hw h1 h2
  | succ m ih =>
    refine hP _ ?_
    try dsimp only
    unfold wX8_next_216_b
    have eb : i < t := by omega
    obtain ⟨v256, v38⟩ := t3 i eb
    rw [tm3, e_byte hB (by omega)]
    show wX8_in (byI v t i).toInt64 48 57 _ _
    try dsimp only
    rw [e_inF2 (fun _ => v256)]
    by_cases z : isF v i = true
    · try dsimp only
      rw [bi_t ⟨eb, z⟩, if_neg (by decide), tm3, tm4, pk_sub hp, tm6]
      rw [rn_y z] at h1 h2
      have hF' : ∀ q, p ≤ q → q < i + 1 → isF v q = true := fun q h1 h2 => by
        by_cases e : q = i
        · rw [e]; exact z
        · exact hF q h1 (by omega)
      by_cases c : 3 ≤ i - p
      · try dsimp only
        rw [if_pos (show (3 : Int32) ≤ nI (i - p) from nI_le (a := 3) c (by omega))]
        try dsimp only
        unfold wX8_next_277
        rw [tm_6, tm3, nI_1, tm_3]
        exact ih (i + 1) w (by omega) (by omega) hF' (fun h => absurd h (by omega)) h1 h2
      · try dsimp only
        rw [if_neg (show ¬ (3 : Int32) ≤ nI (i - p) from nI_ge (b := 3) (by omega) (by omega)), e_byte hB (by omega), if_pos eb]
        try dsimp only
        unfold wX8_next_277
        rw [tm_6, tm3, nI_1, tm_3]
        refine ih (i + 1) _ (by omega) (by omega) hF' (fun _ => ?_) h1 h2
        have zz := isF_iff.mp z
        rw [hw (by omega), show i + 1 - p = (i - p) + 1 by omega, dv_s, show p + (i - p) = i by omega, l_n 10, pk_mul, nI_add, l_n 48, pk_sub (by omega)]
        congr 1
        omega
    · try dsimp only
      rw [bi_f (fun h => z h.2), if_pos rfl]
      rw [rn_n (bfalse z)] at h1 h2
      exact fin i w (by omega) hp hw h1 h2
theorem y_tok {s : St} {t i : Nat} {v : Nat → Nat} (hB : Byt8 s t v) (hi : i ≤ t) {y : Int32} {Q : St → Prop} (h4 : tK v t (tP v t i) = 4 → ∀ e k' w', Q (tm s e (tP v t i) k' w' 1 (nI (tP v t i)))) (hq : ¬ tK v t (tP v t i) = 4 → ∀ w', (tK v t (tP v t i) = 1 ∨ tK v t (tP v t i) = 2 → w' = tV v t (tP v t i)) → Q (tm s (tE v t (tP v t i)) (tP v t i) (tK v t (tP v t i)) w' 0 y)) {k w : Int32} {p : Nat} : wX8_next (tm s i p k w 0 y) Q := by
  have hB' := hB
  obtain ⟨t1, t2, t3⟩ := hB'
  try dsimp only
  unfold wX8_next
  rw [tm7, if_pos (show (0 : Int32) ≤ 0 by decide)]
  -- behind the spaces
  have l38 : ∀ j, tP v t i = j → (wX8_byteAt (gF (stF (tm s j p k w 0 y) 3014 (gF (tm s j p k w 0 y) 3013)) 3013) (stF (tm s j p k w 0 y) 3014 (gF (tm s j p k w 0 y) 3013)) (fun r3 s4 => (if r3 = (-4 : Int32) then Q (stF s4 3015 (0 : Int32)) else wX8_in ((r3).toInt64) (97 : Int64) (122 : Int64) s4 (fun r5 s6 => (if r5 = 0 then wX8_in ((r3).toInt64) (48 : Int64) (57 : Int64) s6 (fun r7 s8 => (if r7 = 0 then (if r3 = (59 : Int32) then Q (stF (stF s8 3013 ((gF s8 3013) + (1 : Int32))) 3015 (3 : Int32)) else wX8_fails (1 : Int32) s8 (fun s10 => Q s10)) else wX8_next_216 (stF s8 3016 (0 : Int32)) Q)) else wX8_next_81 (0 : Int64) s6 Q))))) := by
    intro j hj
    have jt := tP_le (v := v) hi
    rw [hj] at hq h4 jt
    rw [tm3, tm_4, tm3, e_byte hB (by omega)]
    show (if byI v t j = -4 then _ else wX8_in (byI v t j).toInt64 97 122 _ (fun r5 s6 => if r5 = 0 then wX8_in (byI v t j).toInt64 48 57 s6 (fun r7 s8 => if r7 = 0 then (if byI v t j = 59 then _ else _) else _) else _))
    by_cases z : j = t
    · have eK : tK v t j = 0 := by unfold tK; rw [if_pos z]
      have eE : tE v t j = j := by unfold tE; rw [if_pos z]
      try dsimp only
      rw [if_pos ((byI_no (fun h => absurd h (by omega))).mpr (by omega)), tm_5]
      have q := hq (by rw [eK]; decide) w (fun h => by rw [eK] at h; exact absurd h (by decide))
      rw [eK, eE] at q
      exact q
    · have jl : j < t := by omega
      obtain ⟨v256, v38⟩ := t3 j jl
      try dsimp only
      rw [if_neg (fun h => (byI_no (fun _ => v256)).mp h jl), e_inL2 (fun _ => v256)]
      by_cases a : isL v j = true
      · have eE : tE v t j = rn (isL v) (t - j) j := by unfold tE; rw [if_neg z, if_pos a]
        have eK : tK v t j = if nmV v j (tE v t j) = -4 then 4 else 1 := by unfold tK; rw [if_neg z, if_pos a]
        have eV : tV v t j = nmV v j (tE v t j) := by unfold tV; rw [if_pos a]
        try dsimp only
        rw [bi_t ⟨jl, a⟩, if_neg (by decide)]
        refine y_name hB (t - j) j 0 (by omega) (Nat.le_refl j) (fun q h1 h2 => absurd h2 (by omega)) (fun _ => by rw [Nat.sub_self]; rfl) (fun h w' => ?_) (fun h => ?_)
        · rw [← eE] at h ⊢
          exact h4 (by rw [eK, if_pos h]) _ _ _
        · rw [← eE] at h ⊢
          try dsimp only
          rw [if_neg h] at eK
          have q := hq (by rw [eK]; decide) (nmV v j (tE v t j)) (fun _ => eV.symm)
          rw [eK] at q
          exact q
      · try dsimp only
        rw [bi_f (fun h => a h.2), if_pos rfl, e_inF2 (fun _ => v256)]
        by_cases b : isF v j = true
        · have eE : tE v t j = rn (isF v) (t - j) j := by unfold tE; rw [if_neg z, if_neg a, if_pos b]
          have eK : tK v t j = if tE v t j - j ≤ 3 then 2 else 4 := by unfold tK; rw [if_neg z, if_neg a, if_pos b]
          have eV : tV v t j = nI (dv v j (tE v t j - j)) := by unfold tV; rw [if_neg a]
          try dsimp only
          rw [bi_t ⟨jl, b⟩, if_neg (by decide), tm_6]
          refine y_num hB (t - j) j 0 (by omega) (Nat.le_refl j) (fun q h1 h2 => absurd h2 (by omega)) (fun _ => by rw [Nat.sub_self]; rfl) (fun h => ?_) (fun h w' => ?_)
          · rw [← eE] at h ⊢
            try dsimp only
            rw [if_pos h] at eK
            have q := hq (by rw [eK]; decide) (nI (dv v j (tE v t j - j))) (fun _ => eV.symm)
            rw [eK] at q
            exact q
          · rw [← eE] at h ⊢
            exact h4 (by rw [eK, if_neg h]) _ _ _
        · have eE : tE v t j = j + 1 := by unfold tE; rw [if_neg z, if_neg a, if_neg b]
          try dsimp only
          rw [bi_f (fun h => b h.2), if_pos rfl]
          by_cases u : v j = 59
          · have eK : tK v t j = 3 := by unfold tK; rw [if_neg z, if_neg a, if_neg b, if_pos u]
            try dsimp only
            rw [if_pos (show byI v t j = 59 from (byI_eq (c := 59) (fun _ => v256) (by omega)).mpr ⟨jl, u⟩), tm3, nI_1, tm_3, tm_5]
            have q := hq (by rw [eK]; decide) w (fun h => by rw [eK] at h; exact absurd h (by decide))
            rw [eK, eE] at q
            exact q
          · have eK : tK v t j = 4 := by unfold tK; rw [if_neg z, if_neg a, if_neg b, if_neg u]
            try dsimp only
            rw [if_neg (show ¬ byI v t j = 59 from fun h => u ((byI_eq (c := 59) (fun _ => v256) (by omega)).mp h).2)]
            exact y_fails (h4 eK _ _ _)
  have l0 : ∀ m i', i' + m = t → rn (isS v) m i' = tP v t i → wX8_next_8 (tm s i' p k w 0 y) Q := by
    intro m i' hm he P hP
    induction m generalizing i' with
    | zero =>
      refine hP _ ?_
      try dsimp only
      unfold wX8_next_8_b
      rw [tm3, e_byte hB (by omega)]
      show (if byI v t i' = 32 then _ else _)
      try dsimp only
      rw [if_neg (show ¬ byI v t i' = 32 from fun h => absurd ((byI_eq (c := 32) (fun h => absurd h (by omega)) (by omega)).mp h).1 (by omega))]
      exact l38 i' he.symm
    | succ m ih =>
      refine hP _ ?_
      try dsimp only
      unfold wX8_next_8_b
      obtain ⟨v256, v38⟩ := t3 i' (by omega)
      rw [tm3, e_byte hB (by omega)]
      show (if byI v t i' = 32 then _ else _)
      by_cases z : isS v i' = true
      · try dsimp only
        rw [if_pos (show byI v t i' = 32 from (byI_eq (c := 32) (fun _ => v256) (by omega)).mpr ⟨by omega, isS_iff.mp z⟩), tm3, nI_1, tm_3]
        rw [rn_y z] at he
        exact ih (i' + 1) (by omega) he
      · try dsimp only
        rw [if_neg (show ¬ byI v t i' = 32 from fun h => z (isS_iff.mpr ((byI_eq (c := 32) (fun _ => v256) (by omega)).mp h).2))]
        rw [rn_n (bfalse z)] at he
        exact l38 i' he.symm
  exact l0 (t - i) i (by omega) rfl
