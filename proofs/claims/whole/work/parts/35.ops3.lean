/-! feud, wish, person, sheets -/
theorem gC {s : St} {k i : Nat} {f : Nat → Int32} (h : i < 2147483648) : gA (stC s k f) k (nI i) = f i := by rw [gn h, g_CA, if_pos rfl]
theorem e_put0 {i j : Nat} {s : St} {m : Nat → Nat} {Q : St → Prop} (m1 : ∀ i, i < 16 → s.2 6 i = nI (m i)) (hi : i < 16) (hj : j < 16) (hij : i ≠ j) : wX2_putAtFeud (nI i) (nI j) 0 s Q = Q (stC s 6 (upd (upd (s.2 6) i (nI (clr (m i) j))) j (nI (clr (m j) i)))) := by
  try dsimp only
  unfold wX2_putAtFeud
  have e1 : gA s 6 (nI i) = nI (m i) := by rw [gn (by omega), m1 i hi]
  have e2 : ∀ v, gA (stA s 6 (nI i) v) 6 (nI j) = nI (m j) := by
    intro v
    try dsimp only
    rw [gn (by omega), g_AA, if_pos rfl, cl (by omega), upd_n (Ne.symm hij), m1 j hj]
  try dsimp only
  rw [if_pos rfl, e1, e2, bit_clr hj, bit_clr hi, st_AA, cl (by omega), cl (by omega)]
  have v1 := vin (n := 16) hi (by omega)
  have v2 := vin (n := 16) hj (by omega)
  exact propext ⟨fun z => z.2.2.2.2, fun z => ⟨v1, v1, v2, v2, z⟩⟩
theorem e_put1 {i j : Nat} {s : St} {m : Nat → Nat} {Q : St → Prop} (m1 : ∀ i, i < 16 → s.2 6 i = nI (m i)) (hi : i < 16) (hj : j < 16) (hij : i ≠ j) : wX2_putAtFeud (nI i) (nI j) 1 s Q = Q (stC s 6 (upd (upd (upd (upd (s.2 6) i (nI (clr (m i) j))) j (nI (clr (m j) i))) i (nI (clr (m i) j ||| 2 ^ j))) j (nI (clr (m j) i ||| 2 ^ i)))) := by
  try dsimp only
  unfold wX2_putAtFeud
  have e1 : gA s 6 (nI i) = nI (m i) := by rw [gn (by omega), m1 i hi]
  have e2 : ∀ v, gA (stA s 6 (nI i) v) 6 (nI j) = nI (m j) := by
    intro v
    try dsimp only
    rw [gn (by omega), g_AA, if_pos rfl, cl (by omega), upd_n (Ne.symm hij), m1 j hj]
  try dsimp only
  rw [if_neg (by decide)]
  simp only [e1, e2, bit_clr hj, bit_clr hi, st_AA, cl (show i < 2147483648 by omega), cl (show j < 2147483648 by omega), gC (show i < 2147483648 by omega), upd_n hij, upd_s, bit_or hj, st_CA, gC (show j < 2147483648 by omega), upd_n (Ne.symm hij), bit_or hi]
  have v1 := vin (n := 16) hi (by omega)
  have v2 := vin (n := 16) hj (by omega)
  exact propext ⟨fun z => z.2.2.2.2.2.2.2.2, fun z => ⟨v1, v1, v2, v2, v1, v1, v2, v2, z⟩⟩
theorem upd_4 {t : Nat → Int32} {x y : Nat} {v w : Int32} : upd (upd (upd (upd t x v) y v) x w) y w = upd (upd t x w) y w := by
  funext k
  unfold upd
  by_cases h1 : k = y
  · try dsimp only
    rw [if_pos h1, if_pos h1]
  · try dsimp only
    rw [if_neg h1, if_neg h1]
    by_cases h2 : k = x
    · simp [h2]
    · simp [h1, h2]
theorem op_feud (a b c : Int32) (hc : c = 0 ∨ c = 1) : Op (fun Q s => wX7_feud a b c s Q) (fun Q s => wX8_feud a b c s Q) := by
  intro s hI K hK
  obtain ⟨n, t, hP, hB, hF, hC, hT, hX, hZ, hQ⟩ := id hI
  obtain ⟨h16, n1, n2, p1⟩ := hP
  obtain ⟨m, m1, m2, m3, m4, m5⟩ := id hF
  show wX7_feud a b c s _
  try dsimp only
  unfold wX7_feud
  try dsimp only
  rw [e_two n1 h16]
  by_cases h : Two n a b
  · obtain ⟨i, hi, rfl⟩ := inI h.1 h16
    obtain ⟨j, hj, rfl⟩ := inI h.2.1 h16
    have hij : i ≠ j := fun e => h.2.2 (by rw [e])
    try dsimp only
    rw [bi_t h, if_neg (by decide), e_feud (n := n) (m := m) (m1 i (by omega)) (by omega) (by omega)]
    have e : wX7_toInt (bi ((m i).testBit j = true)) s = fun Q => Q (bi ((m i).testBit j = true)) s := by
      funext Q
      try dsimp only
      unfold wX7_toInt
      by_cases hz : (m i).testBit j = true
      · try dsimp only
        rw [bi_t hz, if_neg (by decide)]
      · try dsimp only
        rw [bi_f hz, if_pos rfl]
    rw [e]
    try dsimp only
    have mod : ∀ (s1 : St) (Q : Int32 → St → Prop), gF s1 3000 = nI n → s1.2 35 = s.2 35 → wX8_feud (nI i) (nI j) c s1 Q = Q (bi ((m i).testBit j = true)) (stC s1 35 (upd (upd (s.2 35) (16 * i + j) c) (16 * j + i) c)) := by
      intro s1 Q e1 e2
      try dsimp only
      unfold wX8_feud wX8_feud_30
      try dsimp only
      rw [e_two8 e1 h16, bi_t h, if_neg (by decide), ix16, ix16, gn (by omega), e2, m3 i j (by omega) (by omega), if_bi, st_AA, cl (by omega), cl (by omega), vb_01 hc, e2]
      have v1 : vp_in (nI (16 * i + j)) 256 := vin (by omega) (by omega)
      have v2 : vp_in (nI (16 * j + i)) 256 := vin (by omega) (by omega)
      by_cases hz : (m i).testBit j = true
      · try dsimp only
        rw [bi_t hz, if_neg (by decide)]; exact propext ⟨fun z => z.2.2.2, fun z => ⟨v1, v1, v2, z⟩⟩
      · try dsimp only
        rw [bi_f hz, if_pos rfl]; exact propext ⟨fun z => z.2.2.2, fun z => ⟨v1, v1, v2, z⟩⟩
    obtain ⟨m', q1, q2, q3, q4, q5, q6, q7⟩ := InvB.del hi hj hij h16 m1 m2 m3 m4 m5
    rcases hc with rfl | rfl
    · try dsimp only
      rw [e_put0 m1 (by omega) (by omega) hij]
      try dsimp only
      rw [mod (stC s 6 _) _ n2 rfl]
      exact hK _ _ ⟨n, t, ⟨h16, n1, n2, p1⟩, hB, ⟨m', q3, q4, q5, q6, q7⟩, hC, hT, hX, hZ, hQ⟩
    · try dsimp only
      rw [e_put1 m1 (by omega) (by omega) hij]
      try dsimp only
      rw [mod (stC s 6 _) _ n2 rfl]
      have r := InvB.set hi hj hij h16 q3 q4 q5 q6 q7
      rw [q1, q2, upd_4] at r
      exact hK _ _ ⟨n, t, ⟨h16, n1, n2, p1⟩, hB, r, hC, hT, hX, hZ, hQ⟩
  · try dsimp only
    rw [bi_f h, if_pos rfl]
    try dsimp only
    unfold wX8_feud
    try dsimp only
    rw [e_two8 n2 h16, bi_f h, if_pos rfl]
    exact hK _ _ hI
theorem op_wish (a b c : Int32) : Op (fun Q s => wX7_wish a b c s Q) (fun Q s => wX8_wish a b c s Q) := by
  intro s hI K hK
  obtain ⟨n, t, hP, hB, hF, hC, hT, hX, hZ, ⟨⟨w1, w2⟩, w3, w4⟩⟩ := id hI
  obtain ⟨h16, n1, n2, p1, p2⟩ := hP
  show wX7_wish a b c s _
  have mod : ∀ (s1 : St) (Q : Int32 → St → Prop), gF s1 3000 = nI n → s1.2 31 = s.2 31 → (¬ (Ask n (s.2 31) b a 0 ∧ vp_in c 5) → Q (-1) s1 → wX8_wish a b c s1 Q) := by
    intro s1 Q e1 e2 hb hq
    try dsimp only
    unfold wX8_wish
    try dsimp only
    rw [e_couple e1 h16, e2]
    by_cases h : Ask n (s.2 31) b a 0
    · try dsimp only
      rw [bi_t h, if_neg (by decide), e_in (m := 5) rfl (by decide) (by decide), bi_f (fun z => hb ⟨h, z⟩), if_pos rfl]; exact hq
    · try dsimp only
      rw [bi_f h, if_pos rfl]; exact hq
  try dsimp only
  unfold wX7_wish
  try dsimp only
  rw [e_lady n1 h16, p1]
  by_cases h1 : vp_in a n ∧ ¬ s.2 31 a.toNatClampNeg = 0
  · try dsimp only
    rw [bi_t h1, if_neg (by decide), e_gent n1 h16, p1]
    by_cases h2 : vp_in b n ∧ s.2 31 b.toNatClampNeg = 0
    · try dsimp only
      rw [bi_t h2, if_neg (by decide), e_within (m := 5) (by decide)]
      by_cases h3 : vp_in c 5
      · have hA : Ask n (s.2 31) b a 0 := ⟨h2, h1, vin (i := 0) (by decide) (by decide)⟩
        obtain ⟨l, hl, rfl⟩ := inI h1.1 h16
        obtain ⟨g, hg, rfl⟩ := inI h2.1 h16
        obtain ⟨v, hv, rfl⟩ := vp_in_of h3 (by decide)
        rw [cl (by omega)] at h1 h2
        try dsimp only
        rw [bi_t h3, if_neg (by decide)]
        try dsimp only
        unfold wX6_change
        try dsimp only
        rw [ix16', gn (by omega), w1]
        refine ⟨vin (by omega) (by omega), vin (by omega) (by omega), ?_⟩
        try dsimp only
        unfold wX8_wish
        try dsimp only
        rw [e_couple (s := stF (stA s 22 (nI (16 * l + g)) (nI v)) 2102 0) n2 h16]
        rw [show (stF (stA s 22 (nI (16 * l + g)) (nI v)) 2102 0).2 31 = s.2 31 from rfl, bi_t hA, if_neg (by decide), e_in (m := 5) rfl (by decide) (by decide), bi_t h3, if_neg (by decide), ix16]
        refine ⟨vin (by omega) (by omega), vin (by omega) (by omega), ?_⟩
        rw [show gA (stF (stA s 22 (nI (16 * l + g)) (nI v)) 2102 0) 36 (nI (16 * l + g)) = s.2 36 (16 * l + g) from gn (by omega)]
        refine hK _ _ ⟨n, t, ⟨h16, n1, n2, p1, p2⟩, hB, hF, hC, hT, hX, hZ, ⟨⟨?_, ?_⟩, Or.inl rfl, fun z => absurd z (by show ¬ (0 : Int32) = 1; decide)⟩⟩
        · show upd (s.2 22) (nI (16 * l + g)).toNatClampNeg (nI v) = upd (s.2 36) (nI (16 * l + g)).toNatClampNeg (nI v)
          rw [w1]
        · intro i
          show ∃ v' : Nat, v' ≤ 4 ∧ upd (s.2 36) (nI (16 * l + g)).toNatClampNeg (nI v) i = nI v' ∧ _
          rw [cl (by omega)]
          by_cases hi : i = 16 * l + g
          · exact ⟨v, by omega, by rw [hi, upd_s], fun _ => ⟨l, g, hi, hl, hg, h1.2, h2.2⟩⟩
          · rw [upd_n hi]; exact w2 i
      · try dsimp only
        rw [bi_f h3, if_pos rfl]
        exact mod s _ n2 rfl (fun z => h3 z.2) (hK _ _ hI)
    · try dsimp only
      rw [bi_f h2, if_pos rfl]
      exact mod s _ n2 rfl (fun z => h2 z.1.1) (hK _ _ hI)
  · try dsimp only
    rw [bi_f h1, if_pos rfl]
    exact mod s _ n2 rfl (fun z => h1 z.1.2.1) (hK _ _ hI)
/-- a stretch filled -/
def fil (f : Nat → Int32) (a b : Nat) (v : Int32) : Nat → Int32 := fun x => if a ≤ x ∧ x < b then v else f x
theorem fil_0 {f : Nat → Int32} {b : Nat} {v : Int32} : fil f b b v = f := by funext x; unfold fil; rw [if_neg (by omega)]
theorem fil_s {f : Nat → Int32} {a b : Nat} {v : Int32} (h : a < b) : fil (upd f a v) (a + 1) b v = fil f a b v := by
  funext x
  unfold fil upd
  by_cases h1 : a + 1 ≤ x ∧ x < b
  · try dsimp only
    rw [if_pos h1, if_pos (by omega)]
  · try dsimp only
    rw [if_neg h1]
    by_cases h2 : x = a
    · try dsimp only
      rw [if_pos h2, if_pos (by omega)]
    · try dsimp only
      rw [if_neg h2, if_neg (by omega)]
theorem lp_renew {k : Nat} (hk : k < 4) {Q : St → Prop} : ∀ m i s, i + m = 60 → Q (stC s 20 (fil (s.2 20) (60 * k + i) (60 * k + 60) 0)) → wX4_renew_17 (nI k) (nI i) s Q := by
  intro m i s hm hq P hP
  induction m generalizing i s with
  | zero =>
    have e : i = 60 := by omega
    subst e
    rw [fil_0, st_self] at hq
    refine hP _ _ _ ?_
    try dsimp only
    unfold wX4_renew_17_b
    try dsimp only
    rw [if_pos (show (60 : Int32) ≤ nI 60 from nI_le (a := 60) (b := 60) (by omega) (by omega))]
    exact hq
  | succ m ih =>
    refine hP _ _ _ ?_
    try dsimp only
    unfold wX4_renew_17_b
    try dsimp only
    rw [if_neg (show ¬ (60 : Int32) ≤ nI i from nI_ge (a := i) (b := 60) (by omega) (by omega)), ix60', nI_1]
    refine ⟨vin (by omega) (by omega), ih (i + 1) _ (by omega) ?_⟩
    rw [st_AC, g_AA, if_pos rfl, cl (by omega), show 60 * k + (i + 1) = 60 * k + i + 1 by omega, fil_s (by omega)]
    exact hq
theorem lp_sheet {k : Nat} (hk : k < 4) {Q : Int32 → St → Prop} : ∀ m i s, i + m = 60 → Q 1 (stC s 48 (fil (s.2 48) (60 * k + i) (60 * k + 60) 0)) → wX8_sheet_56 (nI k) (nI i) s Q := by
  intro m i s hm hq P hP
  induction m generalizing i s with
  | zero =>
    have e : i = 60 := by omega
    subst e
    rw [fil_0, st_self] at hq
    refine hP _ _ _ ?_
    try dsimp only
    unfold wX8_sheet_56_b
    try dsimp only
    rw [if_pos (show (60 : Int32) ≤ nI 60 from nI_le (a := 60) (b := 60) (by omega) (by omega))]
    exact hq
  | succ m ih =>
    refine hP _ _ _ ?_
    try dsimp only
    unfold wX8_sheet_56_b
    try dsimp only
    rw [if_neg (show ¬ (60 : Int32) ≤ nI i from nI_ge (a := i) (b := 60) (by omega) (by omega)), ix60, nI_1]
    refine ⟨vin (by omega) (by omega), ih (i + 1) _ (by omega) ?_⟩
    rw [st_AC, g_AA, if_pos rfl, cl (by omega), show 60 * k + (i + 1) = 60 * k + i + 1 by omega, fil_s (by omega)]
    exact hq
theorem e_sheet4 {a : Int32} {s : St} {Q : Int32 → St → Prop} : wX7_isSheet a s Q = Q (bi (vp_in a 4)) s := by
  try dsimp only
  unfold wX7_isSheet
  try dsimp only
  rw [e_within (m := 4) (by decide)]
  exact propext ⟨fun h => h.2, fun h => ⟨nb_bi _, h⟩⟩
theorem e_lane {a : Int32} {s : St} {Q : Int32 → St → Prop} : wX7_isLane a s Q = Q (bi (vp_in a 3)) s := by
  try dsimp only
  unfold wX7_isLane
  try dsimp only
  rw [e_within (m := 3) (by decide)]
  exact propext ⟨fun h => h.2, fun h => ⟨nb_bi _, h⟩⟩
theorem op_sheet (a b c : Int32) : Op (fun Q s => wX7_sheet a b c s Q) (fun Q s => wX8_sheet a b c s Q) := by
  intro s hI K hK
  obtain ⟨n, t, hP, hB, hF, hC, hT, hX, ⟨z1, z2⟩, hQ⟩ := id hI
  show wX7_sheet a b c s _
  try dsimp only
  unfold wX7_sheet
  have mod : ∀ (s1 : St) (Q : Int32 → St → Prop), wX8_sheet a b c s1 Q = (if bi (vp_in a 4) = 0 then Q (-1) s1 else if bi (vp_in b 3) = 0 then Q (-1) s1 else if c ≤ 60 then (if 0 ≤ c then (vp_in a 4 ∧ (vp_in a 4 ∧ wX8_sheet_56 a 0 (stA (stA s1 46 a b) 47 a c) Q)) else Q (-14) s1) else Q (-1) s1) := by
    intro s1 Q
    try dsimp only
    unfold wX8_sheet
    try dsimp only
    rw [e_in (m := 4) rfl (by decide) (by decide)]
    by_cases h : vp_in a 4
    · try dsimp only
      rw [bi_t h, if_neg (by decide), if_neg (by decide), e_in (m := 3) rfl (by decide) (by decide)]
    · try dsimp only
      rw [bi_f h, if_pos rfl, if_pos rfl]
  try dsimp only
  rw [e_sheet4]
  by_cases h1 : vp_in a 4
  · try dsimp only
    rw [bi_t h1, if_neg (by decide), e_lane]
    by_cases h2 : vp_in b 3
    · try dsimp only
      rw [bi_t h2, if_neg (by decide)]
      by_cases h3 : c ≤ 60
      · try dsimp only
        rw [if_pos h3]
        by_cases h4 : 0 ≤ c
        · try dsimp only
          rw [if_pos h4]
          obtain ⟨k, hk, rfl⟩ := vp_in_of h1 (by decide)
          obtain ⟨l, hl, rfl⟩ := vp_in_of h2 (by decide)
          obtain ⟨v, hv, rfl⟩ : ∃ v : Nat, v < 61 ∧ c = nI v := vp_in_of (n := 61) (by
            rw [vp_in_iff]
            rw [Int32.le_iff_toInt_le] at h3 h4
            have e1 : (60 : Int32).toInt = 60 := by decide
            have e2 : (0 : Int32).toInt = 0 := by decide
            omega) (by decide)
          try dsimp only
          unfold wX4_renew
          refine ⟨h1, h1, lp_renew hk 60 0 _ (by omega) ?_⟩
          try dsimp only
          rw [mod, bi_t h1, if_neg (by decide), bi_t h2, if_neg (by decide), if_pos h3, if_pos h4]
          refine ⟨h1, h1, lp_sheet hk 60 0 _ (by omega) (hK _ _ ⟨n, t, hP, hB, hF, hC, hT, hX, ⟨?_, ?_⟩, hQ⟩)⟩
          · intro k' hk'
            show (upd (s.2 19) (nI k).toNatClampNeg (nI v) k' = -4 ∧ upd (s.2 46) (nI k).toNatClampNeg (nI l) k' = -4) ∨ ∃ l' m' : Nat, l' < 3 ∧ m' ≤ 60 ∧ upd (s.2 18) (nI k).toNatClampNeg (nI l) k' = nI l' ∧ upd (s.2 46) (nI k).toNatClampNeg (nI l) k' = nI l' ∧ upd (s.2 19) (nI k).toNatClampNeg (nI v) k' = nI m' ∧ upd (s.2 47) (nI k).toNatClampNeg (nI v) k' = nI m'
            rw [cl (by omega)]
            by_cases e : k' = k
            · subst e
              exact Or.inr ⟨l, v, hl, by omega, upd_s, upd_s, upd_s, upd_s⟩
            · rw [upd_n e, upd_n e, upd_n e, upd_n e]
              exact z1 k' hk'
          · show fil (s.2 20) (60 * k + 0) (60 * k + 60) 0 = fil (s.2 48) (60 * k + 0) (60 * k + 60) 0
            rw [z2]
        · try dsimp only
          rw [if_neg h4]
          try dsimp only
          rw [mod, bi_t h1, if_neg (by decide), bi_t h2, if_neg (by decide), if_pos h3, if_neg h4]
          exact hK _ _ hI
      · try dsimp only
        rw [if_neg h3]
        try dsimp only
        rw [mod, bi_t h1, if_neg (by decide), bi_t h2, if_neg (by decide), if_neg h3]
        exact hK _ _ hI
    · try dsimp only
      rw [bi_f h2, if_pos rfl]
      try dsimp only
      rw [mod, bi_t h1, if_neg (by decide), bi_f h2, if_pos rfl]
      exact hK _ _ hI
  · try dsimp only
    rw [bi_f h1, if_pos rfl]
    try dsimp only
    rw [mod, bi_f h1, if_pos rfl]
    exact hK _ _ hI
