/-! introduce, feud, wish, sheets, person -/
theorem st_AC {s : St} {k : Nat} {i v : Int32} {f : Nat → Int32} : stC (stA s k i v) k f = stC s k f := by
  show (_, va_up (va_up s.2 k _) k f) = (_, va_up s.2 k f)
  rw [bx_uu]; rfl
theorem st_CC {s : St} {k : Nat} {g f : Nat → Int32} : stC (stC s k g) k f = stC s k f := by
  show (_, va_up (va_up s.2 k _) k f) = (_, va_up s.2 k f)
  rw [bx_uu]; rfl
theorem st_CA {s : St} {k : Nat} {i v : Int32} {f : Nat → Int32} : stA (stC s k f) k i v = stC s k (upd f i.toNatClampNeg v) := by
  unfold stA
  rw [st_CC, g_CA, if_pos rfl]
theorem st_AA {s : St} {k : Nat} {i j v w : Int32} : stA (stA s k i v) k j w = stC s k (upd (upd (s.2 k) i.toNatClampNeg v) j.toNatClampNeg w) := by
  show stC (stA s k i v) k _ = _
  rw [st_AC, g_AA, if_pos rfl]
theorem st_A {s : St} {k : Nat} {i v : Int32} : stA s k i v = stC s k (upd (s.2 k) i.toNatClampNeg v) := rfl
theorem st_self {s : St} {k : Nat} : stC s k (s.2 k) = s := by
  refine st_ext (fun _ => rfl) (fun j x => ?_)
  rw [g_CA]
  split
  · rename_i h; rw [h]
  · rfl
theorem m4_ne {i : Nat} (h : i < 2147483648) : ¬ (-4 : Int32) = nI i := by
  intro e
  have := congrArg Int32.toInt e
  rw [nI_i h] at this
  have h2 : (-4 : Int32).toInt = -4 := by decide
  omega
theorem m4_ne' {i : Nat} (h : i < 2147483648) : ¬ nI i = (-4 : Int32) := fun e => m4_ne h e.symm
theorem e_make {i j : Nat} {s : St} {m : Nat → Nat} {Q : St → Prop} (m1 : ∀ i, i < 16 → s.2 5 i = nI (m i)) (hi : i < 16) (hj : j < 16) (hij : i ≠ j) : wX2_makeKnown (nI i) (nI j) s Q = Q (stC s 5 (upd (upd (s.2 5) i (nI (m i ||| 2 ^ j))) j (nI (m j ||| 2 ^ i)))) := by
  try dsimp only
  unfold wX2_makeKnown
  have e1 : gA s 5 (nI i) = nI (m i) := by rw [gn (by omega), m1 i hi]
  have e2 : ∀ v, gA (stA s 5 (nI i) v) 5 (nI j) = nI (m j) := by
    intro v
    try dsimp only
    rw [gn (by omega), g_AA, if_pos rfl, cl (by omega), upd_n (Ne.symm hij), m1 j hj]
  rw [e1, e2, bit_or hj, bit_or hi, st_AA, cl (by omega), cl (by omega)]
  have v1 := vin (n := 16) hi (by omega)
  have v2 := vin (n := 16) hj (by omega)
  exact propext ⟨fun z => z.2.2.2.2, fun z => ⟨v1, v1, v2, v2, z⟩⟩
def kBad (n : Nat) (y a b : Int32) : Prop := ¬ Two n a b ∨ y = a ∨ y = b ∨ (¬ y = -4 ∧ ¬ vp_in y n)
def kSt (m : Nat → Nat) (y : Int32) (i j : Nat) : Prop := (m i).testBit j = true ∨ (¬ y = -4 ∧ ¬ ((m y.toNatClampNeg).testBit i = true ∧ (m y.toNatClampNeg).testBit j = true))
theorem x_introduce {y a b : Int32} {n : Nat} {s : St} {Q : Int32 → St → Prop} {m : Nat → Nat} (n1 : gF s 100 = nI n) (h16 : n ≤ 16) (m1 : ∀ i, i < 16 → s.2 5 i = nI (m i)) :
    (kBad n y a b → Q (-1) s → wX7_introduce y a b s Q) ∧ ∀ i j, i < n → j < n → a = nI i → b = nI j → ¬ kBad n y a b → (kSt m y i j → Q (-2) s → wX7_introduce y a b s Q) ∧ (¬ kSt m y i j → Q 1 (stC s 5 (upd (upd (s.2 5) i (nI (m i ||| 2 ^ j))) j (nI (m j ||| 2 ^ i)))) → wX7_introduce y a b s Q) := by
  constructor
  · intro hb hq
    try dsimp only
    unfold wX7_introduce
    try dsimp only
    rw [e_two n1 h16]
    by_cases h : Two n a b
    · try dsimp only
      rw [bi_t h, if_neg (by decide)]
      by_cases h1 : y = a
      · try dsimp only
        rw [if_pos h1]; exact hq
      · try dsimp only
        rw [if_neg h1]
        by_cases h2 : y = b
        · try dsimp only
          rw [if_pos h2]; exact hq
        · rcases hb with hb | hb | hb | ⟨hb, hc⟩
          · exact absurd h hb
          · exact absurd hb h1
          · exact absurd hb h2
          · try dsimp only
            rw [if_neg h2, if_neg hb, e_there n1 h16, bi_f hc, if_pos rfl]; exact hq
    · try dsimp only
      rw [bi_f h, if_pos rfl]; exact hq
  · rintro i j hi hj rfl rfl hb
    have h : Two n (nI i) (nI j) := Classical.byContradiction fun h => hb (Or.inl h)
    have h1 : ¬ y = nI i := fun h => hb (Or.inr (Or.inl h))
    have h2 : ¬ y = nI j := fun h => hb (Or.inr (Or.inr (Or.inl h)))
    have h3 : ¬ y = -4 → vp_in y n := fun h4 => Classical.byContradiction fun h5 => hb (Or.inr (Or.inr (Or.inr ⟨h4, h5⟩)))
    have hij : i ≠ j := fun e => h.2.2 (by rw [e])
    have go : wX7_introduce_40 y (nI i) (nI j) s Q → wX7_introduce y (nI i) (nI j) s Q := by
      intro hq
      try dsimp only
      unfold wX7_introduce
      try dsimp only
      rw [e_two n1 h16, bi_t h, if_neg (by decide), if_neg h1, if_neg h2]
      by_cases h4 : y = -4
      · try dsimp only
        rw [if_pos h4]; exact hq
      · try dsimp only
        rw [if_neg h4, e_there n1 h16, bi_t (h3 h4), if_neg (by decide)]; exact hq
    constructor
    · intro hs hq
      refine go ?_
      try dsimp only
      unfold wX7_introduce_40
      try dsimp only
      rw [e_known (n := n) (m := m) (m1 i (by omega)) (by omega) (by omega)]
      by_cases hk : (m i).testBit j = true
      · try dsimp only
        rw [bi_t hk, if_neg (by decide)]; exact hq
      · try dsimp only
        rw [bi_f hk, if_pos rfl]
        rcases hs with hs | ⟨hs, hc⟩
        · exact absurd hs hk
        · obtain ⟨k, hk1, rfl⟩ := inI (h3 hs) h16
          rw [cl (by omega)] at hc
          try dsimp only
          rw [if_neg hs, e_known (n := n) (m := m) (m1 k (by omega)) (by omega) (by omega)]
          by_cases h5 : (m k).testBit i = true
          · try dsimp only
            rw [bi_t h5, if_neg (by decide), e_known (n := n) (m := m) (m1 k (by omega)) (by omega) (by omega), bi_f (fun z => hc ⟨h5, z⟩), if_pos rfl]; exact hq
          · try dsimp only
            rw [bi_f h5, if_pos rfl]; exact hq
    · intro hs hq
      refine go ?_
      have hk : ¬ (m i).testBit j = true := fun z => hs (Or.inl z)
      try dsimp only
      unfold wX7_introduce_40 wX7_introduce_88
      try dsimp only
      rw [e_known (n := n) (m := m) (m1 i (by omega)) (by omega) (by omega), bi_f hk, if_pos rfl]
      by_cases h4 : y = -4
      · try dsimp only
        rw [if_pos h4, e_make m1 (by omega) (by omega) hij]; exact hq
      · obtain ⟨k, hk1, rfl⟩ := inI (h3 h4) h16
        have hc : (m k).testBit i = true ∧ (m k).testBit j = true := Classical.byContradiction fun z => hs (Or.inr ⟨h4, by rw [cl (by omega)]; exact z⟩)
        try dsimp only
        rw [if_neg h4, e_known (n := n) (m := m) (m1 k (by omega)) (by omega) (by omega), bi_t hc.1, if_neg (by decide), e_known (n := n) (m := m) (m1 k (by omega)) (by omega) (by omega), bi_t hc.2, if_neg (by decide), e_make m1 (by omega) (by omega) hij]; exact hq
theorem y_introduce {y a b : Int32} {n : Nat} {s : St} {Q : Int32 → St → Prop} {m : Nat → Nat} (n1 : gF s 3000 = nI n) (h16 : n ≤ 16) (m3 : ∀ i j, i < 16 → j < 16 → s.2 34 (16 * i + j) = if (m i).testBit j then 1 else 0) :
    (kBad n y a b → Q (-1) s → wX8_introduce y a b s Q) ∧ ∀ i j, i < n → j < n → a = nI i → b = nI j → ¬ kBad n y a b → (kSt m y i j → Q (-2) s → wX8_introduce y a b s Q) ∧ (¬ kSt m y i j → Q 1 (stC s 34 (upd (upd (s.2 34) (16 * i + j) 1) (16 * j + i) 1)) → wX8_introduce y a b s Q) := by
  constructor
  · intro hb hq
    try dsimp only
    unfold wX8_introduce
    try dsimp only
    rw [e_two8 n1 h16]
    by_cases h : Two n a b
    · try dsimp only
      rw [bi_t h, if_neg (by decide)]
      by_cases h4 : y = -4
      · rcases hb with hb | hb | hb | ⟨hb, hc⟩
        · exact absurd h hb
        · obtain ⟨i, hi, e⟩ := inI h.1 h16
          exact absurd (h4.symm.trans (hb.trans e)) (m4_ne (by omega))
        · obtain ⟨i, hi, e⟩ := inI h.2.1 h16
          exact absurd (h4.symm.trans (hb.trans e)) (m4_ne (by omega))
        · exact absurd h4 hb
      · try dsimp only
        rw [if_neg h4, e_is n1 h16]
        by_cases h5 : vp_in y n
        · try dsimp only
          rw [bi_t h5, if_neg (by decide)]
          by_cases h1 : y = a
          · try dsimp only
            rw [if_pos h1]; exact hq
          · try dsimp only
            rw [if_neg h1]
            by_cases h2 : y = b
            · try dsimp only
              rw [if_pos h2]; exact hq
            · rcases hb with hb | hb | hb | ⟨hb, hc⟩
              · exact absurd h hb
              · exact absurd hb h1
              · exact absurd hb h2
              · exact absurd h5 hc
        · try dsimp only
          rw [bi_f h5, if_pos rfl]; exact hq
    · try dsimp only
      rw [bi_f h, if_pos rfl]; exact hq
  · rintro i j hi hj rfl rfl hb
    have h : Two n (nI i) (nI j) := Classical.byContradiction fun h => hb (Or.inl h)
    have h1 : ¬ y = nI i := fun h => hb (Or.inr (Or.inl h))
    have h2 : ¬ y = nI j := fun h => hb (Or.inr (Or.inr (Or.inl h)))
    have h3 : ¬ y = -4 → vp_in y n := fun h4 => Classical.byContradiction fun h5 => hb (Or.inr (Or.inr (Or.inr ⟨h4, h5⟩)))
    have go : wX8_introduce_35 y (nI i) (nI j) s Q → wX8_introduce y (nI i) (nI j) s Q := by
      intro hq
      try dsimp only
      unfold wX8_introduce
      try dsimp only
      rw [e_two8 n1 h16, bi_t h, if_neg (by decide)]
      by_cases h4 : y = -4
      · try dsimp only
        rw [if_pos h4]; exact hq
      · try dsimp only
        rw [if_neg h4, e_is n1 h16, bi_t (h3 h4), if_neg (by decide), if_neg h1, if_neg h2]; exact hq
    have dk : ∀ {i j : Nat} {Q : Int32 → St → Prop}, i < 16 → j < 16 → wX8_doKnow (nI i) (nI j) s Q = Q (bi ((m i).testBit j = true)) s := fun hi hj => e_doKnow (m3 _ _ hi hj) hi hj
    constructor
    · intro hs hq
      refine go ?_
      try dsimp only
      unfold wX8_introduce_35
      rw [dk (by omega) (by omega)]
      by_cases hk : (m i).testBit j = true
      · try dsimp only
        rw [bi_t hk, if_neg (by decide)]; exact hq
      · try dsimp only
        rw [bi_f hk, if_pos rfl]
        rcases hs with hs | ⟨hs, hc⟩
        · exact absurd hs hk
        · obtain ⟨k, hk1, rfl⟩ := inI (h3 hs) h16
          rw [cl (by omega)] at hc
          try dsimp only
          rw [if_neg hs, dk (by omega) (by omega)]
          by_cases h5 : (m k).testBit i = true
          · try dsimp only
            rw [bi_t h5, if_neg (by decide), dk (by omega) (by omega), bi_f (fun z => hc ⟨h5, z⟩), if_pos rfl]; exact hq
          · try dsimp only
            rw [bi_f h5, if_pos rfl]; exact hq
    · intro hs hq
      refine go ?_
      have hk : ¬ (m i).testBit j = true := fun z => hs (Or.inl z)
      have fin : wX8_introduce_71 (nI i) (nI j) s Q := by
        try dsimp only
        unfold wX8_introduce_71
        try dsimp only
        rw [ix16, ix16, st_AA, cl (by omega), cl (by omega)]
        exact ⟨vin (by omega) (by omega), vin (by omega) (by omega), hq⟩
      try dsimp only
      unfold wX8_introduce_35
      rw [dk (by omega) (by omega), bi_f hk, if_pos rfl]
      by_cases h4 : y = -4
      · try dsimp only
        rw [if_pos h4]; exact fin
      · obtain ⟨k, hk1, rfl⟩ := inI (h3 h4) h16
        have hc : (m k).testBit i = true ∧ (m k).testBit j = true := Classical.byContradiction fun z => hs (Or.inr ⟨h4, by rw [cl (by omega)]; exact z⟩)
        try dsimp only
        rw [if_neg h4, dk (by omega) (by omega), bi_t hc.1, if_neg (by decide), dk (by omega) (by omega), bi_t hc.2, if_neg (by decide)]; exact fin
theorem op_introduce (y a b : Int32) : Op (fun Q s => wX7_introduce y a b s Q) (fun Q s => wX8_introduce y a b s Q) := by
  intro s hI K hK
  obtain ⟨n, t, hP, hB, hF, hC, hT, hX, hZ, hQ⟩ := id hI
  obtain ⟨h16, n1, n2, p1⟩ := hP
  obtain ⟨m, m1, m2, m3, m4, m5⟩ := id hB
  by_cases hb : kBad n y a b
  · exact (x_introduce n1 h16 m1).1 hb ((y_introduce n2 h16 m3).1 hb (hK _ _ hI))
  · have h : Two n a b := Classical.byContradiction fun h => hb (Or.inl h)
    obtain ⟨i, hi, e1⟩ := inI h.1 h16
    obtain ⟨j, hj, e2⟩ := inI h.2.1 h16
    have hij : i ≠ j := fun e => h.2.2 (by rw [e1, e2, e])
    by_cases hs : kSt m y i j
    · exact ((x_introduce n1 h16 m1).2 i j hi hj e1 e2 hb).1 hs (((y_introduce n2 h16 m3).2 i j hi hj e1 e2 hb).1 hs (hK _ _ hI))
    · exact ((x_introduce n1 h16 m1).2 i j hi hj e1 e2 hb).2 hs (((y_introduce (s := stC s 5 _) n2 h16 m3).2 i j hi hj e1 e2 hb).2 hs (hK _ _ ⟨n, t, ⟨h16, n1, n2, p1⟩, InvB.set hi hj hij h16 m1 m2 m3 m4 m5, hF, hC, hT, hX, hZ, hQ⟩))
