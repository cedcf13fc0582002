/-! calls without long loops -/
theorem op_fault : Op (fun Q s => wX7_fault s Q) (fun Q s => wX8_fault s Q) := by
  intro s hI K hK
  obtain ⟨n, t, hP, hB, hF, hC, hT, hX, hZ, hQ⟩ := id hI
  show K (gF s 702) (gF s 3010) s
  rw [hX.2]
  exact hK _ _ hI
theorem nI_toI1 {n : Nat} (h : n ≤ 100) : (nI n).toInt = ((n + 1 : Nat) : Int) - 1 := by rw [nI_i (by omega)]; omega
theorem op_end (a : Int32) : Op (fun Q s => wX7_end a s Q) (fun Q s => wX8_end a s Q) := by
  intro s hI K hK
  obtain ⟨n, t, hP, hB, hF, hC, hT, ⟨⟨x1, x2, x3, x4⟩, x5⟩, hZ, hQ⟩ := id hI
  show wX7_end a s _
  try dsimp only
  unfold wX7_end wX5_keepFirst
  rw [x1, e_within (m := t + 1) (nI_toI1 x3)]
  by_cases h : vp_in a (t + 1)
  · try dsimp only
    rw [bi_t h, if_neg (by decide), x1]
    show wX8_end a (stF s 701 a) _
    try dsimp only
    unfold wX8_end
    rw [show gF (stF s 701 a) 3009 = nI t from x2, e_in (m := t + 1) rfl (by rw [Int32.toInt_toInt64]; exact nI_toI1 x3) (by omega), bi_t h, if_neg (by decide), show gF (stF s 701 a) 3009 = nI t from x2]
    obtain ⟨i, hi, rfl⟩ := vp_in_of h (by omega)
    exact hK _ _ ⟨n, i, hP, hB, hF, hC, hT, ⟨⟨rfl, rfl, by omega, fun j hj => x4 j (by omega)⟩, x5⟩, hZ, hQ⟩
  · try dsimp only
    rw [bi_f h, if_pos rfl]
    show wX8_end a s _
    try dsimp only
    unfold wX8_end
    rw [x2, e_in (m := t + 1) rfl (by rw [Int32.toInt_toInt64]; exact nI_toI1 x3) (by omega), bi_f h, if_pos rfl]
    exact hK _ _ hI
theorem op_custom (a : Int32) : Op (fun Q s => wX7_custom a s Q) (fun Q s => wX8_custom_ a s Q) := by
  intro s hI K hK
  obtain ⟨n, t, hP, hB, hF, hC, hT, hX, hZ, hQ⟩ := id hI
  show wX7_custom a s _
  try dsimp only
  unfold wX7_custom
  try dsimp only
  rw [e_within (m := 4) (by decide)]
  by_cases h : vp_in a 4
  · try dsimp only
    rw [bi_t h, if_neg (by decide)]
    refine ⟨h, ?_⟩
    try dsimp only
    unfold wX8_custom_
    try dsimp only
    rw [e_in (m := 4) rfl (by decide) (by decide), bi_t h, if_neg (by decide)]
    refine ⟨h, ?_⟩
    obtain ⟨i, hi, rfl⟩ := vp_in_of h (by decide)
    try dsimp only
    rw [gn (by omega), gn (by omega), (hT i hi).1]
    exact hK _ _ hI
  · try dsimp only
    rw [bi_f h, if_pos rfl]
    show wX8_custom_ a s _
    try dsimp only
    unfold wX8_custom_
    try dsimp only
    rw [e_in (m := 4) rfl (by decide) (by decide), bi_f h, if_pos rfl]
    exact hK _ _ hI
theorem e_entry {i d : Nat} {s : St} {Q : Int32 → St → Prop} (hi : i < 16) (hd : d < 24) : wX0_entry (nI i) (nI d) s Q = Q (s.2 12 (24 * i + d)) s := by
  try dsimp only
  unfold wX0_entry
  try dsimp only
  rw [ix24', gn (by omega)]
  exact propext ⟨fun z => z.2, fun z => ⟨vin (by omega) (by omega), z⟩⟩
theorem e_cardOf {i d : Nat} {s : St} {Q : Int32 → St → Prop} (hi : i < 16) (hd : d < 24) : wX8_cardOf (nI i) (nI d) s Q = Q (s.2 37 (24 * i + d)) s := by
  try dsimp only
  unfold wX8_cardOf
  try dsimp only
  rw [ix24, gn (by omega)]
  exact propext ⟨fun z => z.2, fun z => ⟨vin (by omega) (by omega), z⟩⟩
theorem op_card (a b : Int32) : Op (fun Q s => wX7_card a b s Q) (fun Q s => wX8_card a b s Q) := by
  intro s hI K hK
  obtain ⟨n, t, hP, hB, hF, hC, hT, hX, hZ, hQ⟩ := id hI
  obtain ⟨h16, n1, n2, -⟩ := hP
  show wX7_card a b s _
  try dsimp only
  unfold wX7_card
  try dsimp only
  rw [e_there n1 h16]
  by_cases h : vp_in a n
  · obtain ⟨i, hi, rfl⟩ := inI h h16
    try dsimp only
    rw [bi_t h, if_neg (by decide), e_dance]
    by_cases h2 : vp_in b 24
    · obtain ⟨d, hd, rfl⟩ := vp_in_of h2 (by decide)
      try dsimp only
      rw [bi_t h2, if_neg (by decide), e_entry (by omega) hd]
      try dsimp only
      unfold wX8_card
      try dsimp only
      rw [e_is n2 h16, bi_t h, if_neg (by decide), e_in (m := 24) rfl (by decide) (by decide), bi_t h2, if_neg (by decide), e_cardOf (by omega) hd, hC.1 i d hi hd]
      exact hK _ _ hI
    · try dsimp only
      rw [bi_f h2, if_pos rfl]
      try dsimp only
      unfold wX8_card
      try dsimp only
      rw [e_is n2 h16, bi_t h, if_neg (by decide), e_in (m := 24) rfl (by decide) (by decide), bi_f h2, if_pos rfl]
      exact hK _ _ hI
  · try dsimp only
    rw [bi_f h, if_pos rfl]
    try dsimp only
    unfold wX8_card
    try dsimp only
    rw [e_is n2 h16, bi_f h, if_pos rfl]
    exact hK _ _ hI
theorem op_well (a : Int32) : Op (fun Q s => wX7_well a s Q) (fun Q s => wX8_well a s Q) := by
  intro s hI K hK
  obtain ⟨n, t, hP, hB, hF, hC, hT, hX, hZ, hQ⟩ := id hI
  obtain ⟨h16, n1, n2, p1, p2, p3, p4, p5, p6⟩ := hP
  show wX7_well a s _
  try dsimp only
  unfold wX7_well
  try dsimp only
  rw [e_there n1 h16]
  by_cases h : vp_in a n
  · obtain ⟨i, hi, rfl⟩ := inI h h16
    have v16 : vp_in (nI i) 16 := vin (by omega) (by omega)
    try dsimp only
    rw [bi_t h, if_neg (by decide)]
    try dsimp only
    unfold wX2_isIll
    refine ⟨v16, nb_01 (by rw [gn (by omega), p2]; exact p5 i), ?_⟩
    try dsimp only
    rw [gn (by omega), p2]
    by_cases h2 : s.2 33 i = 0
    · try dsimp only
      rw [if_pos h2]
      try dsimp only
      unfold wX8_well
      try dsimp only
      rw [e_is n2 h16, bi_t h, if_neg (by decide)]
      refine ⟨v16, ?_⟩
      try dsimp only
      rw [gn (by omega), if_pos h2]
      exact hK _ _ hI
    · try dsimp only
      rw [if_neg h2]
      try dsimp only
      unfold wX2_makeIll
      refine ⟨v16, ?_⟩
      show wX8_well (nI i) (stA s 3 (nI i) (vp_nar .boolean 0)) _
      try dsimp only
      unfold wX8_well
      try dsimp only
      rw [e_is (s := stA s 3 (nI i) (vp_nar .boolean 0)) n2 h16, bi_t h, if_neg (by decide)]
      refine ⟨v16, ?_⟩
      rw [show gA (stA s 3 (nI i) (vp_nar .boolean 0)) 33 (nI i) = s.2 33 i from gn (by omega), if_neg h2]
      refine ⟨v16, hK _ _ ⟨n, t, ⟨h16, n1, n2, p1, ?_, p3, p4, ?_, p6⟩, hB, hF, hC, hT, hX, hZ, hQ⟩⟩
      · show upd (s.2 3) (nI i).toNatClampNeg (vp_nar .boolean 0) = upd (s.2 33) (nI i).toNatClampNeg (vp_nar .boolean 0)
        rw [p2]
      · intro q
        show upd (s.2 33) (nI i).toNatClampNeg (vp_nar .boolean 0) q = 0 ∨ upd (s.2 33) (nI i).toNatClampNeg (vp_nar .boolean 0) q = 1
        unfold upd
        split
        · exact vb_cases 0
        · exact p5 q
  · try dsimp only
    rw [bi_f h, if_pos rfl]
    try dsimp only
    unfold wX8_well
    try dsimp only
    rw [e_is n2 h16, bi_f h, if_pos rfl]
    exact hK _ _ hI
/-- a bit set on both sides -/
theorem InvB.set {n i j : Nat} {b t : Nat → Int32} {m : Nat → Nat} (hi : i < n) (hj : j < n) (hij : i ≠ j) (h16 : n ≤ 16) (m1 : ∀ i, i < 16 → b i = nI (m i)) (m2 : ∀ i, m i < 65536) (m3 : ∀ i j, i < 16 → j < 16 → t (16 * i + j) = if (m i).testBit j then 1 else 0) (m4 : ∀ i j, (m i).testBit j = true → i < n ∧ j < n ∧ i ≠ j) (m5 : ∀ i j, (m i).testBit j = (m j).testBit i) : InvB n (upd (upd b i (nI (m i ||| 2 ^ j))) j (nI (m j ||| 2 ^ i))) (upd (upd t (16 * i + j) 1) (16 * j + i) 1) := by
  have key : ∀ a c, ((if a = i then m i ||| 2 ^ j else if a = j then m j ||| 2 ^ i else m a).testBit c = true) ↔ ((a = i ∧ c = j) ∨ (a = j ∧ c = i) ∨ (m a).testBit c = true) := by
    intro a c
    by_cases ha : a = i
    · subst ha
      try dsimp only
      rw [if_pos rfl, fb_bit_set]
      simp [hij]
      constructor
      · rintro (h | h)
        · exact Or.inr h
        · exact Or.inl h
      · rintro (h | h)
        · exact Or.inr h
        · exact Or.inl h
    · try dsimp only
      rw [if_neg ha]
      by_cases hb : a = j
      · subst hb
        try dsimp only
        rw [if_pos rfl, fb_bit_set]
        simp [ha]
        constructor
        · rintro (h | h)
          · exact Or.inr h
          · exact Or.inl h
        · rintro (h | h)
          · exact Or.inr h
          · exact Or.inl h
      · try dsimp only
        rw [if_neg hb]
        simp [ha, hb]
  refine ⟨fun a => if a = i then m i ||| 2 ^ j else if a = j then m j ||| 2 ^ i else m a, fun a ha => ?_, fun a => ?_, fun a c ha hc => ?_, fun a c h => ?_, fun a c => ?_⟩
  · unfold upd
    by_cases h1 : a = j
    · try dsimp only
      rw [if_pos h1, if_neg (by omega), if_pos h1]
    · try dsimp only
      rw [if_neg h1]
      by_cases h2 : a = i
      · try dsimp only
        rw [if_pos h2, if_pos h2]
      · try dsimp only
        rw [if_neg h2, if_neg h2, if_neg h1]; exact m1 a ha
  · show (if a = i then m i ||| 2 ^ j else if a = j then m j ||| 2 ^ i else m a) < 65536
    split
    · exact or_lt (m2 i) (by omega)
    · split
      · exact or_lt (m2 j) (by omega)
      · exact m2 a
  · show upd (upd t (16 * i + j) 1) (16 * j + i) 1 (16 * a + c) = if (if a = i then m i ||| 2 ^ j else if a = j then m j ||| 2 ^ i else m a).testBit c then 1 else 0
    unfold upd
    by_cases h1 : 16 * a + c = 16 * j + i
    · try dsimp only
      rw [if_pos h1, if_pos ((key a c).mpr (Or.inr (Or.inl ⟨by omega, by omega⟩)))]
    · try dsimp only
      rw [if_neg h1]
      by_cases h2 : 16 * a + c = 16 * i + j
      · try dsimp only
        rw [if_pos h2, if_pos ((key a c).mpr (Or.inl ⟨by omega, by omega⟩))]
      · try dsimp only
        rw [if_neg h2, m3 a c ha hc]
        by_cases hz : (m a).testBit c = true
        · try dsimp only
          rw [if_pos hz, if_pos ((key a c).mpr (Or.inr (Or.inr hz)))]
        · try dsimp only
          rw [if_neg hz, if_neg]
          intro hq
          rcases (key a c).mp hq with ⟨x, y⟩ | ⟨x, y⟩ | x
          · subst x; subst y; exact h2 rfl
          · subst x; subst y; exact h1 rfl
          · exact hz x
  · rcases (key a c).mp h with ⟨x, y⟩ | ⟨x, y⟩ | x
    · subst x; subst y; exact ⟨hi, hj, hij⟩
    · subst x; subst y; exact ⟨hj, hi, Ne.symm hij⟩
    · exact m4 a c x
  · rw [Bool.eq_iff_iff, key, key, m5 a c]
    constructor
    · rintro (⟨x, y⟩ | ⟨x, y⟩ | x)
      · exact Or.inr (Or.inl ⟨y, x⟩)
      · exact Or.inl ⟨y, x⟩
      · exact Or.inr (Or.inr x)
    · rintro (⟨x, y⟩ | ⟨x, y⟩ | x)
      · exact Or.inr (Or.inl ⟨y, x⟩)
      · exact Or.inl ⟨y, x⟩
      · exact Or.inr (Or.inr x)
/-- a bit taken away on both sides -/
theorem InvB.del {n i j : Nat} {b t : Nat → Int32} {m : Nat → Nat} (hi : i < n) (hj : j < n) (hij : i ≠ j) (h16 : n ≤ 16) (m1 : ∀ i, i < 16 → b i = nI (m i)) (m2 : ∀ i, m i < 65536) (m3 : ∀ i j, i < 16 → j < 16 → t (16 * i + j) = if (m i).testBit j then 1 else 0) (m4 : ∀ i j, (m i).testBit j = true → i < n ∧ j < n ∧ i ≠ j) (m5 : ∀ i j, (m i).testBit j = (m j).testBit i) : ∃ m' : Nat → Nat, m' i = clr (m i) j ∧ m' j = clr (m j) i ∧ (∀ a, a < 16 → upd (upd b i (nI (clr (m i) j))) j (nI (clr (m j) i)) a = nI (m' a)) ∧ (∀ i, m' i < 65536) ∧ (∀ a c, a < 16 → c < 16 → upd (upd t (16 * i + j) 0) (16 * j + i) 0 (16 * a + c) = if (m' a).testBit c then 1 else 0) ∧ (∀ i j, (m' i).testBit j = true → i < n ∧ j < n ∧ i ≠ j) ∧ ∀ i j, (m' i).testBit j = (m' j).testBit i := by
  have key : ∀ a c, ((if a = i then clr (m i) j else if a = j then clr (m j) i else m a).testBit c = true) ↔ (¬ (a = i ∧ c = j) ∧ ¬ (a = j ∧ c = i) ∧ (m a).testBit c = true) := by
    intro a c
    by_cases ha : a = i
    · subst ha
      try dsimp only
      rw [if_pos rfl, clr_bit (m2 a) (by omega)]
      simp [hij]
      constructor
      · rintro ⟨h, g⟩; exact ⟨g, h⟩
      · rintro ⟨h, g⟩; exact ⟨g, h⟩
    · try dsimp only
      rw [if_neg ha]
      by_cases hb : a = j
      · subst hb
        try dsimp only
        rw [if_pos rfl, clr_bit (m2 a) (by omega)]
        simp [ha]
        constructor
        · rintro ⟨h, g⟩; exact ⟨g, h⟩
        · rintro ⟨h, g⟩; exact ⟨g, h⟩
      · try dsimp only
        rw [if_neg hb]
        simp [ha, hb]
  refine ⟨fun a => if a = i then clr (m i) j else if a = j then clr (m j) i else m a, if_pos rfl, by show (if j = i then _ else if j = j then _ else _) = _; rw [if_neg (Ne.symm hij), if_pos rfl], fun a ha => ?_, fun a => ?_, fun a c ha hc => ?_, fun a c h => ?_, fun a c => ?_⟩
  · unfold upd
    by_cases h1 : a = j
    · try dsimp only
      rw [if_pos h1, if_neg (by omega), if_pos h1]
    · try dsimp only
      rw [if_neg h1]
      by_cases h2 : a = i
      · try dsimp only
        rw [if_pos h2, if_pos h2]
      · try dsimp only
        rw [if_neg h2, if_neg h2, if_neg h1]; exact m1 a ha
  · show (if a = i then clr (m i) j else if a = j then clr (m j) i else m a) < 65536
    split
    · exact clr_lt (m2 i)
    · split
      · exact clr_lt (m2 j)
      · exact m2 a
  · show upd (upd t (16 * i + j) 0) (16 * j + i) 0 (16 * a + c) = if (if a = i then clr (m i) j else if a = j then clr (m j) i else m a).testBit c then 1 else 0
    unfold upd
    by_cases h1 : 16 * a + c = 16 * j + i
    · try dsimp only
      rw [if_pos h1, if_neg (fun hq => ((key a c).mp hq).2.1 ⟨by omega, by omega⟩)]
    · try dsimp only
      rw [if_neg h1]
      by_cases h2 : 16 * a + c = 16 * i + j
      · try dsimp only
        rw [if_pos h2, if_neg (fun hq => ((key a c).mp hq).1 ⟨by omega, by omega⟩)]
      · try dsimp only
        rw [if_neg h2, m3 a c ha hc]
        by_cases hz : (m a).testBit c = true
        · try dsimp only
          rw [if_pos hz, if_pos ((key a c).mpr ⟨fun ⟨x, y⟩ => h2 (by rw [x, y]), fun ⟨x, y⟩ => h1 (by rw [x, y]), hz⟩)]
        · try dsimp only
          rw [if_neg hz, if_neg (fun hq => hz ((key a c).mp hq).2.2)]
  · exact m4 a c ((key a c).mp h).2.2
  · rw [Bool.eq_iff_iff, key, key, m5 a c]
    constructor
    · rintro ⟨x, y, z⟩; exact ⟨fun ⟨p, q⟩ => y ⟨q, p⟩, fun ⟨p, q⟩ => x ⟨q, p⟩, z⟩
    · rintro ⟨x, y, z⟩; exact ⟨fun ⟨p, q⟩ => y ⟨q, p⟩, fun ⟨p, q⟩ => x ⟨q, p⟩, z⟩
