/-! lay, person -/
theorem i32_nat {a b : Int32} (h : a.toBitVec.toNat = b.toBitVec.toNat) : a = b := Int32.toBitVec_inj.mp (BitVec.eq_of_toNat_eq h)
theorem shl_low (x : Int32) (s : Int32) (k w : Nat) (hs : (s.toBitVec.smod 32).toNat = k) (hw : 2 ^ 32 = 2 ^ w * 2 ^ k) (hwl : w < 32) : x <<< s = nI (x.toBitVec.toNat % 2 ^ w) <<< s := by
  apply i32_nat
  have hr : x.toBitVec.toNat % 2 ^ w < 2 ^ 32 := Nat.lt_of_lt_of_le (Nat.mod_lt _ (Nat.two_pow_pos w)) (Nat.pow_le_pow_right (by omega) (by omega))
  rw [pk_shl _ s k hs, pk_shl _ s k hs, pk_tn hr, hw, Nat.mul_mod_mul_right, Nat.mul_mod_mul_right, Nat.mod_mod]
theorem sx8 (x : Int32) : (x <<< ((24 : Int32) &&& 31)) >>> ((24 : Int32) &&& 31) = x.toInt8.toInt32 := by
  rw [show (24 : Int32) &&& 31 = 24 from by decide, shl_low x 24 24 8 (by decide) (by decide) (by decide), ← fa_byte_low x, pk_and x 8 (by decide)]
  have h : x.toBitVec.toNat % 2 ^ 8 < 256 := Nat.mod_lt _ (by decide)
  generalize x.toBitVec.toNat % 2 ^ 8 = r at h ⊢
  have key : ∀ r : Fin 256, (nI r.val <<< (24 : Int32)) >>> (24 : Int32) = (nI r.val).toInt8.toInt32 := by decide +kernel
  exact key ⟨r, h⟩
theorem sx16 (x : Int32) : (x <<< ((16 : Int32) &&& 31)) >>> ((16 : Int32) &&& 31) = x.toInt16.toInt32 := by
  rw [show (16 : Int32) &&& 31 = 16 from by decide, shl_low x 16 16 16 (by decide) (by decide) (by decide), ← fa_short_low x, pk_and x 16 (by decide)]
  have h : x.toBitVec.toNat % 2 ^ 16 < 65536 := Nat.mod_lt _ (by decide)
  generalize x.toBitVec.toNat % 2 ^ 16 = r at h ⊢
  apply Int32.toInt_inj.mp
  rw [pk_shr _ 16 16 (by decide), Int16.toInt_toInt32, Int32.toInt_toInt16, nI_i (by omega), Int.shiftRight_eq_div_pow]
  have e1 : (nI r <<< (16 : Int32)).toBitVec.toNat = r * 65536 := by
    rw [pk_shl _ 16 16 (by decide), pk_tn (by omega)]
    exact Nat.mod_eq_of_lt (by omega)
  have e2 : (nI r <<< (16 : Int32)).toInt = if r < 32768 then (r : Int) * 65536 else (r : Int) * 65536 - 4294967296 := by
    show (nI r <<< (16 : Int32)).toBitVec.toInt = _
    rw [BitVec.toInt_eq_toNat_cond, e1]
    by_cases hr : r < 32768
    · try dsimp only
      rw [if_pos hr, if_pos (by omega)]; omega
    · try dsimp only
      rw [if_neg hr, if_neg (by omega)]; omega
  have e3 : (r : Int).bmod (2 ^ 16) = if r < 32768 then (r : Int) else (r : Int) - 65536 := by
    rw [Int.bmod_def]
    by_cases hr : r < 32768
    · try dsimp only
      rw [if_pos hr, if_pos (by omega)]; omega
    · try dsimp only
      rw [if_neg hr, if_neg (by omega)]; omega
  rw [e2, e3]
  by_cases hr : r < 32768
  · try dsimp only
    rw [if_pos hr, if_pos hr]
    show (r : Int) * 65536 / ((2 ^ 16 : Nat) : Int) = r
    omega
  · try dsimp only
    rw [if_neg hr, if_neg hr]
    show ((r : Int) * 65536 - 4294967296) / ((2 ^ 16 : Nat) : Int) = r - 65536
    omega
theorem e_has {k m j : Nat} {i cj : Int32} {s : St} {Q : Int32 → St → Prop} (hcj : cj = nI j) (hk : k < 4) (hm : s.2 19 k = nI m) (h60 : m ≤ 60) (hj : j ≤ 3) : wX4_hasCells (nI k) i cj s Q = Q (bi (0 ≤ i.toInt ∧ i.toInt + j ≤ m)) s := by
  subst hcj
  try dsimp only
  unfold wX4_hasCells
  try dsimp only
  rw [gn (by omega), hm]
  have e : (nI m - nI j).toInt = (m : Int) - j := pk_sub_toInt (by omega) (by omega)
  by_cases h : i < 0
  · try dsimp only
    rw [if_pos h, bi_f]
    rw [Int32.lt_iff_toInt_lt] at h
    have e2 : (0 : Int32).toInt = 0 := by decide
    omega
  · try dsimp only
    rw [if_neg h]
    rw [Int32.lt_iff_toInt_lt, show (0 : Int32).toInt = 0 from by decide] at h
    by_cases h2 : nI m - nI j < i
    · try dsimp only
      rw [if_pos h2, bi_f]
      · exact propext ⟨fun z => z.2, fun z => ⟨vin hk (by omega), z⟩⟩
      · rw [Int32.lt_iff_toInt_lt, e] at h2; omega
    · try dsimp only
      rw [if_neg h2, bi_t]
      · exact propext ⟨fun z => z.2, fun z => ⟨vin hk (by omega), z⟩⟩
      · rw [Int32.lt_iff_toInt_lt, e] at h2; omega
theorem op_lay (a b c : Int32) : Op (fun Q s => wX7_lay a b c s Q) (fun Q s => wX8_lay a b c s Q) := by
  intro s hI K hK
  obtain ⟨n, t, hP, hB, hF, hC, hT, hX, ⟨z1, z2⟩, hQ⟩ := id hI
  show wX7_lay a b c s _
  try dsimp only
  unfold wX7_lay
  try dsimp only
  rw [e_sheet4]
  by_cases h1 : vp_in a 4
  · obtain ⟨k, hk, rfl⟩ := vp_in_of h1 (by decide)
    try dsimp only
    rw [bi_t h1, if_neg (by decide)]
    try dsimp only
    unfold wX4_isSomething
    refine ⟨h1, ?_⟩
    try dsimp only
    rw [gn (by omega)]
    rcases z1 k hk with ⟨y1, y2⟩ | ⟨l, m, hl, hm, y1, y2, y3, y4⟩
    · try dsimp only
      rw [if_pos y1, if_pos rfl]
      try dsimp only
      try dsimp only
      unfold wX8_lay
      try dsimp only
      rw [e_in (m := 4) rfl (by decide) (by decide), bi_t h1, if_neg (by decide)]
      refine ⟨h1, ?_⟩
      try dsimp only
      rw [gn (by omega), if_pos y2]
      exact hK _ _ hI
    · try dsimp only
      rw [if_neg (by rw [y3]; exact m4_ne' (by omega)), if_neg (by decide), e_has (cj := 1) (j := 1) rfl hk y3 hm (by decide)]
      by_cases h2 : 0 ≤ b.toInt ∧ b.toInt + (1 : Nat) ≤ m
      · have h3 : vp_in b m := by rw [vp_in_iff]; omega
        obtain ⟨i, hi, rfl⟩ := vp_in_of h3 (by omega)
        try dsimp only
        rw [bi_t h2, if_neg (by decide)]
        try dsimp only
        unfold wX4_write wX4_lowestBits
        refine ⟨h1, ?_⟩
        try dsimp only
        rw [gn (by omega), y1]
        have hv : vp_in (nI (60 * k + i)) 240 := vin (by omega) (by omega)
        have fin : ∀ v : Int32, v = (if l = 0 then c.toInt8.toInt32 else if l = 1 then c.toInt16.toInt32 else c) → (vp_in (nI k * 60 + nI i) 240 ∧ wX8_lay (nI k) (nI i) c (stA s 20 (nI k * 60 + nI i) v) (fun r' s2 => K 1 r' s2)) := by
          intro v hv2
          try dsimp only
          rw [ix60']
          refine ⟨hv, ?_⟩
          try dsimp only
          unfold wX8_lay
          try dsimp only
          rw [e_in (m := 4) rfl (by decide) (by decide), bi_t h1, if_neg (by decide)]
          refine ⟨h1, ?_⟩
          rw [show gA (stA s 20 (nI (60 * k + i)) v) 46 (nI k) = nI l from (gn (by omega)).trans y2, show gA (stA s 20 (nI (60 * k + i)) v) 47 (nI k) = nI m from (gn (by omega)).trans y4, if_neg (m4_ne' (by omega))]
          refine ⟨h1, ?_⟩
          try dsimp only
          rw [e_in (m := m) rfl (by rw [Int32.toInt_toInt64]; exact (pk_sub_toInt (a := m) (b := 1) (by omega) (by omega))) (by omega), bi_t h3, if_neg (by decide)]
          refine ⟨h1, ?_⟩
          rw [show gA (stA s 20 (nI (60 * k + i)) v) 46 (nI k) = nI l from (gn (by omega)).trans y2, ix60, sx8, sx16]
          have done : ∀ w : Int32, w = v → K 1 1 (stA (stA s 20 (nI (60 * k + i)) v) 48 (nI (60 * k + i)) w) := by
            rintro w rfl
            refine hK _ _ ⟨n, t, hP, hB, hF, hC, hT, hX, ⟨z1, ?_⟩, hQ⟩
            show upd (s.2 20) (nI (60 * k + i)).toNatClampNeg w = upd (s.2 48) (nI (60 * k + i)).toNatClampNeg w
            rw [z2]
          by_cases l0 : l = 0
          · subst l0
            try dsimp only
            rw [if_pos (show nI 0 = (0 : Int32) from rfl)]
            exact ⟨hv, done _ (by rw [hv2, if_pos rfl])⟩
          · try dsimp only
            rw [if_neg (fun e : nI l = 0 => l0 ((nI_eq (b := 0) (by omega) (by omega)).mp e))]
            refine ⟨h1, ?_⟩
            by_cases l1 : l = 1
            · subst l1
              try dsimp only
              rw [if_pos (show nI 1 = (1 : Int32) from rfl)]
              exact ⟨hv, done _ (by rw [hv2, if_neg l0, if_pos rfl])⟩
            · try dsimp only
              rw [if_neg (fun e : nI l = 1 => l1 ((nI_eq (b := 1) (by omega) (by omega)).mp e))]
              exact ⟨hv, done _ (by rw [hv2, if_neg l0, if_neg l1])⟩
        by_cases l0 : l = 0
        · subst l0
          try dsimp only
          rw [if_pos (show nI 0 = (0 : Int32) from rfl)]
          exact fin _ (by rw [if_pos rfl])
        · try dsimp only
          rw [if_neg (fun e : nI l = 0 => l0 ((nI_eq (b := 0) (by omega) (by omega)).mp e))]
          by_cases l1 : l = 1
          · subst l1
            try dsimp only
            rw [if_pos (show nI 1 = (1 : Int32) from rfl)]
            exact fin _ (by rw [if_neg l0, if_pos rfl])
          · try dsimp only
            rw [if_neg (fun e : nI l = 1 => l1 ((nI_eq (b := 1) (by omega) (by omega)).mp e))]
            exact fin _ (by rw [if_neg l0, if_neg l1])
      · try dsimp only
        rw [bi_f h2, if_pos rfl]
        try dsimp only
        try dsimp only
        unfold wX8_lay
        try dsimp only
        rw [e_in (m := 4) rfl (by decide) (by decide), bi_t h1, if_neg (by decide)]
        refine ⟨h1, ?_⟩
        try dsimp only
        rw [gn (by omega), gn (by omega), y2, y4, if_neg (m4_ne' (by omega))]
        refine ⟨h1, ?_⟩
        try dsimp only
        rw [e_in (m := m) rfl (by rw [Int32.toInt_toInt64]; exact (pk_sub_toInt (a := m) (b := 1) (by omega) (by omega))) (by omega), bi_f (by rw [vp_in_iff]; omega), if_pos rfl]
        exact hK _ _ hI
  · try dsimp only
    rw [bi_f h1, if_pos rfl]
    try dsimp only
    unfold wX8_lay
    try dsimp only
    rw [e_in (m := 4) rfl (by decide) (by decide), bi_f h1, if_pos rfl]
    exact hK _ _ hI
theorem lp_person {n : Nat} (hn : n < 16) {Q : Int32 → St → Prop} : ∀ m i s, i + m = 24 → gF s 3000 = nI n → Q (nI n) (stF (stC s 37 (fil (s.2 37) (24 * n + i) (24 * n + 24) (-4))) 3000 (nI (n + 1))) → wX8_person_48 (nI i) s Q := by
  intro m i s hm hg hq P hP
  induction m generalizing i s with
  | zero =>
    have e : i = 24 := by omega
    subst e
    rw [fil_0, st_self] at hq
    refine hP _ _ ?_
    try dsimp only
    unfold wX8_person_48_b
    try dsimp only
    rw [if_pos (show (24 : Int32) ≤ nI 24 from nI_le (a := 24) (b := 24) (by omega) (by omega)), hg, nI_1, g_FF, if_pos rfl, show nI (n + 1) - 1 = nI n from nI_pred n]
    exact hq
  | succ m ih =>
    refine hP _ _ ?_
    try dsimp only
    unfold wX8_person_48_b
    try dsimp only
    rw [if_neg (show ¬ (24 : Int32) ≤ nI i from nI_ge (a := i) (b := 24) (by omega) (by omega)), hg, ix24, nI_1]
    refine ⟨vin (by omega) (by omega), ih (i + 1) _ (by omega) hg ?_⟩
    rw [st_AC, g_AA, if_pos rfl, cl (by omega), show 24 * n + (i + 1) = 24 * n + i + 1 by omega, fil_s (by omega)]
    exact hq
theorem InvB.mono {n k : Nat} {b t : Nat → Int32} (h : InvB n b t) (hk : n ≤ k) : InvB k b t := by
  obtain ⟨m, m1, m2, m3, m4, m5⟩ := h
  exact ⟨m, m1, m2, m3, fun i j z => by obtain ⟨x, y, w⟩ := m4 i j z; exact ⟨by omega, by omega, w⟩, m5⟩
theorem op_person (a b : Int32) : Op (fun Q s => wX7_person a b s Q) (fun Q s => wX8_person a b s Q) := by
  intro s hI K hK
  obtain ⟨n, t, hP, hB, hF, hC, hT, hX, hZ, hQ⟩ := id hI
  obtain ⟨h16, n1, n2, p1, p2, p3, p4, p5, p6⟩ := hP
  show wX7_person a b s _
  try dsimp only
  unfold wX7_person
  try dsimp only
  rw [e_within (m := 10) (by decide)]
  by_cases h1 : vp_in b 10
  · try dsimp only
    rw [bi_t h1, if_neg (by decide), n1]
    by_cases h2 : n < 16
    · try dsimp only
      rw [if_pos (show nI n < (16 : Int32) from nI_lt (b := 16) h2 (by omega))]
      have v16 : vp_in (nI n) 16 := vin h2 (by omega)
      try dsimp only
      unfold wX2_welcome
      rw [n1, g_AF, g_AF, g_AF, n1, nI_1, g_FF, if_pos rfl, show nI (n + 1) - 1 = nI n from nI_pred n]
      refine ⟨v16, v16, ?_⟩
      try dsimp only
      unfold wX8_person
      try dsimp only
      rw [e_in (m := 10) rfl (by decide) (by decide), bi_t h1, if_neg (by decide)]
      have e3 : ∀ s1 : St, s1 = (stF (stA (stA s 2 (nI n) (vp_nar .boolean a)) 4 (nI n) b) 100 (nI (n + 1))) → gF s1 3000 = nI n := by rintro s1 rfl; exact n2
      rw [e3 _ rfl, if_neg (fun e : nI n = 16 => by have := (nI_eq (b := 16) (by omega) (by omega)).mp e; omega)]
      refine ⟨v16, ?_⟩
      try dsimp only
      rw [g_AF, e3 _ rfl]
      refine ⟨v16, lp_person h2 24 0 _ (by omega) n2 (hK _ _ ⟨n + 1, t, ⟨by omega, rfl, rfl, ?_, p2, ?_, ?_, p5, ?_⟩, hB.mono (by omega), hF.mono (by omega), ?_, hT, hX, hZ, ⟨⟨hQ.1.1, ?_⟩, hQ.2⟩⟩)⟩
      · show upd (s.2 2) (nI n).toNatClampNeg (vp_nar .boolean a) = upd (s.2 31) (nI n).toNatClampNeg (vp_nar .boolean a)
        rw [p1]
      · show upd (s.2 4) (nI n).toNatClampNeg b = upd (s.2 32) (nI n).toNatClampNeg b
        rw [p3]
      · intro p
        show upd (s.2 31) (nI n).toNatClampNeg (vp_nar .boolean a) p = 0 ∨ upd (s.2 31) (nI n).toNatClampNeg (vp_nar .boolean a) p = 1
        unfold upd
        split
        · exact vb_cases a
        · exact p4 p
      · intro p
        show ∃ r : Nat, r ≤ 9 ∧ upd (s.2 32) (nI n).toNatClampNeg b p = nI r
        unfold upd
        split
        · obtain ⟨r, hr, e⟩ := vp_in_of h1 (by decide)
          exact ⟨r, by omega, e⟩
        · exact p6 p
      · obtain ⟨c1, c2, c3⟩ := hC
        show InvC (n + 1) (upd (s.2 31) (nI n).toNatClampNeg (vp_nar .boolean a)) (s.2 12) (fil (s.2 37) (24 * n + 0) (24 * n + 24) (-4))
        rw [cl (by omega)]
        have old : ∀ p d, p < n → d < 24 → fil (s.2 37) (24 * n + 0) (24 * n + 24) (-4) (24 * p + d) = s.2 37 (24 * p + d) := by
          intro p d hp hd
          unfold fil
          try dsimp only
          rw [if_neg (by omega)]
        have new : ∀ d, d < 24 → fil (s.2 37) (24 * n + 0) (24 * n + 24) (-4) (24 * n + d) = -4 := by
          intro d hd
          unfold fil
          try dsimp only
          rw [if_pos (by omega)]
        refine ⟨fun p d hp hd => ?_, fun p d hp hp2 hd => c2 p d (by omega) hp2 hd, fun p d hp hd => ?_⟩
        · by_cases e : p = n
          · subst e; rw [new d hd]; exact c2 p d (by omega) h2 hd
          · rw [old p d (by omega) hd]; exact c1 p d (by omega) hd
        · by_cases e : p = n
          · subst e; exact Or.inl (new d hd)
          · rw [old p d (by omega) hd, upd_n e]
            rcases c3 p d (by omega) hd with h | h | ⟨q, q1, q2, q3, q4⟩
            · exact Or.inl h
            · exact Or.inr (Or.inl h)
            · exact Or.inr (Or.inr ⟨q, by omega, q2, by rw [upd_n (by omega)]; exact q3, by rw [old q d q1 hd]; exact q4⟩)
      · intro i
        obtain ⟨v, v1, v2, v3⟩ := hQ.1.2 i
        refine ⟨v, v1, v2, fun z => ?_⟩
        obtain ⟨l, g, e, hl, hg, a1, a2⟩ := v3 z
        refine ⟨l, g, e, by omega, by omega, ?_, ?_⟩
        · show ¬ upd (s.2 31) (nI n).toNatClampNeg (vp_nar .boolean a) l = 0
          rw [cl (by omega), upd_n (by omega)]; exact a1
        · show upd (s.2 31) (nI n).toNatClampNeg (vp_nar .boolean a) g = 0
          rw [cl (by omega), upd_n (by omega)]; exact a2
    · have e : n = 16 := by omega
      subst e
      try dsimp only
      rw [if_neg (show ¬ nI 16 < (16 : Int32) from nI_nlt (a := 16) (b := 16) (by omega) (by omega))]
      try dsimp only
      unfold wX8_person
      try dsimp only
      rw [e_in (m := 10) rfl (by decide) (by decide), bi_t h1, if_neg (by decide), n2, if_pos (show nI 16 = (16 : Int32) from rfl)]
      exact hK _ _ hI
  · try dsimp only
    rw [bi_f h1, if_pos rfl]
    try dsimp only
    unfold wX8_person
    try dsimp only
    rw [e_in (m := 10) rfl (by decide) (by decide), bi_f h1, if_pos rfl]
    exact hK _ _ hI
