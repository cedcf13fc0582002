/-! the relation between the class's rows and the model's -/
/-- people -/
def InvP (n : Nat) (s : St) : Prop := n ≤ 16 ∧ gF s 100 = nI n ∧ gF s 3000 = nI n ∧ s.2 2 = s.2 31 ∧ s.2 3 = s.2 33 ∧ s.2 4 = s.2 32 ∧ (∀ p, s.2 31 p = 0 ∨ s.2 31 p = 1) ∧ (∀ p, s.2 33 p = 0 ∨ s.2 33 p = 1) ∧ ∀ p, ∃ r : Nat, r ≤ 9 ∧ s.2 32 p = nI r
/-- a row of bits b against a square of truths t: of those below n, never of one with oneself, on both sides -/
def InvB (n : Nat) (b t : Nat → Int32) : Prop := ∃ m : Nat → Nat, (∀ i, i < 16 → b i = nI (m i)) ∧ (∀ i, m i < 65536) ∧ (∀ i j, i < 16 → j < 16 → t (16 * i + j) = if (m i).testBit j then 1 else 0) ∧ (∀ i j, (m i).testBit j = true → i < n ∧ j < n ∧ i ≠ j) ∧ ∀ i j, (m i).testBit j = (m j).testBit i
/-- cards: the entries e, the model's cards c -/
def InvC (n : Nat) (L e c : Nat → Int32) : Prop := (∀ p d, p < n → d < 24 → e (24 * p + d) = c (24 * p + d)) ∧ (∀ p d, n ≤ p → p < 16 → d < 24 → e (24 * p + d) = -4) ∧ ∀ p d, p < n → d < 24 → (c (24 * p + d) = -4 ∨ (c (24 * p + d) = -5 ∧ ¬ L p = 0) ∨ ∃ q : Nat, q < n ∧ c (24 * p + d) = nI q ∧ (L p = 0 ↔ ¬ L q = 0) ∧ c (24 * q + d) = nI p)
/-- customs -/
def bnd (k : Nat) (v : Int32) : Prop := v = -4 ∨ ∃ j : Nat, v = nI j ∧ j ≤ 24 ∧ (k = 3 → j ≤ 23)
def InvT (a b : Nat → Int32) : Prop := ∀ k, k < 4 → a k = b k ∧ bnd k (b k)
/-- the tape: bytes a, the model's ints b, t of them -/
def InvY (t : Nat) (a b : Nat → Int32) : Prop := t ≤ 100 ∧ ∀ i, i < t → ∃ v : Nat, v < 256 ∧ b i = nI v ∧ a i = (nI v).toInt8.toInt32
/-- sheets -/
def InvS (a18 a19 a46 a47 : Nat → Int32) : Prop := ∀ k, k < 4 → (a19 k = -4 ∧ a46 k = -4) ∨ ∃ l m : Nat, l < 3 ∧ m ≤ 60 ∧ a18 k = nI l ∧ a46 k = nI l ∧ a19 k = nI m ∧ a47 k = nI m
/-- wishes: of ladies and gentlemen, four at most -/
def InvW (n : Nat) (L w : Nat → Int32) : Prop := ∀ i, ∃ v : Nat, v ≤ 4 ∧ w i = nI v ∧ (0 < v → ∃ l g, i = 16 * l + g ∧ l < n ∧ g < n ∧ ¬ L l = 0 ∧ L g = 0)
theorem e_lady {a : Int32} {n : Nat} {s : St} {Q : Int32 → St → Prop} (hn : gF s 100 = nI n) (h16 : n ≤ 16) : wX2_isLady a s Q = Q (bi (vp_in a n ∧ ¬ s.2 2 a.toNatClampNeg = 0)) s := by
  try dsimp only
  unfold wX2_isLady
  try dsimp only
  rw [e_there hn h16]
  by_cases h : vp_in a n
  · have h2 : vp_in a 16 := by rw [vp_in_iff] at h ⊢; omega
    try dsimp only
    rw [bi_t h, if_neg (by decide), g_A]
    by_cases h3 : s.2 2 a.toNatClampNeg = 0
    · try dsimp only
      rw [if_pos h3, bi_f (fun z => z.2 h3)]; exact propext ⟨fun z => z.2, fun z => ⟨h2, z⟩⟩
    · try dsimp only
      rw [if_neg h3, bi_t ⟨h, h3⟩]; exact propext ⟨fun z => z.2, fun z => ⟨h2, z⟩⟩
  · try dsimp only
    rw [bi_f h, if_pos rfl, bi_f (fun z => h z.1)]
theorem e_gent {a : Int32} {n : Nat} {s : St} {Q : Int32 → St → Prop} (hn : gF s 100 = nI n) (h16 : n ≤ 16) : wX2_isGentleman a s Q = Q (bi (vp_in a n ∧ s.2 2 a.toNatClampNeg = 0)) s := by
  try dsimp only
  unfold wX2_isGentleman
  try dsimp only
  rw [e_there hn h16]
  by_cases h : vp_in a n
  · have h2 : vp_in a 16 := by rw [vp_in_iff] at h ⊢; omega
    try dsimp only
    rw [bi_t h, if_neg (by decide), g_A]
    by_cases h3 : s.2 2 a.toNatClampNeg = 0
    · try dsimp only
      rw [if_pos h3, bi_t ⟨h, h3⟩]; exact propext ⟨fun z => z.2, fun z => ⟨h2, z⟩⟩
    · try dsimp only
      rw [if_neg h3, bi_f (fun z => h3 z.2)]; exact propext ⟨fun z => z.2, fun z => ⟨h2, z⟩⟩
  · try dsimp only
    rw [bi_f h, if_pos rfl, bi_f (fun z => h z.1)]
/-- g a gentleman, l a lady, d a dance -/
def Ask (n : Nat) (L : Nat → Int32) (g l d : Int32) : Prop := (vp_in g n ∧ L g.toNatClampNeg = 0) ∧ (vp_in l n ∧ ¬ L l.toNatClampNeg = 0) ∧ vp_in d 24
theorem e_asking {g l d : Int32} {n : Nat} {s : St} {Q : Int32 → St → Prop} (hn : gF s 100 = nI n) (h16 : n ≤ 16) : wX7_isAsking g l d s Q = Q (bi (Ask n (s.2 2) g l d)) s := by
  try dsimp only
  unfold wX7_isAsking
  try dsimp only
  rw [e_gent hn h16]
  by_cases h1 : vp_in g n ∧ s.2 2 g.toNatClampNeg = 0
  · try dsimp only
    rw [bi_t h1, if_neg (by decide), e_lady hn h16]
    by_cases h2 : vp_in l n ∧ ¬ s.2 2 l.toNatClampNeg = 0
    · try dsimp only
      rw [bi_t h2, if_neg (by decide), e_dance]
      by_cases h3 : vp_in d 24
      · try dsimp only
        rw [bi_t h3, if_neg (by decide), bi_t ⟨h1, h2, h3⟩]
      · try dsimp only
        rw [bi_f h3, if_pos rfl, bi_f (fun z => h3 z.2.2)]
    · try dsimp only
      rw [bi_f h2, if_pos rfl, bi_f (fun z => h2 z.2.1)]
  · try dsimp only
    rw [bi_f h1, if_pos rfl, bi_f (fun z => h1 z.1)]
theorem e_couple {g l d : Int32} {n : Nat} {s : St} {Q : Int32 → St → Prop} (hn : gF s 3000 = nI n) (h16 : n ≤ 16) : wX8_areCouple g l d s Q = Q (bi (Ask n (s.2 31) g l d)) s := by
  try dsimp only
  unfold wX8_areCouple
  try dsimp only
  rw [e_is hn h16]
  by_cases h : vp_in g n
  · have hg : vp_in g 16 := by rw [vp_in_iff] at h ⊢; omega
    try dsimp only
    rw [bi_t h, if_neg (by decide), g_A]
    by_cases h0 : s.2 31 g.toNatClampNeg = 0
    · try dsimp only
      rw [if_pos h0, e_is hn h16]
      by_cases h1 : vp_in l n
      · have hl : vp_in l 16 := by rw [vp_in_iff] at h1 ⊢; omega
        try dsimp only
        rw [bi_t h1, if_neg (by decide), g_A]
        by_cases h2 : s.2 31 l.toNatClampNeg = 0
        · try dsimp only
          rw [if_pos h2, bi_f (fun z => z.2.1.2 h2)]; exact propext ⟨fun z => z.2.2, fun z => ⟨hg, hl, z⟩⟩
        · try dsimp only
          rw [if_neg h2, e_in (m := 24) rfl (by decide) (by decide)]
          by_cases h3 : vp_in d 24
          · try dsimp only
            rw [bi_t h3, if_neg (by decide), bi_t ⟨⟨h, h0⟩, ⟨h1, h2⟩, h3⟩]; exact propext ⟨fun z => z.2.2, fun z => ⟨hg, hl, z⟩⟩
          · try dsimp only
            rw [bi_f h3, if_pos rfl, bi_f (fun z => h3 z.2.2)]; exact propext ⟨fun z => z.2.2, fun z => ⟨hg, hl, z⟩⟩
      · try dsimp only
        rw [bi_f h1, if_pos rfl, bi_f (fun z => h1 z.2.1.1)]; exact propext ⟨fun z => z.2, fun z => ⟨hg, z⟩⟩
    · try dsimp only
      rw [if_neg h0, bi_f (fun z => h0 z.1.2)]; exact propext ⟨fun z => z.2, fun z => ⟨hg, z⟩⟩
  · try dsimp only
    rw [bi_f h, if_pos rfl, bi_f (fun z => h z.1.1)]
def Two (n : Nat) (a b : Int32) : Prop := vp_in a n ∧ vp_in b n ∧ ¬ a = b
theorem e_two {a b : Int32} {n : Nat} {s : St} {Q : Int32 → St → Prop} (hn : gF s 100 = nI n) (h16 : n ≤ 16) : wX7_areTwo a b s Q = Q (bi (Two n a b)) s := by
  try dsimp only
  unfold wX7_areTwo
  by_cases h : a = b
  · try dsimp only
    rw [if_pos h, bi_f (fun z => z.2.2 h)]
  · try dsimp only
    rw [if_neg h, e_there hn h16]
    by_cases h1 : vp_in a n
    · try dsimp only
      rw [bi_t h1, if_neg (by decide), e_there hn h16]
      by_cases h2 : vp_in b n
      · try dsimp only
        rw [bi_t h2, if_neg (by decide), bi_t ⟨h1, h2, h⟩]
      · try dsimp only
        rw [bi_f h2, if_pos rfl, bi_f (fun z => h2 z.2.1)]
    · try dsimp only
      rw [bi_f h1, if_pos rfl, bi_f (fun z => h1 z.1)]
theorem e_two8 {a b : Int32} {n : Nat} {s : St} {Q : Int32 → St → Prop} (hn : gF s 3000 = nI n) (h16 : n ≤ 16) : wX8_areTwo a b s Q = Q (bi (Two n a b)) s := by
  try dsimp only
  unfold wX8_areTwo
  try dsimp only
  rw [e_is hn h16]
  by_cases h1 : vp_in a n
  · try dsimp only
    rw [bi_t h1, if_neg (by decide), e_is hn h16]
    by_cases h2 : vp_in b n
    · try dsimp only
      rw [bi_t h2, if_neg (by decide)]
      by_cases h : a = b
      · try dsimp only
        rw [if_pos h, bi_f (fun z => z.2.2 h)]
      · try dsimp only
        rw [if_neg h, bi_t ⟨h1, h2, h⟩]
    · try dsimp only
      rw [bi_f h2, if_pos rfl, bi_f (fun z => h2 z.2.1)]
  · try dsimp only
    rw [bi_f h1, if_pos rfl, bi_f (fun z => h1 z.1)]
/-- the index of a pair, of a person's dance -/
theorem ix16 (i j : Nat) : (16 : Int32) * nI i + nI j = nI (16 * i + j) := by rw [l_n 16, pk_mul, nI_add]
theorem ix24 (i j : Nat) : (24 : Int32) * nI i + nI j = nI (24 * i + j) := by rw [l_n 24, pk_mul, nI_add]
theorem ix24' (i j : Nat) : nI i * (24 : Int32) + nI j = nI (24 * i + j) := by rw [l_n 24, pk_mul, nI_add, Nat.mul_comm]
theorem ix64 (i j : Nat) : (64 : Int32) * nI i + nI j = nI (64 * i + j) := by rw [l_n 64, pk_mul, nI_add]
theorem ix64' (i j : Nat) : nI i * (64 : Int32) + nI j = nI (64 * i + j) := by rw [l_n 64, pk_mul, nI_add, Nat.mul_comm]
theorem ix60 (i j : Nat) : (60 : Int32) * nI i + nI j = nI (60 * i + j) := by rw [l_n 60, pk_mul, nI_add]
theorem ix60' (i j : Nat) : nI i * (60 : Int32) + nI j = nI (60 * i + j) := by rw [l_n 60, pk_mul, nI_add, Nat.mul_comm]
theorem ix16' (i j : Nat) : nI i * (16 : Int32) + nI j = nI (16 * i + j) := by rw [l_n 16, pk_mul, nI_add, Nat.mul_comm]
theorem vin {i n : Nat} (h : i < n) (hn : n < 2147483648) : vp_in (nI i) n := vp_in_nI h hn
theorem cl {i : Nat} (h : i < 2147483648) : (nI i).toNatClampNeg = i := nI_clamp h
theorem ne_of_nI {i j : Nat} (hi : i < 2147483648) (hj : j < 2147483648) : (nI i = nI j) = (i = j) := propext (nI_eq hi hj)
/-- bits -/
theorem sh1 {j : Nat} (h : j < 16) : (1 : Int32) <<< (nI j &&& 31) = nI (2 ^ j) := by
  have : j = 0 ∨ j = 1 ∨ j = 2 ∨ j = 3 ∨ j = 4 ∨ j = 5 ∨ j = 6 ∨ j = 7 ∨ j = 8 ∨ j = 9 ∨ j = 10 ∨ j = 11 ∨ j = 12 ∨ j = 13 ∨ j = 14 ∨ j = 15 := by omega
  rcases this with rfl | rfl | rfl | rfl | rfl | rfl | rfl | rfl | rfl | rfl | rfl | rfl | rfl | rfl | rfl | rfl <;> decide
theorem bit0 {m j : Nat} (h : j < 16) : (nI m &&& (1 : Int32) <<< (nI j &&& 31) = 0) = (m.testBit j = false) := by rw [sh1 h]; exact propext (fa_bit (by omega))
theorem bit_or {m j : Nat} (h : j < 16) : nI m ||| (1 : Int32) <<< (nI j &&& 31) = nI (m ||| 2 ^ j) := by rw [sh1 h, fa_or]
theorem notm {j : Nat} (h : j < 16) : ((1 : Int32) <<< (nI j &&& 31)) ^^^ (-1 : Int32) = nI (4294967295 - 2 ^ j) := by
  have : j = 0 ∨ j = 1 ∨ j = 2 ∨ j = 3 ∨ j = 4 ∨ j = 5 ∨ j = 6 ∨ j = 7 ∨ j = 8 ∨ j = 9 ∨ j = 10 ∨ j = 11 ∨ j = 12 ∨ j = 13 ∨ j = 14 ∨ j = 15 := by omega
  rcases this with rfl | rfl | rfl | rfl | rfl | rfl | rfl | rfl | rfl | rfl | rfl | rfl | rfl | rfl | rfl | rfl <;> decide
/-- a number without one of its bits -/
def clr (m j : Nat) : Nat := m &&& (4294967295 - 2 ^ j)
theorem bit_clr {m j : Nat} (h : j < 16) : nI m &&& (((1 : Int32) <<< (nI j &&& 31)) ^^^ (-1 : Int32)) = nI (clr m j) := by rw [notm h, fa_and]; rfl
theorem clr_bit {m j i : Nat} (hm : m < 65536) (h : j < 16) : (clr m j).testBit i = (m.testBit i && !decide (i = j)) := by
  unfold clr
  rw [Nat.testBit_and]
  by_cases hi : i < 16
  · congr 1
    rw [show 4294967295 - 2 ^ j = 2 ^ 32 - (2 ^ j + 1) by omega, Nat.testBit_two_pow_sub_succ (by
      calc 2 ^ j < 2 ^ 16 := Nat.pow_lt_pow_right (by omega) h
        _ < 2 ^ 32 := by decide), Nat.testBit_two_pow]
    have : i < 32 := by omega
    simp [this, eq_comm]
  · have : m.testBit i = false := Nat.testBit_lt_two_pow (Nat.lt_of_lt_of_le hm (show 65536 ≤ 2 ^ i from by
      calc 65536 = 2 ^ 16 := by decide
        _ ≤ 2 ^ i := Nat.pow_le_pow_right (by omega) (by omega)))
    rw [this]; rfl
theorem clr_lt {m j : Nat} (hm : m < 65536) : clr m j < 65536 := Nat.lt_of_le_of_lt Nat.and_le_left hm
theorem or_lt {m j : Nat} (hm : m < 65536) (h : j < 16) : m ||| 2 ^ j < 65536 := Nat.or_lt_two_pow (n := 16) hm (Nat.pow_lt_pow_right (by omega) h)
