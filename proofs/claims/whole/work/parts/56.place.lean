/-! the class's placing -/
def g3 (s : St) (pl sz mb : Nat → Int32) : St := stC (stC (stC s 27 pl) 28 sz) 29 mb
theorem g3_27 {s : St} {pl sz mb : Nat → Int32} {i v : Int32} : stA (g3 s pl sz mb) 27 i v = g3 s (upd pl i.toNatClampNeg v) sz mb := by
  refine st_ext (fun k => rfl) (fun k j => ?_)
  unfold g3
  simp only [g_AA, g_CA]
  by_cases h : k = 27
  · subst h; rfl
  · simp only [if_neg h]
theorem g3_28 {s : St} {pl sz mb : Nat → Int32} {i v : Int32} : stA (g3 s pl sz mb) 28 i v = g3 s pl (upd sz i.toNatClampNeg v) mb := by
  refine st_ext (fun k => rfl) (fun k j => ?_)
  unfold g3
  simp only [g_AA, g_CA]
  by_cases h : k = 28
  · subst h; rfl
  · simp only [if_neg h]
theorem g3_29 {s : St} {pl sz mb : Nat → Int32} {i v : Int32} : stA (g3 s pl sz mb) 29 i v = g3 s pl sz (upd mb i.toNatClampNeg v) := by
  refine st_ext (fun k => rfl) (fun k j => ?_)
  unfold g3
  simp only [g_AA, g_CA]
  by_cases h : k = 29
  · subst h; rfl
  · simp only [if_neg h]
theorem g3_sim (s : St) (a b c : Nat → Int32) : sim s (g3 s a b c) := (((sim.rf s).tr (sim.C (by decide))).tr (sim.C (by decide))).tr (sim.C (by decide))
def PlI (B G f : Nat → Nat) (i : Nat) (sz mb : Nat → Int32) : Prop := ∀ a, a < 8 → sz a = nI (nct f a i) ∧ ∃ M, mb a = nI M ∧ M < 65536 ∧ ∀ b, M.testBit b = true ↔ ∃ k, k < i ∧ f k = a ∧ (b = B k ∨ b = G k)
def opn (q : Nat → Nat → Prop) (f : Nat → Nat) (i a : Nat) : Prop := nct f a i < 4 ∧ ∀ k, k < i → f k = a → ¬ q k i
theorem okc_updN {q : Nat → Nat → Prop} {f : Nat → Nat} {i a : Nat} : okc q (updN f i a) i ↔ opn q f i a := by
  unfold okc opn
  rw [updN_s, nct_cong (g := f) (fun k hk => updN_n (by omega))]
  constructor
  · rintro ⟨x, y⟩; exact ⟨x, fun k hk e => y k hk (by rw [updN_n (by omega)]; exact e)⟩
  · rintro ⟨x, y⟩; exact ⟨x, fun k hk e => y k hk (by rw [updN_n (by omega)] at e; exact e)⟩
theorem two_bit {x y b : Nat} : (2 ^ x ||| 2 ^ y).testBit b = true ↔ (b = x ∨ b = y) := by
  rw [Nat.testBit_or, Nat.testBit_two_pow, Nat.testBit_two_pow, Bool.or_eq_true, decide_eq_true_iff, decide_eq_true_iff]
  constructor <;> (intro h; omega)
theorem PlI.put {B G f : Nat → Nat} {i a : Nat} {sz mb : Nat → Int32} (h : PlI B G f i sz mb) (ha : a < 8) (hB : B i < 16) (hG : G i < 16) : PlI B G (updN f i a) (i + 1) (upd sz a (sz a + 1)) (upd mb a (mb a ||| nI (2 ^ B i ||| 2 ^ G i))) := by
  intro c hc
  obtain ⟨h1, M, h2, h3, h4⟩ := h c hc
  rw [nct_s, updN_s, nct_cong (g := f) (fun k hk => updN_n (by omega))]
  by_cases e : c = a
  · subst e
    rw [upd_s, upd_s, if_pos rfl, h1, nI_1, h2, fa_or]
    refine ⟨rfl, _, rfl, ?_, fun b => ?_⟩
    · exact Nat.or_lt_two_pow (n := 16) h3 (Nat.or_lt_two_pow (n := 16) (Nat.pow_lt_pow_right (by omega) hB) (Nat.pow_lt_pow_right (by omega) hG))
    · rw [Nat.testBit_or, Bool.or_eq_true, h4, two_bit]
      constructor
      · rintro (⟨k, k1, k2, k3⟩ | w)
        · exact ⟨k, by omega, by rw [updN_n (by omega)]; exact k2, k3⟩
        · exact ⟨i, by omega, updN_s, w⟩
      · rintro ⟨k, k1, k2, k3⟩
        by_cases z : k = i
        · subst z; exact Or.inr k3
        · rw [updN_n z] at k2; exact Or.inl ⟨k, by omega, k2, k3⟩
  · rw [upd_n e, upd_n e, if_neg (fun z => e z.symm)]
    refine ⟨h1, M, h2, h3, fun b => (h4 b).trans ⟨?_, ?_⟩⟩
    · rintro ⟨k, k1, k2, k3⟩
      exact ⟨k, by omega, by rw [updN_n (by omega)]; exact k2, k3⟩
    · rintro ⟨k, k1, k2, k3⟩
      by_cases z : k = i
      · subst z; rw [updN_s] at k2; exact absurd k2.symm e
      · rw [updN_n z] at k2; exact ⟨k, by omega, k2, k3⟩
theorem PlI.del {B G f : Nat → Nat} {i a : Nat} {sz mb : Nat → Int32} (h : PlI B G (updN f i a) (i + 1) sz mb) (hd : ∀ k, k < i → B k ≠ B i ∧ G k ≠ G i ∧ B k ≠ G i ∧ G k ≠ B i) : PlI B G f i (upd sz a (sz a - 1)) (upd mb a (mb a &&& (nI (2 ^ B i ||| 2 ^ G i) ^^^ (-1)))) := by
  intro c hc
  obtain ⟨h1, M, h2, h3, h4⟩ := h c hc
  rw [nct_s, updN_s, nct_cong (g := f) (fun k hk => updN_n (by omega))] at h1
  by_cases e : c = a
  · subst e
    try dsimp only
    rw [if_pos rfl] at h1
    rw [upd_s, upd_s, h1, h2, show (-1 : Int32) = nI 4294967295 from by decide, fb_xorI, fa_and]
    refine ⟨nI_pred _, _, rfl, Nat.lt_of_le_of_lt Nat.and_le_left h3, fun b => ?_⟩
    rw [Nat.testBit_and, Bool.and_eq_true, h4, Nat.testBit_xor]
    have e32 : (4294967295 : Nat).testBit b = decide (b < 32) := by
      rw [show (4294967295 : Nat) = 2 ^ 32 - 1 from by decide, Nat.testBit_two_pow_sub_one]
    rw [e32]
    constructor
    · rintro ⟨⟨k, k1, k2, k3⟩, w⟩
      by_cases z : k = i
      · subst z
        have hb : (2 ^ B k ||| 2 ^ G k).testBit b = true := two_bit.mpr k3
        rw [hb] at w
        have bM : M.testBit b = true := (h4 b).mpr ⟨k, k1, k2, k3⟩
        have b16 : b < 16 := by
          refine Nat.lt_of_not_le (fun z => ?_)
          have : M.testBit b = false := Nat.testBit_lt_two_pow (Nat.lt_of_lt_of_le h3 (show 2 ^ 16 ≤ 2 ^ b from Nat.pow_le_pow_right (by omega) z))
          rw [this] at bM
          exact absurd bM (by decide)
        rw [decide_eq_true (show b < 32 by omega)] at w
        exact absurd w (by decide)
      · rw [updN_n z] at k2; exact ⟨k, by omega, k2, k3⟩
    · rintro ⟨k, k1, k2, k3⟩
      have bM : M.testBit b = true := (h4 b).mpr ⟨k, by omega, by rw [updN_n (by omega)]; exact k2, k3⟩
      refine ⟨⟨k, by omega, by rw [updN_n (by omega)]; exact k2, k3⟩, ?_⟩
      have b16 : b < 16 := by
        refine Nat.lt_of_not_le (fun z => ?_)
        have : M.testBit b = false := Nat.testBit_lt_two_pow (Nat.lt_of_lt_of_le h3 (show 2 ^ 16 ≤ 2 ^ b from Nat.pow_le_pow_right (by omega) z))
        rw [this] at bM
        exact absurd bM (by decide)
      have hb : (2 ^ B i ||| 2 ^ G i).testBit b = false := by
        cases w : (2 ^ B i ||| 2 ^ G i).testBit b with
        | false => rfl
        | true =>
          obtain ⟨d1, d2, d3, d4⟩ := hd k k1
          rcases two_bit.mp w with z | z <;> rcases k3 with y | y <;> omega
      rw [hb, decide_eq_true (show b < 32 by omega)]
      rfl
  · try dsimp only
    rw [if_neg (fun z => e z.symm)] at h1
    rw [upd_n e, upd_n e]
    refine ⟨h1, M, h2, h3, fun b => (h4 b).trans ⟨?_, ?_⟩⟩
    · rintro ⟨k, k1, k2, k3⟩
      by_cases z : k = i
      · subst z; rw [updN_s] at k2; exact absurd k2.symm e
      · rw [updN_n z] at k2; exact ⟨k, by omega, k2, k3⟩
    · rintro ⟨k, k1, k2, k3⟩
      exact ⟨k, by omega, by rw [updN_n (by omega)]; exact k2, k3⟩
theorem and_0 {a b : Nat} (ha : a < 65536) : nI (a &&& b) = 0 ↔ ∀ j, a.testBit j = true → b.testBit j = false := by
  have lt : a &&& b < 65536 := Nat.lt_of_le_of_lt Nat.and_le_left ha
  rw [show (0 : Int32) = nI 0 from rfl, nI_eq (by omega) (by omega)]
  constructor
  · intro h j hj
    have : (a &&& b).testBit j = false := by rw [h, Nat.zero_testBit]
    rw [Nat.testBit_and, hj] at this
    simpa using this
  · intro h
    apply Nat.eq_of_testBit_eq
    intro j
    rw [Nat.testBit_and, Nat.zero_testBit]
    cases e : a.testBit j with
    | false => rfl
    | true => rw [h j e]; rfl
theorem e_open {B G f fo : Nat → Nat} {q : Nat → Nat → Prop} {i a K : Nat} {s : St} {pl sz mb : Nat → Int32} (hfo : ∀ i, i < K → s.2 26 i = nI (fo i)) (hq : ∀ k i, k < i → i < K → (q k i ↔ ((fo i).testBit (B k) = true ∨ (fo i).testBit (G k) = true))) (K8 : K ≤ 8) (hi : i < K) (ha : a < 8) (h : PlI B G f i sz mb) {Q : Int32 → St → Prop} : wX1_isOpenFor (nI a) (nI i) (g3 s pl sz mb) Q = Q (bi (opn q f i a)) (g3 s pl sz mb) := by
  obtain ⟨h1, M, h2, h3, h4⟩ := h a ha
  try dsimp only
  unfold wX1_isOpenFor
  have e28 : gA (g3 s pl sz mb) 28 (nI a) = nI (nct f a i) := by rw [gn (by omega)]; exact h1
  have e29 : gA (g3 s pl sz mb) 29 (nI a) = nI M := by rw [gn (by omega)]; exact h2
  have e26 : gA (g3 s pl sz mb) 26 (nI i) = nI (fo i) := by rw [gn (by omega)]; exact hfo i hi
  have nl : nct f a i ≤ i := fb_ct_le _ i
  rw [e28, e29, e26, fa_and]
  by_cases c : 4 ≤ nct f a i
  · try dsimp only
    rw [if_pos (show (4 : Int32) ≤ nI (nct f a i) from nI_le (a := 4) c (by omega)), bi_f (fun z => by have := z.1; omega)]
    exact propext ⟨fun z => z.2, fun z => ⟨vin ha (by omega), z⟩⟩
  · try dsimp only
    rw [if_neg (show ¬ (4 : Int32) ≤ nI (nct f a i) from nI_ge (b := 4) (by omega) (by omega))]
    by_cases e : ∀ j, M.testBit j = true → (fo i).testBit j = false
    · have op : opn q f i a := by
        refine ⟨by omega, fun k hk ek hqk => ?_⟩
        rcases (hq k i hk hi).mp hqk with w | w
        · rw [e _ ((h4 _).mpr ⟨k, hk, ek, Or.inl rfl⟩)] at w; exact absurd w (by decide)
        · rw [e _ ((h4 _).mpr ⟨k, hk, ek, Or.inr rfl⟩)] at w; exact absurd w (by decide)
      try dsimp only
      rw [if_pos ((and_0 h3).mpr e), bi_t op]
      exact propext ⟨fun z => z.2.2.2, fun z => ⟨vin ha (by omega), vin ha (by omega), vin (by omega) (by omega), z⟩⟩
    · try dsimp only
      rw [if_neg (fun z => e ((and_0 h3).mp z)), bi_f]
      · exact propext ⟨fun z => z.2.2.2, fun z => ⟨vin ha (by omega), vin ha (by omega), vin (by omega) (by omega), z⟩⟩
      · rintro ⟨-, z⟩
        refine e (fun j hj => ?_)
        obtain ⟨k, hk, ek, w⟩ := (h4 j).mp hj
        have nq := z k hk ek
        rw [hq k i hk hi] at nq
        cases v : (fo i).testBit j with
        | false => rfl
        | true =>
          rcases w with w | w
          · exact absurd (Or.inl (w ▸ v)) nq
          · exact absurd (Or.inr (w ▸ v)) nq
theorem x_place {B G fo : Nat → Nat} {q : Nat → Nat → Prop} {K n : Nat} {s : St} (hK : gF s 2400 = nI K) (K8 : K ≤ 8) (n8 : n < 8) (hB : ∀ i, i < K → B i < 16 ∧ G i < 16) (hpe : ∀ i, i < K → s.2 25 i = nI (2 ^ B i ||| 2 ^ G i)) (hfo : ∀ i, i < K → s.2 26 i = nI (fo i)) (hq : ∀ k i, k < i → i < K → (q k i ↔ ((fo i).testBit (B k) = true ∨ (fo i).testBit (G k) = true))) (hd : ∀ k i, k < i → i < K → B k ≠ B i ∧ G k ≠ G i ∧ B k ≠ G i ∧ G k ≠ B i) :
    ∀ r i fu f pl sz mb (Q : Int32 → St → Prop), i + r = K → r < fu → (∀ j, j < i → pl j = nI (f j)) → vld q n i f → PlI B G f i sz mb → (∀ a a', nct f a i = 0 → a ≤ a' → nct f a' i = 0) →
    (∀ pl' sz' mb' g, (∀ j, j < K → pl' j = nI (g j)) → LL q n K i f g → Q 1 (g3 s pl' sz' mb')) →
    (∀ pl' sz' mb', PlI B G f i sz' mb' → (∀ j, j < i → pl' j = nI (f j)) → NX q n K i f → Q 0 (g3 s pl' sz' mb')) → wX1_canPlace fu (nI i) (nI n) (g3 s pl sz mb) Q := by
  intro r
  induction r with
  | zero =>
    intro i fu f pl sz mb Q hr hfu hpl hv hI hseg hs hf
    obtain ⟨fu', rfl⟩ : ∃ k, fu = k + 1 := ⟨fu - 1, by omega⟩
    show wX1_canPlace_b _ _ _ _ _
    try dsimp only
    unfold wX1_canPlace_b
    have eK : gF (g3 s pl sz mb) 2400 = nI K := hK
    rw [eK, if_neg (show ¬ nI i < nI K from nI_nlt (by omega) (by omega))]
    have e : i = K := by omega
    subst e
    exact hs pl sz mb f hpl ⟨hv, fun _ _ => rfl, fun f' _ he => Or.inl he⟩
  | succ r ih =>
    intro i fu f pl sz mb Q hr hfu hpl hv hI hseg hs hf
    obtain ⟨fu', rfl⟩ : ∃ k, fu = k + 1 := ⟨fu - 1, by omega⟩
    have hi : i < K := by omega
    show wX1_canPlace_b _ _ _ _ _
    try dsimp only
    unfold wX1_canPlace_b
    have eK : gF (g3 s pl sz mb) 2400 = nI K := hK
    rw [eK, if_pos (show nI i < nI K from nI_lt hi (by omega))]
    intro P hP
    have lp : ∀ k a pl sz mb, a + k = n → (∀ j, j < i → pl j = nI (f j)) → PlI B G f i sz mb → (∀ a', a' < a → ¬ nct f a' i = 0) → (∀ f', vld q n K f' → (∀ j, j < i → f' j = f j) → a ≤ f' i) → P (nI i) (nI n) (nI a) (g3 s pl sz mb) := by
      intro k
      induction k with
      | zero =>
        intro a pl sz mb ha hpl hI hne hlow
        refine hP _ _ _ _ ?_
        try dsimp only
        unfold wX1_canPlace_12_b
        try dsimp only
        rw [if_pos (by rw [nI_leI (by omega) (by omega)]; omega)]
        refine hf pl sz mb hI hpl (fun f' hv' he => ?_)
        have := hlow f' hv' he
        have := (hv' i hi).1
        omega
      | succ k ihk =>
        intro a pl sz mb ha hpl hI hne hlow
        have a8 : a < 8 := by omega
        refine hP _ _ _ _ ?_
        try dsimp only
        unfold wX1_canPlace_12_b
        try dsimp only
        rw [if_neg (by rw [nI_leI (by omega) (by omega)]; omega), e_open hfo hq K8 hi a8 hI, nI_1 a]
        -- what comes when a won't do
        have nolow : (∀ f', vld q n K f' → (∀ j, j < i → f' j = f j) → f' i ≠ a) → ∀ f', vld q n K f' → (∀ j, j < i → f' j = f j) → a + 1 ≤ f' i := fun h f' hv' he => by
          have := h f' hv' he
          have := hlow f' hv' he
          omega
        by_cases ho : opn q f i a
        · try dsimp only
          rw [bi_t ho, if_neg (by decide)]
          have v8 : vp_in (nI a) 8 := vin a8 (by omega)
          have vi8 : vp_in (nI i) 8 := vin (by omega) (by omega)
          refine ⟨v8, v8, v8, vi8, v8, vi8, ?_⟩
          have e28 : gA (g3 s pl sz mb) 28 (nI a) = sz a := by rw [gn (by omega)]; rfl
          rw [e28, g3_28, cl (by omega)]
          have e29 : gA (g3 s pl (upd sz a (sz a + 1)) mb) 29 (nI a) = mb a := by rw [gn (by omega)]; rfl
          have e25 : gA (g3 s pl (upd sz a (sz a + 1)) mb) 25 (nI i) = nI (2 ^ B i ||| 2 ^ G i) := by rw [gn (by omega)]; exact hpe i hi
          rw [e29, e25, g3_29, g3_27, cl (by omega), cl (by omega), nI_1 i]
          have hI2 := hI.put a8 (hB i hi).1 (hB i hi).2
          refine ih (i + 1) fu' (updN f i a) _ _ _ _ (by omega) (by omega) (fun j hj => ?_) (fun j hj => ?_) hI2 (fun b b' hb hbb => ?_) (fun pl' sz' mb' g hg hL => ?_) (fun pl' sz' mb' hI3 hpl3 hNX => ?_)
          · by_cases e : j = i
            · rw [e, upd_s, updN_s]
            · rw [upd_n e, updN_n e]; exact hpl j (by omega)
          · by_cases e : j = i
            · rw [e, updN_s]; exact ⟨by omega, okc_updN.mpr ho⟩
            · rw [updN_n e]
              exact ⟨(hv j (by omega)).1, okc_cong (fun k hk => (updN_n (by omega)).symm) (hv j (by omega)).2⟩
          · rw [nct_s, updN_s, nct_cong (g := f) (fun k hk => updN_n (by omega))] at hb ⊢
            have hb0 : nct f b i = 0 := by omega
            have ab : a ≠ b := fun e => by rw [if_pos e] at hb; omega
            have lt : ¬ b < a := fun e => hne b e hb0
            rw [hseg b b' hb0 hbb, if_neg (by omega)]
          · try dsimp only
            rw [if_neg (by decide)]
            exact hs pl' sz' mb' g hg (LL_step hi hlow hL)
          · try dsimp only
            rw [if_pos rfl]
            refine ⟨v8, v8, v8, vi8, v8, v8, ?_⟩
            have e28 : gA (g3 s pl' sz' mb') 28 (nI a) = sz' a := by rw [gn (by omega)]; rfl
            rw [e28, g3_28, cl (by omega)]
            have e29 : gA (g3 s pl' (upd sz' a (sz' a - 1)) mb') 29 (nI a) = mb' a := by rw [gn (by omega)]; rfl
            have e25 : gA (g3 s pl' (upd sz' a (sz' a - 1)) mb') 25 (nI i) = nI (2 ^ B i ||| 2 ^ G i) := by rw [gn (by omega)]; exact hpe i hi
            rw [e29, e25, g3_29, cl (by omega)]
            have hI4 := hI3.del (fun k hk => hd k i hk hi)
            have e28' : gA (g3 s pl' (upd sz' a (sz' a - 1)) (upd mb' a (mb' a &&& (nI (2 ^ B i ||| 2 ^ G i) ^^^ (-1))))) 28 (nI a) = nI (nct f a i) := by rw [gn (by omega)]; exact (hI4 a a8).1
            rw [e28']
            have hpl4 : ∀ j, j < i → pl' j = nI (f j) := fun j hj => by rw [hpl3 j (by omega), updN_n (by omega)]
            have na : ∀ f', vld q n K f' → (∀ j, j < i → f' j = f j) → f' i ≠ a := fun f' hv' he e => hNX f' hv' (fun j hj => by
              by_cases z : j = i
              · rw [z, updN_s]; exact e
              · rw [updN_n z]; exact he j (by omega))
            have nl : nct f a i ≤ i := fb_ct_le _ i
            by_cases z : nct f a i = 0
            · try dsimp only
              rw [if_pos (by rw [z]; rfl)]
              refine hf _ _ _ hI4 hpl4 (fun f' hv' he => ?_)
              have h1 := nolow na f' hv' he
              have zs := hseg a (f' i) z (by omega)
              obtain ⟨f'', a1, a2, a3⟩ := NX_swap (s := a) (s' := f' i) (by omega) (nct_pos.mp z) (nct_pos.mp zs) hv' he hi rfl
              exact na f'' a1 a2 a3
            · try dsimp only
              rw [if_neg (show ¬ nI (nct f a i) = 0 from fun e => z ((nI_eq (b := 0) (by omega) (by omega)).mp e))]
              exact ihk (a + 1) _ _ _ (by omega) hpl4 hI4 (fun a' ha' => by
                by_cases e : a' = a
                · rw [e]; exact z
                · exact hne a' (by omega)) (nolow na)
        · try dsimp only
          rw [bi_f ho, if_pos rfl]
          refine ihk (a + 1) pl sz mb (by omega) hpl hI (fun a' ha' => ?_) (nolow (fun f' hv' he e => ho (okc_updN.mp (okc_cong (fun k hk => ?_) (hv' i hi).2))))
          · by_cases e : a' = a
            · rw [e]
              intro z
              exact ho ⟨by omega, fun k hk ek => absurd ek (nct_pos.mp z k hk)⟩
            · exact hne a' (by omega)
          · by_cases z : k = i
            · rw [z, updN_s]; exact e
            · rw [updN_n z]; exact he k (by omega)
    exact lp n 0 pl sz mb (by omega) hpl hI (fun a' h => absurd h (by omega)) (fun f' _ _ => Nat.zero_le _)
