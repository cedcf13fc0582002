/-! the fewest sets, on both sides -/
theorem fil28 {v : Int32} {Q : St → Prop} : ∀ m i s, i + m = 8 → Q (stC s 28 (fil (s.2 28) i 8 v)) → wJ7_fill_53178_28_5 v (nI i) 8 s Q := by
  intro m i s hm hq P hP
  induction m generalizing i s with
  | zero =>
    have e : i = 8 := by omega
    subst e
    rw [fil_0, st_self] at hq
    refine hP _ _ _ _ ?_
    unfold wJ7_fill_53178_28_5_b
    try dsimp only
    rw [if_pos (show (8 : Int32) ≤ nI 8 from nI_le (a := 8) (b := 8) (by omega) (by omega))]
    exact hq
  | succ m ih =>
    refine hP _ _ _ _ ?_
    unfold wJ7_fill_53178_28_5_b
    try dsimp only
    rw [if_neg (show ¬ (8 : Int32) ≤ nI i from nI_ge (a := i) (b := 8) (by omega) (by omega)), nI_1]
    refine ⟨vin (by omega) (by omega), ih (i + 1) _ (by omega) ?_⟩
    try dsimp only
    rw [g_AA, if_pos rfl, cl (by omega), fil_s (by omega), st_AC]
    exact hq
theorem fil29 {v : Int32} {Q : St → Prop} : ∀ m i s, i + m = 8 → Q (stC s 29 (fil (s.2 29) i 8 v)) → wJ7_fill_53178_29_5 v (nI i) 8 s Q := by
  intro m i s hm hq P hP
  induction m generalizing i s with
  | zero =>
    have e : i = 8 := by omega
    subst e
    rw [fil_0, st_self] at hq
    refine hP _ _ _ _ ?_
    unfold wJ7_fill_53178_29_5_b
    try dsimp only
    rw [if_pos (show (8 : Int32) ≤ nI 8 from nI_le (a := 8) (b := 8) (by omega) (by omega))]
    exact hq
  | succ m ih =>
    refine hP _ _ _ _ ?_
    unfold wJ7_fill_53178_29_5_b
    try dsimp only
    rw [if_neg (show ¬ (8 : Int32) ≤ nI i from nI_ge (a := i) (b := 8) (by omega) (by omega)), nI_1]
    refine ⟨vin (by omega) (by omega), ih (i + 1) _ (by omega) ?_⟩
    try dsimp only
    rw [g_AA, if_pos rfl, cl (by omega), fil_s (by omega), st_AC]
    exact hq
theorem g3_C28 {s : St} {pl sz mb f : Nat → Int32} : stC (g3 s pl sz mb) 28 f = g3 s pl f mb := by
  refine st_ext (fun k => rfl) (fun k j => ?_)
  unfold g3
  simp only [g_CA]
  by_cases h : k = 28
  · subst h; rfl
  · simp only [if_neg h]
theorem g3_C29 {s : St} {pl sz mb f : Nat → Int32} : stC (g3 s pl sz mb) 29 f = g3 s pl sz f := by
  refine st_ext (fun k => rfl) (fun k j => ?_)
  unfold g3
  simp only [g_CA]
  by_cases h : k = 29
  · subst h; rfl
  · simp only [if_neg h]
def Best (q : Nat → Nat → Prop) (K nn : Nat) (g : Nat → Nat) : Prop := (∀ m, m < nn → ∀ f', ¬ vld q m K f') ∧ LL q nn K 0 (fun _ => 0) g
theorem Best.one {q : Nat → Nat → Prop} {K n n' : Nat} {g g' : Nat → Nat} (h : Best q K n g) (h' : Best q K n' g') : n = n' ∧ ∀ j, j < K → g j = g' j := by
  have e : n = n' := by
    by_cases a : n < n'
    · exact absurd h.2.1 (h'.1 n a g)
    · by_cases b : n' < n
      · exact absurd h'.2.1 (h.1 n' b g')
      · omega
  subst e
  exact ⟨rfl, h.2.one h'.2⟩
theorem x_group {B G fo : Nat → Nat} {q : Nat → Nat → Prop} {K : Nat} {s : St} (hK : gF s 2400 = nI K) (K8 : K ≤ 8) (hB : ∀ i, i < K → B i < 16 ∧ G i < 16) (hpe : ∀ i, i < K → s.2 25 i = nI (2 ^ B i ||| 2 ^ G i)) (hfo : ∀ i, i < K → s.2 26 i = nI (fo i)) (hq : ∀ k i, k < i → i < K → (q k i ↔ ((fo i).testBit (B k) = true ∨ (fo i).testBit (G k) = true))) (hd : ∀ k i, k < i → i < K → B k ≠ B i ∧ G k ≠ G i ∧ B k ≠ G i ∧ G k ≠ B i) {Q : Int32 → St → Prop} (hQ : ∀ nn pl sz mb g, Best q K nn g → (∀ j, j < K → pl j = nI (g j)) → Q (nI nn) (g3 s pl sz mb)) : ∀ pl sz mb, wX1_group (g3 s pl sz mb) Q := by
  have l45 : ∀ r i pl sz mb, i + r = K → (∀ j, j < i → pl j = nI j) → (∀ m, m < K → ∀ f', ¬ vld q m K f') → wX1_group_45 (nI i) (g3 s pl sz mb) Q := by
    intro r i pl sz mb hr hpl hno P hP
    induction r generalizing i pl with
    | zero =>
      refine hP _ _ ?_
      try dsimp only
      unfold wX1_group_45_b
      have eK : gF (g3 s pl sz mb) 2400 = nI K := hK
      rw [eK, if_pos (by rw [nI_leI (by omega) (by omega)]; omega)]
      refine hQ K pl sz mb (fun j => j) ⟨hno, ?_⟩ (fun j hj => hpl j (by omega))
      by_cases K0 : 0 < K
      · exact LL_id K0 (hno (K - 1) (by omega))
      · exact ⟨fun j hj => absurd hj (by omega), fun j hj => absurd hj (by omega), fun f' _ _ => Or.inl (fun j hj => absurd hj (by omega))⟩
    | succ r ih =>
      refine hP _ _ ?_
      try dsimp only
      unfold wX1_group_45_b
      have eK : gF (g3 s pl sz mb) 2400 = nI K := hK
      rw [eK, if_neg (by rw [nI_leI (by omega) (by omega)]; omega), g3_27, cl (by omega), nI_1]
      refine ⟨vin (by omega) (by omega), ih (i + 1) _ (by omega) (fun j hj => ?_)⟩
      by_cases e : j = i
      · rw [e, upd_s]
      · rw [upd_n e]; exact hpl j (by omega)
  have l2 : ∀ r a pl sz mb, a + r = K → (∀ m, m < a → ∀ f', ¬ vld q m K f') → wX1_group_2 (nI a) (g3 s pl sz mb) Q := by
    intro r a pl sz mb hr hno P hP
    induction r generalizing a pl sz mb with
    | zero =>
      have e : a = K := by omega
      subst e
      refine hP _ _ ?_
      try dsimp only
      unfold wX1_group_2_b
      have eK : gF (g3 s pl sz mb) 2400 = nI a := hK
      rw [eK, if_pos (by rw [nI_leI (by omega) (by omega)]; omega)]
      exact l45 a 0 pl sz mb (by omega) (fun j hj => absurd hj (by omega)) hno
    | succ r ih =>
      refine hP _ _ ?_
      try dsimp only
      unfold wX1_group_2_b wJ7_fill_53178_28
      have eK : gF (g3 s pl sz mb) 2400 = nI K := hK
      rw [eK, if_neg (by rw [nI_leI (by omega) (by omega)]; omega)]
      refine fil28 8 0 _ (by omega) ?_
      unfold wJ7_fill_53178_29
      refine fil29 8 0 _ (by omega) ?_
      rw [g3_C28, g3_C29]
      refine x_place hK K8 (by omega) hB hpe hfo hq hd K 0 40 (fun _ => 0) pl _ _ _ (by omega) (by omega) (fun j hj => absurd hj (by omega)) (fun j hj => absurd hj (by omega)) (fun c hc => ⟨?_, 0, ?_, by decide, fun b => ⟨fun z => ?_, fun z => ?_⟩⟩) (fun a a' _ _ => ?_) (fun pl' sz' mb' g hg hL => ?_) (fun pl' sz' mb' _ _ hNX => ?_)
      · unfold fil; rw [if_pos (by omega)]; rfl
      · unfold fil; rw [if_pos (by omega)]; rfl
      · rw [Nat.zero_testBit] at z; exact absurd z (by decide)
      · obtain ⟨k, hk, -⟩ := z; omega
      · rfl
      · try dsimp only
        rw [if_neg (by decide)]
        exact hQ a pl' sz' mb' g ⟨hno, hL⟩ hg
      · try dsimp only
        rw [if_pos rfl, nI_1]
        refine ih (a + 1) _ _ _ (by omega) (fun m hm f' hv => ?_)
        by_cases e : m = a
        · subst e; exact hNX f' hv (fun j hj => absurd hj (by omega))
        · exact hno m (by omega) f' hv
  intro pl sz mb
  exact l2 K 0 pl sz mb (by omega) (fun m hm => absurd hm (by omega))
/-- the model: quarrels -/
def qr (mf B G : Nat → Nat) (k i : Nat) : Prop := (mf (B k)).testBit (B i) = true ∨ (mf (B k)).testBit (G i) = true ∨ (mf (G k)).testBit (B i) = true ∨ (mf (G k)).testBit (G i) = true
def Cpl (s : St) (B G : Nat → Nat) (d K : Nat) : Prop := K ≤ 8 ∧ gF s 3028 = nI K ∧ ∀ i, i < K → B i < 16 ∧ G i < 16 ∧ s.2 50 i = nI (B i) ∧ s.2 37 (24 * B i + d) = nI (G i)
theorem y_quarrel {s : St} {mf B G : Nat → Nat} {d K k i : Nat} {so : Nat → Int32} (hd : d < 24) (hC : Cpl s B G d K) (f3' : ∀ i j, i < 16 → j < 16 → s.2 35 (16 * i + j) = if (mf i).testBit j then 1 else 0) (hk : k < K) (hi : i < K) {Q : Int32 → St → Prop} (hq : Q (bi (qr mf B G k i)) (stC s 51 so)) : wX8_quarrel (nI k) (nI i) (nI d) (stC s 51 so) Q := by
  obtain ⟨K8, -, hC⟩ := hC
  obtain ⟨b1, g1, l1, c1⟩ := hC k hk
  obtain ⟨b2, g2, l2, c2⟩ := hC i hi
  try dsimp only
  unfold wX8_quarrel
  have ek : gA (stC s 51 so) 50 (nI k) = nI (B k) := by rw [gn (by omega)]; exact l1
  have ei : gA (stC s 51 so) 50 (nI i) = nI (B i) := by rw [gn (by omega)]; exact l2
  rw [ek, ei]
  refine ⟨vin (by omega) (by omega), vin (by omega) (by omega), ?_⟩
  try dsimp only
  rw [e_cardOf b1 hd, e_cardOf b2 hd]
  have e1 : (stC s 51 so).2 37 (24 * B k + d) = nI (G k) := c1
  have e2 : (stC s 51 so).2 37 (24 * B i + d) = nI (G i) := c2
  rw [e1, e2, ix16, ix16, ix16, ix16]
  have fe : ∀ x y, x < 16 → y < 16 → gA (stC s 51 so) 35 (nI (16 * x + y)) = bi ((mf x).testBit y = true) := fun x y hx hy => by rw [gn (by omega), ← if_bi]; exact f3' x y hx hy
  rw [fe _ _ b1 b2, fe _ _ b1 g2, fe _ _ g1 b2, fe _ _ g1 g2]
  have v : ∀ x y, x < 16 → y < 16 → vp_in (nI (16 * x + y)) 256 := fun x y hx hy => vin (by omega) (by omega)
  refine ⟨v _ _ b1 b2, ?_⟩
  by_cases z1 : (mf (B k)).testBit (B i) = true
  · try dsimp only
    rw [bi_t z1, if_neg (by decide)]; rw [bi_t (show qr mf B G k i from Or.inl z1)] at hq; exact hq
  · try dsimp only
    rw [bi_f z1, if_pos rfl]
    refine ⟨v _ _ b1 g2, ?_⟩
    by_cases z2 : (mf (B k)).testBit (G i) = true
    · try dsimp only
      rw [bi_t z2, if_neg (by decide)]; rw [bi_t (show qr mf B G k i from Or.inr (Or.inl z2))] at hq; exact hq
    · try dsimp only
      rw [bi_f z2, if_pos rfl]
      refine ⟨v _ _ g1 b2, ?_⟩
      by_cases z3 : (mf (G k)).testBit (B i) = true
      · try dsimp only
        rw [bi_t z3, if_neg (by decide)]; rw [bi_t (show qr mf B G k i from Or.inr (Or.inr (Or.inl z3)))] at hq; exact hq
      · try dsimp only
        rw [bi_f z3, if_pos rfl]
        refine ⟨v _ _ g1 g2, ?_⟩
        by_cases z4 : (mf (G k)).testBit (G i) = true
        · try dsimp only
          rw [bi_t z4, if_neg (by decide)]; rw [bi_t (show qr mf B G k i from Or.inr (Or.inr (Or.inr z4)))] at hq; exact hq
        · try dsimp only
          rw [bi_f z4, if_pos rfl]; rw [bi_f (show ¬ qr mf B G k i from fun y => y.elim z1 (fun y => y.elim z2 (fun y => y.elim z3 z4)))] at hq; exact hq
theorem y_may {s : St} {mf B G f : Nat → Nat} {d K c : Nat} {so : Nat → Int32} (hd : d < 24) (hC : Cpl s B G d K) (f3' : ∀ i j, i < 16 → j < 16 → s.2 35 (16 * i + j) = if (mf i).testBit j then 1 else 0) (hc : c < K) (hf8 : ∀ j, j ≤ c → f j < 8) (hso : ∀ j, j ≤ c → so j = nI (f j)) {Q : Int32 → St → Prop} (hq : Q (bi (okc (qr mf B G) f c)) (stC s 51 so)) : wX8_mayStand (nI c) (nI d) (stC s 51 so) Q := by
  have K8 := hC.1
  have lp : ∀ r k, k + r = c → wX8_mayStand_8 (nI c) (nI d) (nI (nct f (f c) k)) (bi (∀ j, j < k → f j = f c → ¬ qr mf B G j c)) (nI k) (stC s 51 so) Q := by
    intro r k hr P hP
    induction r generalizing k with
    | zero =>
      have e : k = c := by omega
      subst e
      refine hP _ _ _ _ _ _ ?_
      try dsimp only
      unfold wX8_mayStand_8_b
      try dsimp only
      rw [if_pos (by rw [nI_leI (by omega) (by omega)]; omega)]
      have nl : nct f (f k) k ≤ k := fb_ct_le _ k
      by_cases z : ∀ j, j < k → f j = f k → ¬ qr mf B G j k
      · try dsimp only
        rw [bi_t z, if_neg (by decide)]
        by_cases w : nct f (f k) k < 4
        · try dsimp only
          rw [if_neg (show ¬ (4 : Int32) ≤ nI (nct f (f k) k) from nI_ge (b := 4) (by omega) (by omega))]
          try dsimp only
          rw [bi_t (show okc (qr mf B G) f k from ⟨w, z⟩)] at hq; exact hq
        · try dsimp only
          rw [if_pos (show (4 : Int32) ≤ nI (nct f (f k) k) from nI_le (a := 4) (by omega) (by omega))]
          try dsimp only
          rw [bi_f (show ¬ okc (qr mf B G) f k from fun y => w y.1)] at hq; exact hq
      · try dsimp only
        rw [bi_f z, if_pos rfl]
        try dsimp only
        rw [bi_f (show ¬ okc (qr mf B G) f k from fun y => z y.2)] at hq; exact hq
    | succ r ih =>
      have hk : k < c := by omega
      refine hP _ _ _ _ _ _ ?_
      try dsimp only
      unfold wX8_mayStand_8_b
      have ek : gA (stC s 51 so) 51 (nI k) = nI (f k) := by rw [gn (by omega)]; exact hso k (by omega)
      have ec : gA (stC s 51 so) 51 (nI c) = nI (f c) := by rw [gn (by omega)]; exact hso c (by omega)
      have f1 := hf8 k (by omega)
      have f2 := hf8 c (by omega)
      try dsimp only
      rw [if_neg (by rw [nI_leI (by omega) (by omega)]; omega), ek, ec, nI_1 k]
      refine ⟨vin (by omega) (by omega), vin (by omega) (by omega), ?_⟩
      have nx := ih (k + 1) (by omega)
      rw [nct_s] at nx
      by_cases e : f k = f c
      · try dsimp only
        rw [if_pos e, ← nI_1] at nx
        try dsimp only
        rw [if_pos (by rw [e])]
        by_cases z : ∀ j, j < k → f j = f c → ¬ qr mf B G j c
        · try dsimp only
          rw [bi_t z, if_neg (by decide)]
          refine y_quarrel hd hC f3' (by omega) hc ?_
          by_cases w : qr mf B G k c
          · try dsimp only
            rw [bi_t w, if_neg (by decide)]
            try dsimp only
            rw [bi_f (fun y => y k (by omega) e w)] at nx; exact nx
          · try dsimp only
            rw [bi_f w, if_pos rfl]
            try dsimp only
            rw [bi_t (fun j hj ej => by
              by_cases h : j = k
              · rw [h]; exact w
              · exact z j (by omega) ej)] at nx
            exact nx
        · try dsimp only
          rw [bi_f z, if_pos rfl]
          try dsimp only
          rw [bi_f (fun y => z (fun j hj => y j (by omega)))] at nx; exact nx
      · try dsimp only
        rw [if_neg e, Nat.add_zero] at nx
        try dsimp only
        rw [if_neg (by rw [nI_eq (by omega) (by omega)]; exact e)]
        have eq : (∀ j, j < k + 1 → f j = f c → ¬ qr mf B G j c) = (∀ j, j < k → f j = f c → ¬ qr mf B G j c) := propext ⟨fun y j hj => y j (by omega), fun y j hj ej => by
          by_cases h : j = k
          · rw [h] at ej; exact absurd ej e
          · exact y j (by omega) ej⟩
        rw [eq] at nx; exact nx
  have w := lp c 0 (by omega)
  try dsimp only
  rw [bi_t (fun j hj => absurd hj (by omega))] at w
  exact w
