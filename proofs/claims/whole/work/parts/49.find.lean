/-! who could dance with whom -/
def pa (s : St) (n : Nat) (mk mf : Nat → Nat) (d l g : Nat) : Prop := (g < n ∧ s.2 31 g = 0) ∧ (l < n ∧ ¬ s.2 31 l = 0) ∧ WC s mk mf (s.2 37) g l d = 0
theorem ask_iff {n g l d : Nat} {L : Nat → Int32} (hg : g < 16) (hl : l < 16) (hd : d < 24) (h16 : n ≤ 16) : Ask n L (nI g) (nI l) (nI d) ↔ (g < n ∧ L g = 0) ∧ (l < n ∧ ¬ L l = 0) := by
  unfold Ask
  rw [cl (by omega), cl (by omega), vp_in_iff, vp_in_iff, vp_in_iff, nI_i (by omega), nI_i (by omega), nI_i (by omega)]
  constructor
  · rintro ⟨⟨a, b⟩, ⟨c, e⟩, -⟩; exact ⟨⟨by omega, b⟩, by omega, e⟩
  · rintro ⟨⟨a, b⟩, ⟨c, e⟩⟩; exact ⟨⟨by omega, b⟩, ⟨by omega, e⟩, by omega⟩
/-- the masks of the ladies, filled up to l, g -/
def AlU (s : St) (n : Nat) (mk mf : Nat → Nat) (d l g : Nat) (f : Nat → Int32) (al : Nat → Nat) : Prop := ∀ x, x < 16 → f x = nI (al x) ∧ al x < 65536 ∧ ∀ y, y < 16 → ((al x).testBit y = true ↔ (pa s n mk mf d x y ∧ (x < l ∨ (x = l ∧ y < g))))
theorem AlU.skip {s : St} {n : Nat} {mk mf : Nat → Nat} {d l g : Nat} {f : Nat → Int32} {al : Nat → Nat} (h : AlU s n mk mf d l g f al) (hn : ¬ pa s n mk mf d l g) : AlU s n mk mf d l (g + 1) f al := by
  intro x hx
  obtain ⟨a, b, c⟩ := h x hx
  refine ⟨a, b, fun y hy => (c y hy).trans ⟨fun z => ⟨z.1, by omega⟩, fun z => ⟨z.1, ?_⟩⟩⟩
  rcases z.2 with w | ⟨rfl, w⟩
  · exact Or.inl w
  · by_cases e : y = g
    · subst e; exact absurd z.1 hn
    · exact Or.inr ⟨rfl, by omega⟩
theorem AlU.put {s : St} {n : Nat} {mk mf : Nat → Nat} {d l g : Nat} {f : Nat → Int32} {al : Nat → Nat} (h : AlU s n mk mf d l g f al) (hg : g < 16) (hn : pa s n mk mf d l g) : AlU s n mk mf d l (g + 1) (upd f l (nI (al l ||| 2 ^ g))) (fun x => if x = l then al l ||| 2 ^ g else al x) := by
  intro x hx
  obtain ⟨a, b, c⟩ := h x hx
  by_cases e : x = l
  · subst e
    rw [upd_s]
    show nI (al x ||| 2 ^ g) = nI (if x = x then _ else _) ∧ (if x = x then al x ||| 2 ^ g else al x) < 65536 ∧ ∀ y, y < 16 → ((if x = x then al x ||| 2 ^ g else al x).testBit y = true ↔ _)
    try dsimp only
    rw [if_pos rfl]
    refine ⟨rfl, or_lt b hg, fun y hy => ?_⟩
    rw [fb_bit_set]
    by_cases w : y = g
    · subst w
      simp only [decide_true, Bool.or_true, true_iff]
      exact ⟨hn, Or.inr (by simp)⟩
    · rw [decide_eq_false w, Bool.or_false, c y hy]
      constructor
      · rintro ⟨u, v⟩; exact ⟨u, by omega⟩
      · rintro ⟨u, v⟩; exact ⟨u, by omega⟩
  · rw [upd_n e]
    show f x = nI (if x = l then al l ||| 2 ^ g else al x) ∧ (if x = l then al l ||| 2 ^ g else al x) < 65536 ∧ ∀ y, y < 16 → ((if x = l then al l ||| 2 ^ g else al x).testBit y = true ↔ _)
    try dsimp only
    rw [if_neg e]
    refine ⟨a, b, fun y hy => ?_⟩
    rw [c y hy]
    constructor
    · rintro ⟨u, v⟩; exact ⟨u, by omega⟩
    · rintro ⟨u, v⟩; exact ⟨u, by omega⟩
theorem AlU.next {s : St} {n : Nat} {mk mf : Nat → Nat} {d l : Nat} {f : Nat → Int32} {al : Nat → Nat} (h : AlU s n mk mf d l 16 f al) : AlU s n mk mf d (l + 1) 0 f al := by
  intro x hx
  obtain ⟨a, b, c⟩ := h x hx
  refine ⟨a, b, fun y hy => (c y hy).trans ?_⟩
  constructor
  · rintro ⟨u, v⟩; exact ⟨u, by omega⟩
  · rintro ⟨u, v⟩; exact ⟨u, by omega⟩
theorem x_find {n t d : Nat} {s : St} {mk mf : Nat → Nat} (hN : InvN n t s) (m1 : ∀ i, i < 16 → s.2 5 i = nI (mk i)) (f1 : ∀ i, i < 16 → s.2 6 i = nI (mf i)) (hd : d < 24) {Q : St → Prop} (hq : ∀ f al, AlU s n mk mf d 16 0 f al → Q (stC s 14 f)) : wX7_findPossiblePairs (nI d) s Q := by
  obtain ⟨h16, n1, n2, p1, -⟩ := id hN.1
  have hC := hN.2.2.2.1
  try dsimp only
  unfold wX7_findPossiblePairs wX3_forget wJ7_fill_53178_14
  refine fil14 16 0 s (by omega) ?_
  have lp : ∀ m l f al, l + m = 16 → AlU s n mk mf d l 0 f al → wX7_findPossiblePairs_9 (nI d) (nI l) (stC s 14 f) Q := by
    intro m l f al hm ha P hP
    induction m generalizing l f al with
    | zero =>
      have e : l = 16 := by omega
      subst e
      refine hP _ _ _ ?_
      try dsimp only
      unfold wX7_findPossiblePairs_9_b
      try dsimp only
      rw [if_pos (show (16 : Int32) ≤ nI 16 from nI_le (a := 16) (b := 16) (by omega) (by omega))]
      exact hq f al ha
    | succ m ih =>
      have hl : l < 16 := by omega
      refine hP _ _ _ ?_
      try dsimp only
      unfold wX7_findPossiblePairs_9_b
      try dsimp only
      rw [if_neg (show ¬ (16 : Int32) ≤ nI l from nI_ge (a := l) (b := 16) (by omega) (by omega))]
      have lp2 : ∀ q g f al, g + q = 16 → AlU s n mk mf d l g f al → wX7_findPossiblePairs_17 P (nI d) (nI l) (nI g) (stC s 14 f) Q := by
        intro q g f al hm ha P2 hP2
        induction q generalizing g f al with
        | zero =>
          have e : g = 16 := by omega
          subst e
          refine hP2 _ _ _ _ ?_
          try dsimp only
          unfold wX7_findPossiblePairs_17_b
          try dsimp only
          rw [if_pos (show (16 : Int32) ≤ nI 16 from nI_le (a := 16) (b := 16) (by omega) (by omega)), nI_1]
          exact ih (l + 1) f al (by omega) ha.next
        | succ q ihq =>
          have hg : g < 16 := by omega
          refine hP2 _ _ _ _ ?_
          try dsimp only
          unfold wX7_findPossiblePairs_17_b
          try dsimp only
          rw [if_neg (show ¬ (16 : Int32) ≤ nI g from nI_ge (a := g) (b := 16) (by omega) (by omega)), e_asking (s := stC s 14 f) n1 h16, nI_1]
          have eA : (stC s 14 f).2 2 = s.2 31 := p1
          rw [eA]
          by_cases a : Ask n (s.2 31) (nI g) (nI l) (nI d)
          · try dsimp only
            rw [bi_t a, if_neg (by decide)]
            have a2 := (ask_iff hg hl hd h16).mp a
            obtain ⟨ww, hww⟩ : ∃ ww, WC s mk mf (s.2 37) g l d = ww := ⟨_, rfl⟩
            refine x_whyE (sX := stC s 14 f) hN m1 f1 hC rfl rfl rfl rfl rfl rfl a2.1.1 a2.2.1 hd hww ?_
            by_cases w : ww = 0
            · try dsimp only
              rw [if_pos w]
              have hp : pa s n mk mf d l g := ⟨a2.1, a2.2, hww.trans w⟩
              try dsimp only
              unfold wX3_allow
              have e14 : gA (stC s 14 f) 14 (nI l) = nI (al l) := by rw [gC (by omega)]; exact (ha l hl).1
              rw [e14, bit_or hg, st_CA, cl (by omega)]
              exact ⟨vin hl (by omega), vin hl (by omega), ihq (g + 1) _ _ (by omega) (ha.put hg hp)⟩
            · try dsimp only
              rw [if_neg w]
              exact ihq (g + 1) f al (by omega) (ha.skip (fun z => w (hww.symm.trans z.2.2)))
          · try dsimp only
            rw [bi_f a, if_pos rfl]
            exact ihq (g + 1) f al (by omega) (ha.skip (fun z => a ((ask_iff hg hl hd h16).mpr ⟨z.1, z.2.1⟩)))
      exact lp2 16 0 f al (by omega) ha
  refine lp 16 0 _ (fun _ => 0) (by omega) (fun x hx => ⟨?_, show (0 : Nat) < 65536 by decide, fun y hy => ?_⟩)
  · unfold fil; rw [if_pos (by omega)]; rfl
  · rw [Nat.zero_testBit]
    constructor
    · intro z; exact absurd z (by decide)
    · rintro ⟨-, u⟩; omega
/-- the model's rows: mayDance, with, isFixed, queue, from -/
def m5 (s : St) (m w x q f : Nat → Int32) : St := stC (stC (stC (stC (stC s 41 m) 42 w) 43 x) 44 q) 45 f
theorem m5_self (s : St) : m5 s (s.2 41) (s.2 42) (s.2 43) (s.2 44) (s.2 45) = s := by
  refine st_ext (fun k => rfl) (fun k j => ?_)
  unfold m5
  simp only [g_CA]
  repeat' split
  all_goals first | rfl | (rename_i h; rw [h])
theorem m5_41 {s : St} {m w x q f : Nat → Int32} {i v : Int32} : stA (m5 s m w x q f) 41 i v = m5 s (upd m i.toNatClampNeg v) w x q f := by
  refine st_ext (fun k => rfl) (fun k j => ?_)
  unfold m5
  simp only [g_AA, g_CA]
  by_cases h : k = 41
  · subst h; rfl
  · simp only [if_neg h]
theorem m5_42 {s : St} {m w x q f : Nat → Int32} {i v : Int32} : stA (m5 s m w x q f) 42 i v = m5 s m (upd w i.toNatClampNeg v) x q f := by
  refine st_ext (fun k => rfl) (fun k j => ?_)
  unfold m5
  simp only [g_AA, g_CA]
  by_cases h : k = 42
  · subst h; rfl
  · simp only [if_neg h]
theorem m5_43 {s : St} {m w x q f : Nat → Int32} {i v : Int32} : stA (m5 s m w x q f) 43 i v = m5 s m w (upd x i.toNatClampNeg v) q f := by
  refine st_ext (fun k => rfl) (fun k j => ?_)
  unfold m5
  simp only [g_AA, g_CA]
  by_cases h : k = 43
  · subst h; rfl
  · simp only [if_neg h]
theorem m5_44 {s : St} {m w x q f : Nat → Int32} {i v : Int32} : stA (m5 s m w x q f) 44 i v = m5 s m w x (upd q i.toNatClampNeg v) f := by
  refine st_ext (fun k => rfl) (fun k j => ?_)
  unfold m5
  simp only [g_AA, g_CA]
  by_cases h : k = 44
  · subst h; rfl
  · simp only [if_neg h]
theorem m5_45 {s : St} {m w x q f : Nat → Int32} {i v : Int32} : stA (m5 s m w x q f) 45 i v = m5 s m w x q (upd f i.toNatClampNeg v) := by
  refine st_ext (fun k => rfl) (fun k j => ?_)
  unfold m5
  simp only [g_AA, g_CA]
  by_cases h : k = 45
  · subst h; rfl
  · simp only [if_neg h]
theorem m5_sim (s : St) (m w x q f : Nat → Int32) : sim s (m5 s m w x q f) := (((((sim.rf s).tr (sim.C (by decide))).tr (sim.C (by decide))).tr (sim.C (by decide))).tr (sim.C (by decide))).tr (sim.C (by decide))
/-- mayDance, filled up to l, g -/
def MdU (s : St) (n : Nat) (mk mf : Nat → Nat) (d l g : Nat) (m : Nat → Int32) : Prop := ∀ x y, x < 16 → y < 16 → (x < l ∨ (x = l ∧ y < g)) → (m (16 * x + y) = 0 ∨ m (16 * x + y) = 1) ∧ (¬ m (16 * x + y) = 0 ↔ pa s n mk mf d x y)
theorem MdU.put {s : St} {n : Nat} {mk mf : Nat → Nat} {d l g : Nat} {m : Nat → Int32} {v : Int32} (h : MdU s n mk mf d l g m) (hl : l < 16) (hg : g < 16) (hv : (v = 0 ∨ v = 1) ∧ (¬ v = 0 ↔ pa s n mk mf d l g)) : MdU s n mk mf d l (g + 1) (upd m (16 * l + g) v) := by
  intro x y hx hy hz
  by_cases e : x = l ∧ y = g
  · obtain ⟨rfl, rfl⟩ := e
    rw [upd_s]; exact hv
  · rw [upd_n (by omega)]
    exact h x y hx hy (by omega)
theorem y_lay {n d : Nat} {s : St} {mk mf : Nat → Nat} (hP : InvP n s) (m3 : ∀ i j, i < 16 → j < 16 → s.2 34 (16 * i + j) = if (mk i).testBit j then 1 else 0) (f3' : ∀ i j, i < 16 → j < 16 → s.2 35 (16 * i + j) = if (mf i).testBit j then 1 else 0) (hd : d < 24) {q f : Nat → Int32} {Q : St → Prop} (hq : ∀ m w x, MdU s n mk mf d 16 0 m → (∀ p, p < 16 → w p = -4) → (∀ p, p < 16 → x p = 0) → Q (m5 s m w x q f)) : ∀ m w x, wX8_layDance (nI d) (m5 s m w x q f) Q := by
  obtain ⟨h16, n1, n2, p1, p2, p3, p4, p5, p6⟩ := id hP
  have lp : ∀ r l m w x, l + r = 16 → MdU s n mk mf d l 0 m → (∀ p, p < l → w p = -4) → (∀ p, p < l → x p = 0) → wX8_layDance_2 (nI d) (nI l) (m5 s m w x q f) Q := by
    intro r l m w x hr hm hw hx P hP
    induction r generalizing l m w x with
    | zero =>
      have e : l = 16 := by omega
      subst e
      refine hP _ _ _ ?_
      try dsimp only
      unfold wX8_layDance_2_b
      try dsimp only
      rw [if_pos (show (16 : Int32) ≤ nI 16 from nI_le (a := 16) (b := 16) (by omega) (by omega))]
      exact hq m w x hm hw hx
    | succ r ih =>
      have hl : l < 16 := by omega
      refine hP _ _ _ ?_
      try dsimp only
      unfold wX8_layDance_2_b
      try dsimp only
      rw [if_neg (show ¬ (16 : Int32) ≤ nI l from nI_ge (a := l) (b := 16) (by omega) (by omega)), m5_42, m5_43, vb_01 (Or.inl rfl), cl (by omega)]
      refine ⟨vin hl (by omega), vin hl (by omega), ?_⟩
      have lp2 : ∀ k g m w x, g + k = 16 → MdU s n mk mf d l g m → (∀ p, p < l + 1 → w p = -4) → (∀ p, p < l + 1 → x p = 0) → wX8_layDance_25 P (nI d) (nI l) (nI g) (m5 s m w x q f) Q := by
        intro k g m w x hk hm hw hx P2 hP2
        induction k generalizing g m with
        | zero =>
          have e : g = 16 := by omega
          subst e
          refine hP2 _ _ _ _ ?_
          try dsimp only
          unfold wX8_layDance_25_b
          try dsimp only
          rw [if_pos (show (16 : Int32) ≤ nI 16 from nI_le (a := 16) (b := 16) (by omega) (by omega)), nI_1]
          exact ih (l + 1) m w x (by omega) (fun x y hx hy hz => hm x y hx hy (by omega)) hw hx
        | succ k ihk =>
          have hg : g < 16 := by omega
          refine hP2 _ _ _ _ ?_
          try dsimp only
          unfold wX8_layDance_25_b
          try dsimp only
          rw [if_neg (show ¬ (16 : Int32) ≤ nI g from nI_ge (a := g) (b := 16) (by omega) (by omega)), e_couple (s := m5 s m w x q f) n2 h16, ix16, nI_1]
          have eL : (m5 s m w x q f).2 31 = s.2 31 := rfl
          rw [eL, vb_01 (Or.inl rfl), vb_01 (Or.inr rfl)]
          have v256 : vp_in (nI (16 * l + g)) 256 := vin (by omega) (by omega)
          by_cases a : Ask n (s.2 31) (nI g) (nI l) (nI d)
          · try dsimp only
            rw [bi_t a, if_neg (by decide)]
            have a2 := (ask_iff hg hl hd h16).mp a
            obtain ⟨ww, hww⟩ : ∃ ww, WC s mk mf (s.2 37) g l d = ww := ⟨_, rfl⟩
            refine y_whyE (s := m5 s m w x q f) (mk := mk) (mf := mf) hg hl hd p5 (m3 g l hg hl) (f3' g l hg hl) hww ?_
            by_cases z : ww = 0
            · try dsimp only
              rw [if_pos z, m5_41, cl (by omega)]
              exact ⟨v256, ihk (g + 1) _ (by omega) (hm.put hl hg ⟨Or.inr rfl, fun _ => ⟨a2.1, a2.2, hww.trans z⟩, fun _ => by decide⟩)⟩
            · try dsimp only
              rw [if_neg z, m5_41, cl (by omega)]
              exact ⟨v256, ihk (g + 1) _ (by omega) (hm.put hl hg ⟨Or.inl rfl, fun c => absurd rfl c, fun c => absurd (hww.symm.trans c.2.2) z⟩)⟩
          · try dsimp only
            rw [bi_f a, if_pos rfl, m5_41, cl (by omega)]
            exact ⟨v256, ihk (g + 1) _ (by omega) (hm.put hl hg ⟨Or.inl rfl, fun c => absurd rfl c, fun c => absurd ((ask_iff hg hl hd h16).mpr ⟨c.1, c.2.1⟩) a⟩)⟩
      refine lp2 16 0 m _ _ (by omega) hm (fun p hp => ?_) (fun p hp => ?_)
      · by_cases e : p = l
        · rw [e, upd_s]
        · rw [upd_n e]; exact hw p (by omega)
      · by_cases e : p = l
        · rw [e, upd_s]
        · rw [upd_n e]; exact hx p (by omega)
  intro m w x
  exact lp 16 0 m w x (by omega) (fun x y _ _ h => absurd h (by omega)) (fun p h => absurd h (by omega)) (fun p h => absurd h (by omega))
