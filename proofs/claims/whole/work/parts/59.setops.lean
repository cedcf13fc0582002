/-! the couples of a dance; sets, set -/
def pb (L c : Nat → Int32) (d l : Nat) : Bool := decide (¬ L l = 0 ∧ 0 ≤ c (24 * l + d))
theorem pb_iff {L c : Nat → Int32} {d l : Nat} : pb L c d l = true ↔ (¬ L l = 0 ∧ 0 ≤ c (24 * l + d)) := by unfold pb; rw [decide_eq_true_iff]
theorem pb_no {L c : Nat → Int32} {d l : Nat} (h : ¬ (¬ L l = 0 ∧ 0 ≤ c (24 * l + d))) : pb L c d l = false := decide_eq_false h
theorem cc_y {p : Nat → Bool} {l : Nat} (h : p l = true) : fb_ct p (l + 1) = fb_ct p l + 1 := by rw [fb_ct_succ, if_pos h]
theorem cc_n {p : Nat → Bool} {l : Nat} (h : p l = false) : fb_ct p (l + 1) = fb_ct p l := by rw [fb_ct_succ, h]; rfl
/-- i-th lady B i, her gentleman G i -/
def CpI (n d : Nat) (L c : Nat → Int32) (K : Nat) (B G : Nat → Nat) : Prop := K = fb_ct (pb L c d) n ∧ K ≤ 8 ∧ (∀ i, i < K → B i < n ∧ G i < n ∧ pb L c d (B i) = true ∧ fb_ct (pb L c d) (B i) = i ∧ c (24 * B i + d) = nI (G i)) ∧ ∀ k i, k < i → i < K → B k ≠ B i ∧ G k ≠ G i ∧ B k ≠ G i ∧ G k ≠ B i
theorem couples_of {n d : Nat} {L e c : Nat → Int32} (hC : InvC n L e c) (h16 : n ≤ 16) (hd : d < 24) : ∃ K B G, CpI n d L c K B G := by
  obtain ⟨K, hK⟩ : ∃ K, K = fb_ct (pb L c d) n := ⟨_, rfl⟩
  have ex : ∀ i, ∃ x : Nat × Nat, i < K → x.1 < n ∧ x.2 < n ∧ pb L c d x.1 = true ∧ fb_ct (pb L c d) x.1 = i ∧ c (24 * x.1 + d) = nI x.2 ∧ L x.2 = 0 ∧ c (24 * x.2 + d) = nI x.1 := by
    intro i
    by_cases hi : i < K
    · rw [hK] at hi
      obtain ⟨x, x1, x2, x3⟩ := fb_ct_kth hi
      obtain ⟨q, q1, q2, q3, q4⟩ := hC.mate h16 x1 hd (pb_iff.mp x2).2
      refine ⟨(x, q), fun _ => ⟨x1, q1, x2, x3, q2, Classical.byContradiction (fun z => (pb_iff.mp x2).1 (q3.mpr z)), q4⟩⟩
    · exact ⟨(0, 0), fun h => absurd h hi⟩
  obtain ⟨F, hF⟩ := Classical.axiomOfChoice ex
  have dis : ∀ k i, k < i → i < K → (F k).1 ≠ (F i).1 ∧ (F k).2 ≠ (F i).2 ∧ (F k).1 ≠ (F i).2 ∧ (F k).2 ≠ (F i).1 := by
    intro k i ki hi
    obtain ⟨a1, a2, a3, a4, a5, a6, a7⟩ := hF k (by omega)
    obtain ⟨b1, b2, b3, b4, b5, b6, b7⟩ := hF i hi
    have ne : (F k).1 ≠ (F i).1 := fun z => by rw [z] at a4; omega
    refine ⟨ne, fun z => ?_, fun z => ?_, fun z => ?_⟩
    · rw [z] at a7
      exact ne ((nI_eq (by omega) (by omega)).mp (a7.symm.trans b7))
    · exact (pb_iff.mp a3).1 (z ▸ b6)
    · exact (pb_iff.mp b3).1 (z ▸ a6)
  refine ⟨K, fun i => (F i).1, fun i => (F i).2, hK, ?_, fun i hi => ?_, dis⟩
  · have := fb_holes 16 (K + K) (fun i => if i < K then (F i).1 else (F (i - K)).2) (fun i hi => ?_) (fun i j hij hj => ?_)
    · omega
    · show (if i < K then (F i).1 else (F (i - K)).2) < 16
      by_cases z : i < K
      · try dsimp only
        rw [if_pos z]; have := (hF i z).1; omega
      · try dsimp only
        rw [if_neg z]; have := (hF (i - K) (by omega)).2.1; omega
    · show (if i < K then (F i).1 else (F (i - K)).2) ≠ (if j < K then (F j).1 else (F (j - K)).2)
      by_cases z : i < K
      · try dsimp only
        rw [if_pos z]
        by_cases w : j < K
        · try dsimp only
          rw [if_pos w]; exact (dis i j hij w).1
        · try dsimp only
          rw [if_neg w]
          by_cases v : i = j - K
          · rw [← v]
            obtain ⟨a1, a2, a3, a4, a5, a6, a7⟩ := hF i z
            exact fun y => (pb_iff.mp a3).1 (y ▸ a6)
          · by_cases u : i < j - K
            · exact (dis i (j - K) u (by omega)).2.2.1
            · exact fun y => (dis (j - K) i (by omega) z).2.2.2 y.symm
      · try dsimp only
        rw [if_neg z, if_neg (by omega)]
        exact (dis (i - K) (j - K) (by omega) (by omega)).2.1
  · obtain ⟨a1, a2, a3, a4, a5, a6, a7⟩ := hF i hi
    exact ⟨a1, a2, a3, a4, a5⟩
/-- the class's rows of couples -/
def gC3 (s : St) (pe fo : Nat → Int32) (k : Nat) : St := stF (stC (stC s 25 pe) 26 fo) 2400 (nI k)
theorem gC3_add {s : St} {pe fo : Nat → Int32} {k : Nat} (hk : k < 8) {a b : Int32} {Q : St → Prop} (hq : Q (gC3 s (upd pe k a) (upd fo k b) (k + 1))) : wX1_addCouple a b (gC3 s pe fo k) Q := by
  try dsimp only
  unfold wX1_addCouple
  have e1 : gF (gC3 s pe fo k) 2400 = nI k := rfl
  have e2 : gF (stA (gC3 s pe fo k) 25 (nI k) a) 2400 = nI k := rfl
  have e3 : gF (stA (stA (gC3 s pe fo k) 25 (nI k) a) 26 (nI k) b) 2400 = nI k := rfl
  rw [e1, e2, e3, if_pos (show nI k < (8 : Int32) from nI_lt (b := 8) hk (by omega)), nI_1]
  refine ⟨vin hk (by omega), vin hk (by omega), ?_⟩
  have e4 : stF (stA (stA (gC3 s pe fo k) 25 (nI k) a) 26 (nI k) b) 2400 (nI (k + 1)) = gC3 s (upd pe k a) (upd fo k b) (k + 1) := by
    unfold gC3
    refine st_ext (fun j => ?_) (fun j x => ?_)
    · simp only [g_FF, g_AF, g_CF]
      by_cases h : j = 2400
      · simp only [if_pos h]
      · simp only [if_neg h]
    · simp only [g_FA, g_AA, g_CA, cl (show k < 2147483648 by omega)]
      by_cases h : j = 26
      · subst h; rfl
      · simp only [if_neg h]
        by_cases h : j = 25
        · subst h; rfl
        · simp only [if_neg h]
  rw [e4]; exact hq
theorem x_gd {n t d K : Nat} {s : St} {mf B G : Nat → Nat} (hN : InvN n t s) (f1 : ∀ i, i < 16 → s.2 6 i = nI (mf i)) (f5 : ∀ i j, (mf i).testBit j = (mf j).testBit i) (hd : d < 24) (hc : CpI n d (s.2 31) (s.2 37) K B G) {Q : Int32 → St → Prop} (hQ : ∀ pe fo pl sz mb nn g, (∀ i, i < K → pe i = nI (2 ^ B i ||| 2 ^ G i)) → Best (qr mf B G) K nn g → (∀ j, j < K → pl j = nI (g j)) → Q (nI nn) (g3 (gC3 s pe fo K) pl sz mb)) : wX7_groupDance (nI d) s Q := by
  obtain ⟨h16, n1, n2, p1, -⟩ := id hN.1
  obtain ⟨hK, K8, c1, c2⟩ := hc
  have hC := hN.2.2.2.1
  have ctK : ∀ x, x < n → pb (s.2 31) (s.2 37) d x = true → fb_ct (pb (s.2 31) (s.2 37) d) x < K := fun x hx hp => by
    have := fb_ct_mono (pb (s.2 31) (s.2 37) d) (show x + 1 ≤ n by omega)
    rw [cc_y hp] at this
    omega
  have lp : ∀ r l pe fo, l + r = n → (∀ x, x < l → pb (s.2 31) (s.2 37) d x = true → ∀ g, g < 16 → s.2 37 (24 * x + d) = nI g → pe (fb_ct (pb (s.2 31) (s.2 37) d) x) = nI (2 ^ x ||| 2 ^ g) ∧ fo (fb_ct (pb (s.2 31) (s.2 37) d) x) = nI (mf x ||| mf g)) → wX7_groupDance_9 (nI d) (nI l) (gC3 s pe fo (fb_ct (pb (s.2 31) (s.2 37) d) l)) Q := by
    intro r l pe fo hr hx P hP
    induction r generalizing l pe fo with
    | zero =>
      have e : l = n := by omega
      subst e
      refine hP _ _ _ ?_
      try dsimp only
      unfold wX7_groupDance_9_b
      have en : gF (gC3 s pe fo (fb_ct (pb (s.2 31) (s.2 37) d) l)) 100 = nI l := n1
      rw [en, if_pos (by rw [nI_leI (by omega) (by omega)]; omega), ← hK]
      have at_ : ∀ i, i < K → pe i = nI (2 ^ B i ||| 2 ^ G i) ∧ fo i = nI (mf (B i) ||| mf (G i)) := fun i hi => by
        obtain ⟨b1, b2, b3, b4, b5⟩ := c1 i hi
        have := hx (B i) b1 b3 (G i) (by omega) b5
        rw [b4] at this
        exact this
      have w := x_group (B := B) (G := G) (fo := fun i => mf (B i) ||| mf (G i)) (q := qr mf B G) (K := K) (s := gC3 s pe fo K) rfl K8 (fun i hi => by obtain ⟨b1, b2, -⟩ := c1 i hi; omega) (fun i hi => (at_ i hi).1) (fun i hi => (at_ i hi).2) (fun k i hk hi => ?_) c2 (Q := fun r3 s4 => Q r3 s4) (fun nn pl sz mb g hb hg => hQ pe fo pl sz mb nn g (fun i hi => (at_ i hi).1) hb hg) ((gC3 s pe fo K).2 27) ((gC3 s pe fo K).2 28) ((gC3 s pe fo K).2 29)
      · have e : g3 (gC3 s pe fo K) ((gC3 s pe fo K).2 27) ((gC3 s pe fo K).2 28) ((gC3 s pe fo K).2 29) = gC3 s pe fo K := by
          refine st_ext (fun k => rfl) (fun k j => ?_)
          unfold g3
          simp only [g_CA]
          repeat' split
          all_goals first | rfl | (rename_i h; rw [h])
        rw [e] at w
        exact w
      · unfold qr
        rw [Nat.testBit_or, Nat.testBit_or, Bool.or_eq_true, Bool.or_eq_true, f5 (B i) (B k), f5 (G i) (B k), f5 (B i) (G k), f5 (G i) (G k)]
        constructor
        · rintro (a | a | a | a)
          · exact Or.inl (Or.inl a)
          · exact Or.inl (Or.inr a)
          · exact Or.inr (Or.inl a)
          · exact Or.inr (Or.inr a)
        · rintro ((a | a) | (a | a))
          · exact Or.inl a
          · exact Or.inr (Or.inl a)
          · exact Or.inr (Or.inr (Or.inl a))
          · exact Or.inr (Or.inr (Or.inr a))
    | succ r ih =>
      have hl : l < n := by omega
      refine hP _ _ _ ?_
      try dsimp only
      unfold wX7_groupDance_9_b
      have en : gF (gC3 s pe fo (fb_ct (pb (s.2 31) (s.2 37) d) l)) 100 = nI n := n1
      rw [en, if_neg (by rw [nI_leI (by omega) (by omega)]; omega), e_lady (s := gC3 s pe fo (fb_ct (pb (s.2 31) (s.2 37) d) l)) n1 h16, nI_1, cl (by omega)]
      have e2 : (gC3 s pe fo (fb_ct (pb (s.2 31) (s.2 37) d) l)).2 2 = s.2 31 := p1
      rw [e2]
      have skip : pb (s.2 31) (s.2 37) d l = false → P (nI d) (nI (l + 1)) (gC3 s pe fo (fb_ct (pb (s.2 31) (s.2 37) d) l)) := fun hp => by
        have w := ih (l + 1) pe fo (by omega) (fun x hx' hp' => by
          by_cases z : x = l
          · rw [z, hp] at hp'; exact absurd hp' (by decide)
          · exact hx x (by omega) hp')
        rw [cc_n hp] at w
        exact w
      by_cases hL : s.2 31 l = 0
      · try dsimp only
        rw [bi_f (fun z => z.2 hL), if_pos rfl]
        exact skip (pb_no (fun z => z.1 hL))
      · try dsimp only
        rw [bi_t ⟨vin hl (by omega), hL⟩, if_neg (by decide), e_paired (by omega) hd]
        have e12 : (gC3 s pe fo (fb_ct (pb (s.2 31) (s.2 37) d) l)).2 12 = s.2 12 := rfl
        rw [e12]
        by_cases hp : pd (s.2 12) l d = true
        · try dsimp only
          rw [bi_t hp, if_neg (by decide), e_entry (by omega) hd, e12, hC.1 l d hl hd]
          have hp2 : 0 ≤ s.2 37 (24 * l + d) := by rw [← hC.1 l d hl hd]; exact pd_iff.mp hp
          have hpb : pb (s.2 31) (s.2 37) d l = true := pb_iff.mpr ⟨hL, hp2⟩
          obtain ⟨g, g1, g2, g3', g4⟩ := hC.mate h16 hl hd hp2
          rw [g2]
          try dsimp only
          unfold wX2_bitsOf wX2_foesOf
          have e6 : ∀ x, x < 16 → gA (gC3 s pe fo (fb_ct (pb (s.2 31) (s.2 37) d) l)) 6 (nI x) = nI (mf x) := fun x hx => by rw [gn (by omega)]; exact f1 x hx
          rw [sh1 (by omega), sh1 (by omega), fa_or]
          dsimp only
          rw [e6 l (by omega), e6 g (by omega), fa_or]
          refine ⟨vin (by omega) (by omega), vin (by omega) (by omega), ?_⟩
          have ck := ctK l hl hpb
          refine gC3_add (by omega) ?_
          have w := ih (l + 1) (upd pe (fb_ct (pb (s.2 31) (s.2 37) d) l) (nI (2 ^ l ||| 2 ^ g))) (upd fo (fb_ct (pb (s.2 31) (s.2 37) d) l) (nI (mf l ||| mf g))) (by omega) (fun x hx' hp' g' hg' eg => by
            by_cases z : x = l
            · subst z
              rw [upd_s, upd_s]
              have : g' = g := (nI_eq (by omega) (by omega)).mp (eg.symm.trans g2)
              subst this
              exact ⟨rfl, rfl⟩
            · have ne : fb_ct (pb (s.2 31) (s.2 37) d) x ≠ fb_ct (pb (s.2 31) (s.2 37) d) l := fun q => z (fb_ct_kth_one hp' hpb q)
              rw [upd_n ne, upd_n ne]
              exact hx x (by omega) hp' g' hg' eg)
          rw [cc_y hpb] at w
          exact w
        · try dsimp only
          rw [bi_f hp, if_pos rfl]
          exact skip (pb_no (fun z => hp (by rw [pd_iff, hC.1 l d hl hd]; exact z.2)))
  try dsimp only
  unfold wX7_groupDance wX1_forget
  have w := lp n 0 (s.2 25) (s.2 26) (by omega) (fun x hx => absurd hx (by omega))
  have e : gC3 s (s.2 25) (s.2 26) (fb_ct (pb (s.2 31) (s.2 37) d) 0) = stF s 2400 0 := by
    unfold gC3
    refine st_ext (fun k => rfl) (fun k j => ?_)
    simp only [g_FA, g_CA]
    repeat' split
    all_goals first | rfl | (rename_i h; rw [h])
  rw [e] at w
  exact w
/-- the model's rows of couples -/
theorem y_ls {n d K : Nat} {s : St} {mf B G : Nat → Nat} (h16 : n ≤ 16) (n2 : gF s 3000 = nI n) (f3' : ∀ i j, i < 16 → j < 16 → s.2 35 (16 * i + j) = if (mf i).testBit j then 1 else 0) (hd : d < 24) (hc : CpI n d (s.2 31) (s.2 37) K B G) {Q : St → Prop} (hQ : ∀ lo so nn g, (∀ i, i < K → lo i = nI (B i)) → Best (qr mf B G) K nn g → (∀ j, j < K → so j = nI (g j)) → Q (stF (stC (stF (stC s 50 lo) 3028 (nI K)) 51 so) 3031 (nI nn))) : wX8_laySets (nI d) s Q := by
  obtain ⟨hK, K8, c1, c2⟩ := hc
  have ctK : ∀ x, x < n → pb (s.2 31) (s.2 37) d x = true → fb_ct (pb (s.2 31) (s.2 37) d) x < K := fun x hx hp => by
    have := fb_ct_mono (pb (s.2 31) (s.2 37) d) (show x + 1 ≤ n by omega)
    rw [cc_y hp] at this
    omega
  have lp : ∀ r l lo, l + r = n → (∀ x, x < l → pb (s.2 31) (s.2 37) d x = true → lo (fb_ct (pb (s.2 31) (s.2 37) d) x) = nI x) → wX8_laySets_7 (nI d) (nI l) (stF (stC s 50 lo) 3028 (nI (fb_ct (pb (s.2 31) (s.2 37) d) l))) Q := by
    intro r l lo hr hx P hP
    induction r generalizing l lo with
    | zero =>
      have e : l = n := by omega
      subst e
      refine hP _ _ _ ?_
      try dsimp only
      unfold wX8_laySets_7_b
      have en : gF (stF (stC s 50 lo) 3028 (nI (fb_ct (pb (s.2 31) (s.2 37) d) l))) 3000 = nI l := n2
      rw [en, if_pos (by rw [nI_leI (by omega) (by omega)]; omega), ← hK]
      have at_ : ∀ i, i < K → lo i = nI (B i) := fun i hi => by
        obtain ⟨b1, b2, b3, b4, b5⟩ := c1 i hi
        have := hx (B i) b1 b3
        rw [b4] at this
        exact this
      have cp : Cpl (stF (stC s 50 lo) 3028 (nI K)) B G d K := ⟨K8, rfl, fun i hi => by
        obtain ⟨b1, b2, b3, b4, b5⟩ := c1 i hi
        exact ⟨by omega, by omega, at_ i hi, b5⟩⟩
      have w := y_sets64 hd cp f3' (Q := Q) (fun nn so g hb hg => hQ lo so nn g at_ hb hg) ((stF (stC s 50 lo) 3028 (nI K)).2 51)
      rw [st_self] at w
      exact w
    | succ r ih =>
      have hl : l < n := by omega
      refine hP _ _ _ ?_
      try dsimp only
      unfold wX8_laySets_7_b
      have en : gF (stF (stC s 50 lo) 3028 (nI (fb_ct (pb (s.2 31) (s.2 37) d) l))) 3000 = nI n := n2
      have e31 : gA (stF (stC s 50 lo) 3028 (nI (fb_ct (pb (s.2 31) (s.2 37) d) l))) 31 (nI l) = s.2 31 l := by rw [gn (by omega)]; rfl
      rw [en, if_neg (by rw [nI_leI (by omega) (by omega)]; omega), e31, nI_1 l]
      refine ⟨vin (by omega) (by omega), ?_⟩
      have skip : pb (s.2 31) (s.2 37) d l = false → P (nI d) (nI (l + 1)) (stF (stC s 50 lo) 3028 (nI (fb_ct (pb (s.2 31) (s.2 37) d) l))) := fun hp => by
        have w := ih (l + 1) lo (by omega) (fun x hx' hp' => by
          by_cases z : x = l
          · rw [z, hp] at hp'; exact absurd hp' (by decide)
          · exact hx x (by omega) hp')
        rw [cc_n hp] at w
        exact w
      by_cases hL : s.2 31 l = 0
      · try dsimp only
        rw [if_pos hL]; exact skip (pb_no (fun z => z.1 hL))
      · try dsimp only
        rw [if_neg hL, e_cardOf (by omega) hd]
        have e37 : (stF (stC s 50 lo) 3028 (nI (fb_ct (pb (s.2 31) (s.2 37) d) l))).2 37 (24 * l + d) = s.2 37 (24 * l + d) := rfl
        rw [e37]
        by_cases hp : 0 ≤ s.2 37 (24 * l + d)
        · have hpb : pb (s.2 31) (s.2 37) d l = true := pb_iff.mpr ⟨hL, hp⟩
          have ck := ctK l hl hpb
          try dsimp only
          rw [if_neg (by rw [Int32.lt_iff_toInt_lt]; rw [Int32.le_iff_toInt_le] at hp; omega)]
          generalize hcl : fb_ct (pb (s.2 31) (s.2 37) d) l = k at ck ⊢
          have e1 : gF (stF (stC s 50 lo) 3028 (nI k)) 3028 = nI k := rfl
          have e2 : gF (stA (stF (stC s 50 lo) 3028 (nI k)) 50 (nI k) (nI l)) 3028 = nI k := rfl
          rw [e1, e2, nI_1, st_CFA, st_FF, cl (by omega)]
          refine ⟨vin (by omega) (by omega), ?_⟩
          have w := ih (l + 1) (upd lo k (nI l)) (by omega) (fun x hx' hp' => by
            by_cases z : x = l
            · subst z
              rw [hcl, upd_s]
            · have ne : fb_ct (pb (s.2 31) (s.2 37) d) x ≠ k := fun q => z (fb_ct_kth_one hp' hpb (q.trans hcl.symm))
              rw [upd_n ne]
              exact hx x (by omega) hp')
          rw [cc_y hpb, hcl] at w
          exact w
        · try dsimp only
          rw [if_pos (by rw [Int32.lt_iff_toInt_lt]; rw [Int32.le_iff_toInt_le] at hp; omega)]
          exact skip (pb_no (fun z => hp z.2))
  try dsimp only
  unfold wX8_laySets
  have w := lp n 0 (s.2 50) (by omega) (fun x hx => absurd hx (by omega))
  rw [st_self] at w
  exact w
theorem gd_sim (s : St) (pe fo pl sz mb : Nat → Int32) (k : Nat) : sim s (g3 (gC3 s pe fo k) pl sz mb) := ((((sim.rf s).tr (sim.C (by decide))).tr (sim.C (by decide))).tr (sim.F (by decide))).tr (g3_sim _ _ _ _)
theorem ls_sim (s : St) (lo so : Nat → Int32) (u v : Int32) : sim s (stF (stC (stF (stC s 50 lo) 3028 u) 51 so) 3031 v) := ((((sim.rf s).tr (sim.C (by decide))).tr (sim.F (by decide))).tr (sim.C (by decide))).tr (sim.F (by decide))
theorem op_sets (a : Int32) : Op (fun Q s => wX7_sets a s Q) (fun Q s => wX8_sets a s Q) := by
  intro s hI K hK
  obtain ⟨n, t, hN⟩ := id hI
  obtain ⟨h16, n1, n2, p1, p2, p3, p4, p5, p6⟩ := id hN.1
  obtain ⟨mf, f1, f2, f3', f4, f5⟩ := id hN.2.2.1
  show wX7_sets a s _
  try dsimp only
  unfold wX7_sets
  try dsimp only
  rw [e_dance]
  by_cases ha : vp_in a 24
  · try dsimp only
    rw [bi_t ha, if_neg (by decide)]
    obtain ⟨d, hd, rfl⟩ := vp_in_of ha (by decide)
    obtain ⟨M, B, G, hc⟩ := couples_of hN.2.2.2.1 h16 hd
    refine x_gd hN f1 f5 hd hc (fun pe fo pl sz mb nn g _ hb hg => ?_)
    have hN2 := (gd_sim s pe fo pl sz mb M).inv hN
    try dsimp only
    unfold wX8_sets
    try dsimp only
    rw [e_in (m := 24) rfl (by decide) (by decide), bi_t ha, if_neg (by decide)]
    refine y_ls (s := g3 (gC3 s pe fo M) pl sz mb) (mf := mf) (B := B) (G := G) (K := M) h16 n2 f3' hd hc (fun lo so nn' g' _ hb' hg' => ?_)
    have e := (hb.one hb').1
    subst e
    exact hK _ _ ⟨n, t, (ls_sim _ _ _ _ _).inv hN2⟩
  · try dsimp only
    rw [bi_f ha, if_pos rfl]
    try dsimp only
    unfold wX8_sets
    try dsimp only
    rw [e_in (m := 24) rfl (by decide) (by decide), bi_f ha, if_pos rfl]
    exact hK _ _ hI
theorem x_gof {K p : Nat} {S : St} {B G : Nat → Nat} (hp : p < 16) (K8 : K ≤ 8) (eK : gF S 2400 = nI K) (hpe : ∀ i, i < K → S.2 25 i = nI (2 ^ B i ||| 2 ^ G i)) {Q : Int32 → St → Prop} (hy : ∀ i, i < K → (∀ j, j < i → ¬ (p = B j ∨ p = G j)) → (p = B i ∨ p = G i) → Q (S.2 27 i) S) (hn : (∀ j, j < K → ¬ (p = B j ∨ p = G j)) → Q (-4) S) : ∀ r i, i + r = K → (∀ j, j < i → ¬ (p = B j ∨ p = G j)) → wX1_groupOf_2 (nI p) (nI i) S Q := by
  intro r i hr hno P hP
  induction r generalizing i with
  | zero =>
    refine hP _ _ _ ?_
    try dsimp only
    unfold wX1_groupOf_2_b
    rw [eK, if_pos (by rw [nI_leI (by omega) (by omega)]; omega)]
    exact hn (fun j hj => hno j (by omega))
  | succ r ih =>
    refine hP _ _ _ ?_
    try dsimp only
    unfold wX1_groupOf_2_b
    have e25 : gA S 25 (nI i) = nI (2 ^ B i ||| 2 ^ G i) := by rw [gn (by omega)]; exact hpe i (by omega)
    have e27 : gA S 27 (nI i) = S.2 27 i := gn (by omega)
    rw [eK, if_neg (by rw [nI_leI (by omega) (by omega)]; omega), e25, e27, nI_1]
    refine ⟨vin (by omega) (by omega), ?_⟩
    have eb := bit0 (m := 2 ^ B i ||| 2 ^ G i) hp
    by_cases h : p = B i ∨ p = G i
    · try dsimp only
      rw [if_neg (fun z => by have := eb.mp z; rw [two_bit.mpr h] at this; exact absurd this (by decide))]
      exact ⟨vin (by omega) (by omega), hy i (by omega) hno h⟩
    · have hf : (2 ^ B i ||| 2 ^ G i).testBit p = false := by
        cases e : (2 ^ B i ||| 2 ^ G i).testBit p with
        | false => rfl
        | true => exact absurd (two_bit.mp e) h
      try dsimp only
      rw [if_pos (eb.mpr hf)]
      refine ih (i + 1) (by omega) (fun j hj => ?_)
      by_cases e : j = i
      · rw [e]; exact h
      · exact hno j (by omega)
theorem y_gof {K p d : Nat} {S : St} {B G : Nat → Nat} (hd : d < 24) (hp : p < 16) (hC : Cpl S B G d K) {Q : Int32 → St → Prop} (hy : ∀ i, i < K → (∀ j, j < i → ¬ (p = B j ∨ p = G j)) → (p = B i ∨ p = G i) → Q (S.2 51 i) S) (hn : (∀ j, j < K → ¬ (p = B j ∨ p = G j)) → Q (-4) S) : ∀ r i, i + r = K → (∀ j, j < i → ¬ (p = B j ∨ p = G j)) → wX8_set_29 (nI p) (nI d) (nI i) S Q := by
  obtain ⟨K8, eK, hC⟩ := hC
  intro r i hr hno P hP
  induction r generalizing i with
  | zero =>
    refine hP _ _ _ _ ?_
    try dsimp only
    unfold wX8_set_29_b
    rw [eK, if_pos (by rw [nI_leI (by omega) (by omega)]; omega)]
    exact hn (fun j hj => hno j (by omega))
  | succ r ih =>
    refine hP _ _ _ _ ?_
    try dsimp only
    unfold wX8_set_29_b
    obtain ⟨b1, g1, l1, c1⟩ := hC i (by omega)
    have e50 : gA S 50 (nI i) = nI (B i) := by rw [gn (by omega)]; exact l1
    have e51 : gA S 51 (nI i) = S.2 51 i := gn (by omega)
    rw [eK, if_neg (by rw [nI_leI (by omega) (by omega)]; omega), e50, e51, nI_1]
    refine ⟨vin (by omega) (by omega), ?_⟩
    by_cases h1 : p = B i
    · try dsimp only
      rw [if_pos (by rw [h1])]
      exact ⟨vin (by omega) (by omega), hy i (by omega) hno (Or.inl h1)⟩
    · try dsimp only
      rw [if_neg (by rw [nI_eq (by omega) (by omega)]; exact fun z => h1 z.symm), e_cardOf b1 hd, c1]
      refine ⟨vin (by omega) (by omega), ?_⟩
      by_cases h2 : p = G i
      · try dsimp only
        rw [if_pos (by rw [h2])]
        refine ⟨vin (by omega) (by omega), ?_⟩
        rw [e51]
        exact hy i (by omega) hno (Or.inr h2)
      · try dsimp only
        rw [if_neg (by rw [nI_eq (by omega) (by omega)]; exact fun z => h2 z.symm)]
        refine ih (i + 1) (by omega) (fun j hj => ?_)
        by_cases e : j = i
        · rw [e]; exact fun z => z.elim h1 h2
        · exact hno j (by omega)
theorem op_set (a b : Int32) : Op (fun Q s => wX7_set a b s Q) (fun Q s => wX8_set a b s Q) := by
  intro s hI K hK
  obtain ⟨n, t, hN⟩ := id hI
  obtain ⟨h16, n1, n2, p1, p2, p3, p4, p5, p6⟩ := id hN.1
  obtain ⟨mf, f1, f2, f3', f4, f5⟩ := id hN.2.2.1
  show wX7_set a b s _
  try dsimp only
  unfold wX7_set
  try dsimp only
  rw [e_there n1 h16]
  by_cases ha : vp_in a n
  · obtain ⟨p, hp, rfl⟩ := inI ha h16
    try dsimp only
    rw [bi_t ha, if_neg (by decide), e_dance]
    by_cases hb : vp_in b 24
    · try dsimp only
      rw [bi_t hb, if_neg (by decide)]
      obtain ⟨d, hd, rfl⟩ := vp_in_of hb (by decide)
      obtain ⟨M, B, G, hc⟩ := couples_of hN.2.2.2.1 h16 hd
      refine x_gd hN f1 f5 hd hc (fun pe fo pl sz mb nn g hpe hbe hg => ?_)
      have hN2 := (gd_sim s pe fo pl sz mb M).inv hN
      have hc2 := hc
      obtain ⟨hK', K8, c1, c2⟩ := hc
      -- the model, with what the class found
      have mod : ∀ (v : Int32), ((∃ i, i < M ∧ (∀ j, j < i → ¬ (p = B j ∨ p = G j)) ∧ (p = B i ∨ p = G i) ∧ v = nI (g i)) ∨ ((∀ j, j < M → ¬ (p = B j ∨ p = G j)) ∧ v = -4)) → wX8_set (nI p) (nI d) (g3 (gC3 s pe fo M) pl sz mb) (fun r' s2 => K v r' s2) := by
        intro v hv
        try dsimp only
        unfold wX8_set
        try dsimp only
        rw [e_is (s := g3 (gC3 s pe fo M) pl sz mb) n2 h16, bi_t ha, if_neg (by decide), e_in (m := 24) rfl (by decide) (by decide), bi_t hb, if_neg (by decide)]
        refine y_ls (s := g3 (gC3 s pe fo M) pl sz mb) (mf := mf) (B := B) (G := G) (K := M) h16 n2 f3' hd hc2 (fun lo so nn' g' hlo hb' hg' => ?_)
        have eg := (hbe.one hb').2
        have hinv : Inv (stF (stC (stF (stC (g3 (gC3 s pe fo M) pl sz mb) 50 lo) 3028 (nI M)) 51 so) 3031 (nI nn')) := ⟨n, t, (ls_sim _ _ _ _ _).inv hN2⟩
        refine y_gof (B := B) (G := G) (K := M) hd (by omega) ⟨K8, rfl, fun i hi => by
          obtain ⟨b1, b2, b3, b4, b5⟩ := c1 i hi
          exact ⟨by omega, by omega, hlo i hi, b5⟩⟩ (fun i hi hno hit => ?_) (fun hno => ?_) M 0 (by omega) (fun j hj => absurd hj (by omega))
        · rcases hv with ⟨i', i1, i2, i3, i4⟩ | ⟨z, -⟩
          · have e : i = i' := fb_first_one (p := fun i => p = B i ∨ p = G i) hit hno i3 i2
            subst e
            have e2 : (stF (stC (stF (stC (g3 (gC3 s pe fo M) pl sz mb) 50 lo) 3028 (nI M)) 51 so) 3031 (nI nn')).2 51 i = v := by
              show so i = v
              rw [hg' i hi, i4, eg i hi]
            rw [e2]
            exact hK _ _ hinv
          · exact absurd hit (z i hi)
        · rcases hv with ⟨i', i1, i2, i3, i4⟩ | ⟨-, e⟩
          · exact absurd i3 (hno i' i1)
          · rw [e]; exact hK _ _ hinv
      refine x_gof (B := B) (G := G) (K := M) (by omega) K8 rfl hpe (fun i hi hno hit => ?_) (fun hno => ?_) M 0 (by omega) (fun j hj => absurd hj (by omega))
      · exact mod _ (Or.inl ⟨i, hi, hno, hit, hg i hi⟩)
      · exact mod _ (Or.inr ⟨hno, rfl⟩)
    · try dsimp only
      rw [bi_f hb, if_pos rfl]
      try dsimp only
      unfold wX8_set
      try dsimp only
      rw [e_is n2 h16, bi_t ha, if_neg (by decide), e_in (m := 24) rfl (by decide) (by decide), bi_f hb, if_pos rfl]
      exact hK _ _ hI
  · try dsimp only
    rw [bi_f ha, if_pos rfl]
    try dsimp only
    unfold wX8_set
    try dsimp only
    rw [e_is n2 h16, bi_f ha, if_pos rfl]
    exact hK _ _ hI
