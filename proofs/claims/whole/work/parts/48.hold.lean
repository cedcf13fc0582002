/-! the class's search -/
theorem fil16 {v : Int32} {Q : St → Prop} : ∀ m i s, i + m = 16 → Q (stC s 16 (fil (s.2 16) i 16 v)) → wJ7_fill_53178_16_5 v (nI i) 16 s Q := by
  intro m i s hm hq P hP
  induction m generalizing i s with
  | zero =>
    have e : i = 16 := by omega
    subst e
    rw [fil_0, st_self] at hq
    refine hP _ _ _ _ ?_
    unfold wJ7_fill_53178_16_5_b
    try dsimp only
    rw [if_pos (show (16 : Int32) ≤ nI 16 from nI_le (a := 16) (b := 16) (by omega) (by omega))]
    exact hq
  | succ m ih =>
    refine hP _ _ _ _ ?_
    unfold wJ7_fill_53178_16_5_b
    try dsimp only
    rw [if_neg (show ¬ (16 : Int32) ≤ nI i from nI_ge (a := i) (b := 16) (by omega) (by omega)), nI_1]
    refine ⟨vin (by omega) (by omega), ih (i + 1) _ (by omega) ?_⟩
    try dsimp only
    rw [g_AA, if_pos rfl, cl (by omega), fil_s (by omega), st_AC]
    exact hq
theorem fil14 {v : Int32} {Q : St → Prop} : ∀ m i s, i + m = 16 → Q (stC s 14 (fil (s.2 14) i 16 v)) → wJ7_fill_53178_14_5 v (nI i) 16 s Q := by
  intro m i s hm hq P hP
  induction m generalizing i s with
  | zero =>
    have e : i = 16 := by omega
    subst e
    rw [fil_0, st_self] at hq
    refine hP _ _ _ _ ?_
    unfold wJ7_fill_53178_14_5_b
    try dsimp only
    rw [if_pos (show (16 : Int32) ≤ nI 16 from nI_le (a := 16) (b := 16) (by omega) (by omega))]
    exact hq
  | succ m ih =>
    refine hP _ _ _ _ ?_
    unfold wJ7_fill_53178_14_5_b
    try dsimp only
    rw [if_neg (show ¬ (16 : Int32) ≤ nI i from nI_ge (a := i) (b := 16) (by omega) (by omega)), nI_1]
    refine ⟨vin (by omega) (by omega), ih (i + 1) _ (by omega) ?_⟩
    try dsimp only
    rw [g_AA, if_pos rfl, cl (by omega), fil_s (by omega), st_AC]
    exact hq
def Ed (al : Nat → Nat) (F : Nat) (x g : Nat) : Prop := (al x).testBit g = true ∧ F.testBit g = true
def VH (al : Nat → Nat) (F : Nat) (R : Nat → Prop) (H : Nat → Int32) : Prop := ∀ g, g < 16 → H g = -4 ∨ ∃ x, x < 16 ∧ R x ∧ H g = nI x ∧ Ed al F x g
theorem pop_clr {U g : Nat} (hU : U < 65536) (hg : g < 16) (h : U.testBit g = true) : pop (clr U g) + 1 = pop U := by
  have k := fb_ct_upd (fun j => U.testBit j) false hg
  have e : (fun j => (clr U g).testBit j) = (fun j => if j = g then false else U.testBit j) := by
    funext j
    rw [clr_bit hU hg]
    by_cases z : j = g <;> simp [z]
  unfold pop
  rw [e]
  rw [h] at k
  simpa using k
theorem pop_sub {U W : Nat} (h : ∀ g, W.testBit g = true → U.testBit g = true) : pop W ≤ pop U := fb_ct_sub (fun k _ => h k)
theorem pop_0 {U : Nat} (h : pop U = 0) {g : Nat} (hg : g < 16) : U.testBit g = false := fb_ct_zero.mp h g hg
theorem st_FF {s : St} {k : Nat} {u v : Int32} : stF (stF s k u) k v = stF s k v := by
  refine st_ext (fun j => ?_) (fun _ _ => rfl)
  rw [g_FF, g_FF, g_FF]
  by_cases h : j = k
  · try dsimp only
    rw [if_pos h, if_pos h]
  · try dsimp only
    rw [if_neg h, if_neg h, if_neg h]
theorem st_CFA {s : St} {k q : Nat} {u v i : Int32} {f : Nat → Int32} : stA (stF (stC s k f) q u) k i v = stF (stC s k (upd f i.toNatClampNeg v)) q u := by
  refine st_ext (fun j => rfl) (fun j x => ?_)
  try dsimp only
  rw [g_AA, g_FA, g_FA, g_FA, g_CA, g_CA, g_CA, if_pos rfl]
  by_cases h : j = k
  · try dsimp only
    rw [if_pos h, if_pos h]
  · try dsimp only
    rw [if_neg h, if_neg h, if_neg h]
theorem cnt_add {H H1 : Nat → Int32} {g l x : Nat} (hg : g < 16) (hl : l < 16) (hx : x < 16) (e : H1 g = nI x) (h : ∀ y, y < 16 → cnt H1 y = cnt H y + (if y = x then 1 else 0)) : ∀ y, y < 16 → cnt (upd H1 g (nI l)) y = cnt H y + (if y = l then 1 else 0) := by
  intro y hy
  have k := cnt_upd (H := H1) (g := g) (x := y) (v := nI l) hg
  rw [h y hy, e] at k
  by_cases a : y = x
  · try dsimp only
    rw [if_pos (by rw [a]), if_pos a] at k
    by_cases b : y = l
    · try dsimp only
      rw [if_pos (by rw [b])] at k; rw [if_pos b]; omega
    · try dsimp only
      rw [if_neg (by rw [nI_eq (by omega) (by omega)]; exact fun z => b z.symm)] at k; rw [if_neg b]; omega
  · try dsimp only
    rw [if_neg (by rw [nI_eq (by omega) (by omega)]; exact fun z => a z.symm), if_neg a] at k
    by_cases b : y = l
    · try dsimp only
      rw [if_pos (by rw [b])] at k; rw [if_pos b]; omega
    · try dsimp only
      rw [if_neg (by rw [nI_eq (by omega) (by omega)]; exact fun z => b z.symm)] at k; rw [if_neg b]; omega
theorem cnt_new {H : Nat → Int32} {g l : Nat} (hg : g < 16) (hl : l < 16) (e : H g = -4) : ∀ y, y < 16 → cnt (upd H g (nI l)) y = cnt H y + (if y = l then 1 else 0) := by
  intro y hy
  have k := cnt_upd (H := H) (g := g) (x := y) (v := nI l) hg
  rw [e, if_neg (m4_ne (by omega))] at k
  by_cases b : y = l
  · try dsimp only
    rw [if_pos (by rw [b])] at k; rw [if_pos b]; omega
  · try dsimp only
    rw [if_neg (by rw [nI_eq (by omega) (by omega)]; exact fun z => b z.symm)] at k; rw [if_neg b]; omega
theorem VH.put {al : Nat → Nat} {F g l : Nat} {R : Nat → Prop} {H : Nat → Int32} (h : VH al F R H) (hl : l < 16) (hR : R l) (hE : Ed al F l g) : VH al F R (upd H g (nI l)) := by
  intro k hk
  unfold upd
  by_cases e : k = g
  · try dsimp only
    rw [if_pos e, e]; exact Or.inr ⟨l, hl, hR, rfl, hE⟩
  · try dsimp only
    rw [if_neg e]; exact h k hk
/-- what a search that finds one leaves -/
def Suc (al : Nat → Nat) (F : Nat) (R : Nat → Prop) (U l : Nat) (H H' : Nat → Int32) : Prop := VH al F R H' ∧ (∀ g, g < 16 → U.testBit g = false → H' g = H g) ∧ (∀ y, y < 16 → cnt H' y = cnt H y + (if y = l then 1 else 0)) ∧ siz H' = siz H + 1
/-- what a search that finds none leaves -/
def Fai (al : Nat → Nat) (F U l : Nat) (H : Nat → Int32) (U' : Nat) : Prop := U' < 65536 ∧ (∀ g, U'.testBit g = true → U.testBit g = true) ∧ (∀ g, g < 16 → Ed al F l g → U'.testBit g = false) ∧ ∀ g, g < 16 → U.testBit g = true → U'.testBit g = false → ∃ x, x < 16 ∧ H g = nI x ∧ ∀ g2, g2 < 16 → Ed al F x g2 → U'.testBit g2 = false
theorem x_hold {al : Nat → Nat} {F : Nat} {R : Nat → Prop} {s0 : St} (hal : ∀ l, l < 16 → s0.2 14 l = nI (al l)) : ∀ k d l H U (Q : Int32 → St → Prop), 16 ≤ k + d → pop U + d ≤ 16 → l < 16 → R l → U < 65536 → (∀ g, U.testBit g = true → F.testBit g = true) → VH al F R H → (∀ H' U', Suc al F R U l H H' → Q 1 (stF (stC s0 16 H') 1303 (nI U'))) → (∀ U', Fai al F U l H U' → Q 0 (stF (stC s0 16 H) 1303 (nI U'))) → wX3_canHold (k + 1) (nI l) (nI d) (stF (stC s0 16 H) 1303 (nI U)) Q := by
  intro k
  induction k with
  | zero =>
    intro d l H U Q hk hp hl hR hU hF hV hs hf
    have e : d = 16 := by omega
    subst e
    show wX3_canHold_b _ _ _ _ _
    try dsimp only
    unfold wX3_canHold_b
    try dsimp only
    rw [if_neg (show ¬ nI 16 < (16 : Int32) from nI_nlt (a := 16) (b := 16) (by omega) (by omega))]
    have p0 : pop U = 0 := by omega
    exact hf U ⟨hU, fun _ h => h, fun g hg _ => pop_0 p0 hg, fun g hg h => by rw [pop_0 p0 hg] at h; exact absurd h (by decide)⟩
  | succ k ih =>
    intro d l H U Q hk hp hl hR hU hF hV hs hf
    show wX3_canHold_b _ _ _ _ _
    try dsimp only
    unfold wX3_canHold_b
    by_cases hd : d < 16
    · try dsimp only
      rw [if_pos (show nI d < (16 : Int32) from nI_lt (b := 16) hd (by omega))]
      intro P hP
      -- the loop
      have lp : ∀ m g Uc, g + m = 16 → Uc < 65536 → (∀ j, Uc.testBit j = true → U.testBit j = true) → (∀ j, j < g → Ed al F l j → Uc.testBit j = false) → (∀ j, j < 16 → U.testBit j = true → Uc.testBit j = false → ∃ x, x < 16 ∧ H j = nI x ∧ ∀ g2, g2 < 16 → Ed al F x g2 → Uc.testBit g2 = false) → P (nI l) (nI d) (nI g) (stF (stC s0 16 H) 1303 (nI Uc)) := by
        intro m
        induction m with
        | zero =>
          intro g Uc hg u1 u2 u3 u4
          have e : g = 16 := by omega
          subst e
          refine hP _ _ _ _ ?_
          try dsimp only
          unfold wX3_canHold_10_b
          try dsimp only
          rw [if_pos (show (16 : Int32) ≤ nI 16 from nI_le (a := 16) (b := 16) (by omega) (by omega))]
          exact hf Uc ⟨u1, u2, u3, u4⟩
        | succ m ihm =>
          intro g Uc hg u1 u2 u3 u4
          have hg16 : g < 16 := by omega
          refine hP _ _ _ _ ?_
          try dsimp only
          unfold wX3_canHold_10_b
          try dsimp only
          rw [if_neg (show ¬ (16 : Int32) ≤ nI g from nI_ge (a := g) (b := 16) (by omega) (by omega)), nI_1]
          have e14 : gA (stF (stC s0 16 H) 1303 (nI Uc)) 14 (nI l) = nI (al l) := by rw [gn (by omega)]; exact hal l hl
          have eU : gF (stF (stC s0 16 H) 1303 (nI Uc)) 1303 = nI Uc := rfl
          rw [e14, eU, fa_and]
          have eb : (nI (al l &&& Uc) &&& (1 : Int32) <<< (nI g &&& 31) = 0) = (((al l).testBit g && Uc.testBit g) = false) := by rw [bit0 hg16, Nat.testBit_and]
          refine ⟨vin hl (by omega), ?_⟩
          by_cases hb : ((al l).testBit g && Uc.testBit g) = false
          · try dsimp only
            rw [if_pos (eb.mpr hb)]
            refine ihm (g + 1) Uc (by omega) u1 u2 (fun j hj hE => ?_) u4
            by_cases ej : j = g
            · subst ej
              rw [hE.1] at hb
              simpa using hb
            · exact u3 j (by omega) hE
          · try dsimp only
            rw [if_neg (fun z => hb (eb.mp z))]
            have hb2 : (al l).testBit g = true ∧ Uc.testBit g = true := by simpa using hb
            have hE : Ed al F l g := ⟨hb2.1, hF g (u2 g hb2.2)⟩
            have c1 : clr Uc g < 65536 := clr_lt u1
            have c2 : ∀ j, (clr Uc g).testBit j = (Uc.testBit j && !decide (j = g)) := fun j => clr_bit u1 hg16
            have c3 : (clr Uc g).testBit g = false := by rw [c2]; simp
            have c4 : ∀ j, (clr Uc g).testBit j = true → Uc.testBit j = true := fun j h => by rw [c2] at h; simp at h; exact h.1
            rw [bit_clr hg16, st_FF]
            have e16 : gA (stF (stC s0 16 H) 1303 (nI (clr Uc g))) 16 (nI g) = H g := by rw [gn (by omega)]; rfl
            rw [e16]
            refine ⟨vin hg16 (by omega), ?_⟩
            have fin : ∀ (H1 : Nat → Int32) (U1 : Nat), Q 1 (stF (stC s0 16 (upd H1 g (nI l))) 1303 (nI U1)) → wX3_canHold_78 (wX3_canHold (k + 1)) (nI l) (nI g) (stF (stC s0 16 H1) 1303 (nI U1)) Q := by
              intro H1 U1 hq
              try dsimp only
              unfold wX3_canHold_78
              rw [st_CFA, cl (by omega)]
              exact ⟨vin hg16 (by omega), hq⟩
            by_cases h0 : H g = -4
            · try dsimp only
              rw [if_pos h0]
              refine fin H _ (hs _ _ ⟨hV.put hl hR hE, fun j hj hu => ?_, cnt_new hg16 hl h0, ?_⟩)
              · exact upd_n (fun z => by rw [z, u2 g hb2.2] at hu; exact absurd hu (by decide))
              · have q := siz_upd (H := H) (g := g) (v := nI l) hg16
                try dsimp only
                rw [if_pos h0, if_neg (m4_ne' (by omega))] at q
                omega
            · try dsimp only
              rw [if_neg h0]
              obtain ⟨x, hx, Rx, ex, Ex⟩ := (hV g hg16).resolve_left h0
              rw [ex, nI_1]
              have pc := pop_clr u1 hg16 hb2.2
              have ps := pop_sub u2
              refine ih (d + 1) x H (clr Uc g) _ (by omega) (by omega) hx Rx c1 (fun j hj => hF j (u2 j (c4 j hj))) hV (fun H1 U1 sc => ?_) (fun U1 fc => ?_)
              · try dsimp only
                rw [if_neg (by decide)]
                obtain ⟨s1, s2, s3, s4⟩ := sc
                have e1 : H1 g = nI x := (s2 g hg16 c3).trans ex
                refine fin H1 U1 (hs _ _ ⟨s1.put hl hR hE, fun j hj hu => ?_, cnt_add hg16 hl hx e1 s3, ?_⟩)
                · have jg : j ≠ g := fun z => by rw [z, u2 g hb2.2] at hu; exact absurd hu (by decide)
                  rw [upd_n jg]
                  refine s2 j hj ?_
                  rw [c2]
                  have : Uc.testBit j = false := by
                    cases hc : Uc.testBit j with
                    | false => rfl
                    | true => rw [u2 j hc] at hu; exact absurd hu (by decide)
                  rw [this]; rfl
                · have q := siz_upd (H := H1) (g := g) (v := nI l) hg16
                  try dsimp only
                  rw [if_neg (by rw [e1]; exact m4_ne' (by omega)), if_neg (m4_ne' (by omega))] at q
                  omega
              · try dsimp only
                rw [if_pos rfl]
                obtain ⟨f1, f2, f3, f4⟩ := fc
                have down : ∀ j, Uc.testBit j = false → U1.testBit j = false := by
                  intro j hj
                  cases hu : U1.testBit j with
                  | false => rfl
                  | true => rw [c4 j (f2 j hu)] at hj; exact absurd hj (by decide)
                refine ihm (g + 1) U1 (by omega) f1 (fun j hj => u2 j (c4 j (f2 j hj))) (fun j hj hEj => ?_) (fun j hj hUj hu => ?_)
                · by_cases ej : j = g
                  · subst ej
                    cases hu : U1.testBit j with
                    | false => rfl
                    | true => rw [f2 j hu] at c3; exact absurd c3 (by decide)
                  · exact down j (u3 j (by omega) hEj)
                · cases hc : Uc.testBit j with
                  | false =>
                    obtain ⟨y, y1, y2, y3⟩ := u4 j hj hUj hc
                    exact ⟨y, y1, y2, fun g2 h2 hE2 => down g2 (y3 g2 h2 hE2)⟩
                  | true =>
                    by_cases ej : j = g
                    · subst ej; exact ⟨x, hx, ex, f3⟩
                    · exact f4 j hj (by rw [c2, hc]; simp [ej]) hu
      exact lp 16 0 U (by omega) hU (fun _ h => h) (fun j hj => absurd hj (by omega)) (fun j hj h1 h2 => by rw [h1] at h2; exact absurd h2 (by decide))
    · try dsimp only
      rw [if_neg (show ¬ nI d < (16 : Int32) from nI_nlt (b := 16) (by omega) (by omega))]
      have p0 : pop U = 0 := by omega
      exact hf U ⟨hU, fun _ h => h, fun g hg _ => pop_0 p0 hg, fun g hg h => by rw [pop_0 p0 hg] at h; exact absurd h (by decide)⟩
theorem st_Fself {s : St} {k : Nat} : stF s k (gF s k) = s := by
  refine st_ext (fun j => ?_) (fun _ _ => rfl)
  rw [g_FF]
  by_cases h : j = k
  · try dsimp only
    rw [if_pos h, h]
  · try dsimp only
    rw [if_neg h]
theorem siz_le (H : Nat → Int32) : siz H ≤ 16 := fb_ct_le _ 16
theorem x_behind {al : Nat → Nat} {F a : Nat} {s0 : St} (hal : ∀ l, l < 16 → s0.2 14 l = nI (al l)) (hF : F < 65536) (ha : a ≤ 16) {Q : Int32 → St → Prop} (hq : ∀ H u k, IsMax (Ed al F) a 16 k → k ≤ 16 → Q (nI k) (stF (stC s0 16 H) 1303 u)) : wX3_mostBehind (nI a) (nI F) s0 Q := by
  try dsimp only
  unfold wX3_mostBehind wJ7_fill_53178_16
  refine fil16 16 0 s0 (by omega) ?_
  have lp : ∀ m l H u, l + m = 16 → a ≤ l → Top (Ed al F) a l H → wX3_mostBehind_14 (nI F) (nI (siz H)) (nI l) (stF (stC s0 16 H) 1303 u) Q := by
    intro m l H u hm hal2 ht P hP
    induction m generalizing l H u with
    | zero =>
      have e : l = 16 := by omega
      subst e
      refine hP _ _ _ _ ?_
      try dsimp only
      unfold wX3_mostBehind_14_b
      try dsimp only
      rw [if_pos (show (16 : Int32) ≤ nI 16 from nI_le (a := 16) (b := 16) (by omega) (by omega))]
      exact hq H u _ ⟨H, ht, rfl⟩ (siz_le H)
    | succ m ih =>
      have hl : l < 16 := by omega
      refine hP _ _ _ _ ?_
      try dsimp only
      unfold wX3_mostBehind_14_b
      try dsimp only
      rw [if_neg (show ¬ (16 : Int32) ≤ nI l from nI_ge (a := l) (b := 16) (by omega) (by omega)), st_FF, nI_1, nI_1]
      have hV : VH al F (fun x => a ≤ x ∧ x ≤ l) H := by
        intro g hg
        rcases ht.1.1 g hg with e | ⟨x, x1, x2, x3, x4⟩
        · exact Or.inl e
        · exact Or.inr ⟨x, by omega, ⟨x1, by omega⟩, x3, x4⟩
      refine x_hold (R := fun x => a ≤ x ∧ x ≤ l) hal 39 0 l H F _ (by omega) (by have := pop_le F; omega) hl ⟨hal2, by omega⟩ hF (fun _ h => h) hV (fun H' U' sc => ?_) (fun U' fc => ?_)
      · try dsimp only
        rw [if_neg (by decide)]
        obtain ⟨s1, s2, s3, s4⟩ := sc
        have c0 : cnt H l = 0 := fb_ct_zero.mpr (fun g hg => decide_eq_false (fun z => by
          rcases ht.1.1 g hg with e | ⟨x, x1, x2, x3, x4⟩
          · exact m4_ne (by omega) (e.symm.trans z)
          · have := (nI_eq (by omega) (by omega)).mp (x3.symm.trans z)
            omega))
        have mt : Mt (Ed al F) a (l + 1) H' := by
          refine ⟨fun g hg => ?_, fun y hy => ?_⟩
          · rcases s1 g hg with e | ⟨x, x1, x2, x3, x4⟩
            · exact Or.inl e
            · exact Or.inr ⟨x, x2.1, by omega, x3, x4⟩
          · rw [s3 y hy]
            by_cases z : y = l
            · try dsimp only
              rw [if_pos z, z, c0]; omega
            · try dsimp only
              rw [if_neg z]; exact ht.1.2 y hy
        rw [← s4]
        exact ih (l + 1) H' _ (by omega) (by omega) (top_succ hl ht mt s4)
      · try dsimp only
        rw [if_pos rfl]
        obtain ⟨f1, f2, f3, f4⟩ := fc
        refine ih (l + 1) H _ (by omega) (by omega) (top_fail (fun g => F.testBit g = true ∧ U'.testBit g = false) hl ht (fun g hg v => ?_) (fun g hg v => ⟨v.2, f3 g hg v⟩))
        obtain ⟨x, x1, x2, x3⟩ := f4 g hg v.1 v.2
        exact ⟨x, x1, x2, fun g2 h2 hE => ⟨hE.2, x3 g2 h2 hE⟩⟩
  have e : ∀ g, g < 16 → fil (s0.2 16) 0 16 (-4) g = -4 := fun g hg => by unfold fil; rw [if_pos (by omega)]
  have t0 := top_0 (E := Ed al F) (a := a) e
  have z : siz (fil (s0.2 16) 0 16 (-4)) = 0 := fb_ct_zero.mpr (fun k hk => by unfold n4; exact decide_eq_false (fun w => w (e k hk)))
  have w := lp (16 - a) a (fil (s0.2 16) 0 16 (-4)) (gF s0 1303) (by omega) (Nat.le_refl a) t0
  rw [z, show stF (stC s0 16 (fil (s0.2 16) 0 16 (-4))) 1303 (gF s0 1303) = stC s0 16 (fil (s0.2 16) 0 16 (-4)) from st_Fself (s := stC s0 16 (fil (s0.2 16) 0 16 (-4))) (k := 1303)] at w
  exact w
