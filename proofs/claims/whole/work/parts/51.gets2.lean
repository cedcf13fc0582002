/-! the model's search, on -/
def BfI (L m x w : Nat → Int32) (lady a t : Nat) (q f : Nat → Int32) (G Y : Nat → Nat) : Prop := (0 < t ∧ t ≤ 16 ∧ Y 0 = lady) ∧ (∀ i, i < t → q i = nI (Y i) ∧ Y i < 16 ∧ ¬ L (Y i) = 0 ∧ x (Y i) = 0 ∧ a ≤ Y i ∧ Y i ≤ lady) ∧ (∀ i, 0 < i → i < t → w (G i) = nI (Y i) ∧ Y i ≠ lady ∧ G i < 16 ∧ L (G i) = 0 ∧ x (G i) = 0 ∧ ∃ j, j < i ∧ f (G i) = nI (Y j) ∧ Em m x (Y j) (G i)) ∧ (∀ i j, 0 < i → i < j → j < t → G i ≠ G j) ∧ ∀ g, g < 16 → ¬ f g = -4 → ∃ i, 0 < i ∧ i < t ∧ G i = g
theorem BfI.new {L m x w : Nat → Int32} {lady a t : Nat} {q f : Nat → Int32} {G Y : Nat → Nat} (h : BfI L m x w lady a t q f G Y) {g : Nat} (hg : f g = -4) {i : Nat} (i0 : 0 < i) (it : i < t) : G i ≠ g := by
  obtain ⟨⟨b1, b2, b3⟩, c, d, e, k⟩ := h
  obtain ⟨-, -, -, -, -, j, j1, j2, -⟩ := d i i0 it
  intro z
  rw [z, hg] at j2
  have := (c j (by omega)).2.1
  exact m4_ne (by omega) j2
theorem BfI.room {L m x w : Nat → Int32} {lady a t : Nat} {q f : Nat → Int32} {G Y : Nat → Nat} (h : BfI L m x w lady a t q f G Y) (hl : lady < 16) (Ll : ¬ L lady = 0) {g : Nat} (hg : f g = -4) (g16 : g < 16) (Lg : L g = 0) : t < 16 := by
  have hn := fun {i : Nat} => h.new hg (i := i)
  obtain ⟨⟨b1, b2, b3⟩, c, d, e, k⟩ := h
  have gl : g ≠ lady := fun z => Ll (z ▸ Lg)
  have := fb_holes 16 (t + 1) (fun k => if k = 0 then lady else if k < t then G k else g) (fun i hi => ?_) (fun i j hij hj => ?_)
  · omega
  · show (if i = 0 then lady else if i < t then G i else g) < 16
    by_cases i0 : i = 0
    · try dsimp only
      rw [if_pos i0]; exact hl
    · try dsimp only
      rw [if_neg i0]
      by_cases it : i < t
      · try dsimp only
        rw [if_pos it]; exact (d i (by omega) it).2.2.1
      · try dsimp only
        rw [if_neg it]; exact g16
  · show (if i = 0 then lady else if i < t then G i else g) ≠ (if j = 0 then lady else if j < t then G j else g)
    try dsimp only
    rw [if_neg (show ¬ j = 0 by omega)]
    by_cases i0 : i = 0
    · try dsimp only
      rw [if_pos i0]
      by_cases jt : j < t
      · try dsimp only
        rw [if_pos jt]
        intro z
        have := (d j (by omega) jt).2.2.2.1
        rw [← z] at this
        exact Ll this
      · try dsimp only
        rw [if_neg jt]; exact fun z => gl z.symm
    · try dsimp only
      rw [if_neg i0, if_pos (show i < t by omega)]
      by_cases jt : j < t
      · try dsimp only
        rw [if_pos jt]; exact e i j (by omega) hij jt
      · try dsimp only
        rw [if_neg jt]; exact hn (by omega) (by omega)
theorem WI.lady {L m x : Nat → Int32} {a lady : Nat} {w : Nat → Int32} (h : WI L m x a lady 16 w) (hl : lady < 16) (Ll : ¬ L lady = 0) (la : a ≤ lady) : w lady = -4 := by
  rcases h.2 lady hl Ll la with c | ⟨g, g1, g2, g3, g4, g5, g6⟩
  · exact c
  · rcases h.1 g g1 g3 g4 g2 with c | ⟨y, y1, y2, y3, y4, y5, -⟩
    · exact absurd (c.symm.trans g6) (m4_ne (by omega))
    · have := (nI_eq (by omega) (by omega)).mp (y5.symm.trans g6)
      omega
theorem y_gets {s : St} {n lady a : Nat} {m x w : Nat → Int32} (h16 : n ≤ 16) (n2 : gF s 3000 = nI n) (hE : ∀ y g, y < 16 → g < 16 → ¬ m (16 * y + g) = 0 → g < n ∧ s.2 31 g = 0) (hl : lady < 16) (Ll : ¬ s.2 31 lady = 0) (la : a ≤ lady) (xl : ∀ y, y < 16 → ¬ s.2 31 y = 0 → a ≤ y → x y = 0) (hw : WI (s.2 31) m x a lady 16 w) {Q : Int32 → St → Prop}
    (hs : ∀ w' q' f' g0, WI (s.2 31) m x a (lady + 1) 16 w' → (∀ p, p < 16 → ¬ x p = 0 → w' p = w p) → g0 < 16 → s.2 31 g0 = 0 → x g0 = 0 → w g0 = -4 → (∀ g', g' < 16 → s.2 31 g' = 0 → x g' = 0 → (w' g' = -4 ↔ (w g' = -4 ∧ g' ≠ g0))) → Q 1 (m5 s m w' x q' f'))
    (hf : ∀ q' f' (V : Nat → Prop), (∀ g, g < 16 → V g → s.2 31 g = 0 ∧ x g = 0 ∧ ∃ y, y < 16 ∧ w g = nI y ∧ ∀ g2, g2 < 16 → Em m x y g2 → V g2) → (∀ g2, g2 < 16 → Em m x lady g2 → V g2) → Q 0 (m5 s m w x q' f')) : ∀ q f, wX8_gets (nI lady) (m5 s m w x q f) Q := by
  have wl := hw.lady hl Ll la
  -- the outer loop
  have lp : ∀ k at_ t q f G Y, at_ + k = 16 → at_ ≤ t → BfI (s.2 31) m x w lady a t q f G Y → (∀ i, i < at_ → ∀ g, g < 16 → Em m x (Y i) g → ¬ f g = -4) → wX8_gets_33 (nI lady) (nI t) (nI at_) (m5 s m w x q f) Q := by
    intro k at_ t q f G Y hk hat hB hc P hP
    induction k generalizing at_ t q f G Y with
    | zero =>
      obtain ⟨⟨b1, b2, b3⟩, c, d, e, k⟩ := hB
      refine hP _ _ _ _ ?_
      try dsimp only
      unfold wX8_gets_33_b
      try dsimp only
      rw [if_pos (by rw [nI_leI (by omega) (by omega)]; omega)]
      refine hf q f (fun g => ¬ f g = -4) (fun g hg v => ?_) (fun g2 h2 he => hc 0 (by omega) g2 h2 (by rw [b3]; exact he))
      obtain ⟨i, i0, it, rfl⟩ := k g hg v
      obtain ⟨u1, u2, u3, u4, u5, -⟩ := d i i0 it
      exact ⟨u4, u5, Y i, (c i it).2.1, u1, hc i (by omega)⟩
    | succ k ih =>
      refine hP _ _ _ _ ?_
      try dsimp only
      unfold wX8_gets_33_b
      have hB' := hB
      obtain ⟨⟨b1, b2, b3⟩, c, d, e, k5⟩ := hB'
      by_cases ht : t ≤ at_
      · try dsimp only
        rw [if_pos (by rw [nI_leI (by omega) (by omega)]; omega)]
        refine hf q f (fun g => ¬ f g = -4) (fun g hg v => ?_) (fun g2 h2 he => hc 0 (by omega) g2 h2 (by rw [b3]; exact he))
        obtain ⟨i, i0, it, rfl⟩ := k5 g hg v
        obtain ⟨u1, u2, u3, u4, u5, -⟩ := d i i0 it
        exact ⟨u4, u5, Y i, (c i it).2.1, u1, hc i (by omega)⟩
      · try dsimp only
        rw [if_neg (by rw [nI_leI (by omega) (by omega)]; omega)]
        refine ⟨vin (by omega) (by omega), ?_⟩
        have eq : gA (m5 s m w x q f) 44 (nI at_) = nI (Y at_) := by rw [gn (by omega)]; exact (c at_ (by omega)).1
        rw [eq]
        have hY := (c at_ (by omega)).2.1
        -- the inner loop
        have lp2 : ∀ r g t q f G Y', g + r = n → at_ < t → BfI (s.2 31) m x w lady a t q f G Y' → Y' at_ = Y at_ → (∀ i, i < at_ → Y' i = Y i) → (∀ i, i < at_ → ∀ g, g < 16 → Em m x (Y i) g → ¬ f g = -4) → (∀ g', g' < g → Em m x (Y at_) g' → ¬ f g' = -4) → wX8_gets_49 P (nI lady) (nI t) (nI at_) (nI (Y at_)) (nI g) (m5 s m w x q f) Q := by
          intro r g t q f G Y' hr hat hB eY eY2 hc hc2 P2 hP2
          induction r generalizing g t q f G Y' with
          | zero =>
            refine hP2 _ _ _ _ _ _ ?_
            try dsimp only
            unfold wX8_gets_49_b
            have en : gF (m5 s m w x q f) 3000 = nI n := n2
            rw [en, if_pos (by rw [nI_leI (by omega) (by omega)]; omega), nI_1]
            refine ih (at_ + 1) t q f G Y' (by omega) (by omega) hB (fun i hi g' hg' he => ?_)
            by_cases e : i = at_
            · rw [e, eY] at he
              have := (hE (Y at_) g' hY hg' he.1).1
              exact hc2 g' (by omega) he
            · rw [eY2 i (by omega)] at he
              exact hc i (by omega) g' hg' he
          | succ r ihr =>
            have hg : g < 16 := by omega
            refine hP2 _ _ _ _ _ _ ?_
            try dsimp only
            unfold wX8_gets_49_b
            have en : gF (m5 s m w x q f) 3000 = nI n := n2
            rw [en, if_neg (by rw [nI_leI (by omega) (by omega)]; omega), ix16]
            refine ⟨vin (by omega) (by omega), ?_⟩
            have e41 : gA (m5 s m w x q f) 41 (nI (16 * Y at_ + g)) = m (16 * Y at_ + g) := by rw [gn (by omega)]; rfl
            have e45 : gA (m5 s m w x q f) 45 (nI g) = f g := by rw [gn (by omega)]; rfl
            have e43 : gA (m5 s m w x q f) 43 (nI g) = x g := by rw [gn (by omega)]; rfl
            rw [e41, nI_1 g]
            have nxt : ((Em m x (Y at_) g) → ¬ f g = -4) → P2 (nI lady) (nI t) (nI at_) (nI (Y at_)) (nI (g + 1)) (m5 s m w x q f) := fun h => ihr (g + 1) t q f G Y' (by omega) hat hB eY eY2 hc (fun g' hg' he => by
              by_cases e : g' = g
              · rw [e] at he ⊢; exact h he
              · exact hc2 g' (by omega) he)
            by_cases hm : m (16 * Y at_ + g) = 0
            · try dsimp only
              rw [if_pos hm]; exact nxt (fun he => absurd hm he.1)
            · try dsimp only
              rw [if_neg hm, e45]
              refine ⟨vin hg (by omega), ?_⟩
              by_cases h0 : f g = -4
              · try dsimp only
                rw [if_pos h0, e43]
                refine ⟨vin hg (by omega), ?_⟩
                by_cases hx0 : x g = 0
                · try dsimp only
                  rw [if_pos hx0, m5_45, cl (by omega)]
                  refine ⟨vin hg (by omega), vin hg (by omega), ?_⟩
                  have he : Em m x (Y at_) g := ⟨hm, hx0⟩
                  have Lg := (hE (Y at_) g hY hg hm).2
                  have hn := fun {i : Nat} => hB.new h0 (i := i)
                  have hroom := hB.room hl Ll h0 hg Lg
                  obtain ⟨⟨b1, b2, b3⟩, c, d, e, k5⟩ := hB
                  have e42 : gA (m5 s m w x q (upd f g (nI (Y at_)))) 42 (nI g) = w g := by rw [gn (by omega)]; rfl
                  rw [e42]
                  by_cases hw0 : w g = -4
                  · try dsimp only
                    rw [if_pos hw0]
                    show wX8_change_5 _ _ _ _ _
                    refine y_change (G := G) (Y := Y') (a := a) (t := t) hl Ll la b3 (fun i hi => (c i hi).2) (fun i i0 hi => ?_) e at_ at_ (Nat.le_refl _) hat g w hg Lg hx0 (by rw [upd_s, eY]) (by rw [eY]; exact he) (fun j j0 hj => ⟨(d j j0 (by omega)).1, hn j0 (by omega)⟩) ⟨fun g' h1 h2 h3 h4 => ?_, fun y h1 h2 h3 => ?_⟩ wl (fun w' a1 a2 a3 => hs w' _ _ g a1 a2 hg Lg hx0 hw0 a3)
                    · obtain ⟨u1, u2, u3, u4, u5, j, j1, j2, j3⟩ := d i i0 hi
                      exact ⟨u2, u3, u4, u5, j, j1, by rw [upd_n (hn i0 hi)]; exact j2, j3⟩
                    · rcases hw.1 g' h1 h2 h3 (by omega) with cc | ⟨y, y1, y2, y3, y4⟩
                      · exact Or.inl cc
                      · exact Or.inr ⟨y, y1, y2, by omega, y4⟩
                    · rcases hw.2 y h1 h2 h3 with cc | ⟨g', g1, g2, g3, g4, g5, g6⟩
                      · exact Or.inl cc
                      · refine Or.inr ⟨g', g1, fun z => ?_, g3, g4, g5, g6⟩
                        rw [z, hw0] at g6
                        exact m4_ne (by omega) g6
                  · try dsimp only
                    rw [if_neg hw0, m5_44, cl (by omega), nI_1 t]
                    refine ⟨vin hg (by omega), vin (by omega) (by omega), ?_⟩
                    obtain ⟨y, y1, y2, y3, y4, y5, y6, y7⟩ := (hw.1 g hg Lg hx0 (by omega)).resolve_left hw0
                    refine ihr (g + 1) (t + 1) _ _ (fun i => if i = t then g else G i) (fun i => if i = t then y else Y' i) (by omega) (by omega) ⟨⟨by omega, by omega, ?_⟩, fun i hi => ?_, fun i i0 hi => ?_, fun i j i0 hij hj => ?_, fun g' h1 h2 => ?_⟩ ?_ (fun i hi => ?_) (fun i hi g' hg' he' => ?_) (fun g' hg' he' => ?_)
                    · show (if 0 = t then y else Y' 0) = lady
                      try dsimp only
                      rw [if_neg (by omega)]; exact b3
                    · show upd q t (w g) i = nI (if i = t then y else Y' i) ∧ (if i = t then y else Y' i) < 16 ∧ ¬ s.2 31 (if i = t then y else Y' i) = 0 ∧ x (if i = t then y else Y' i) = 0 ∧ a ≤ (if i = t then y else Y' i) ∧ (if i = t then y else Y' i) ≤ lady
                      by_cases ei : i = t
                      · try dsimp only
                        rw [if_pos ei, ei, upd_s]; exact ⟨y5, y1, y4, xl y y1 y4 y2, y2, by omega⟩
                      · try dsimp only
                        rw [if_neg ei, upd_n ei]; exact c i (by omega)
                    · show w (if i = t then g else G i) = nI (if i = t then y else Y' i) ∧ (if i = t then y else Y' i) ≠ lady ∧ (if i = t then g else G i) < 16 ∧ s.2 31 (if i = t then g else G i) = 0 ∧ x (if i = t then g else G i) = 0 ∧ ∃ j, j < i ∧ upd f g (nI (Y at_)) (if i = t then g else G i) = nI (if j = t then y else Y' j) ∧ Em m x (if j = t then y else Y' j) (if i = t then g else G i)
                      by_cases ei : i = t
                      · try dsimp only
                        rw [if_pos ei, if_pos ei]
                        refine ⟨y5, by omega, hg, Lg, hx0, at_, by omega, ?_, ?_⟩
                        · rw [upd_s, if_neg (by omega), eY]
                        · try dsimp only
                          rw [if_neg (by omega), eY]; exact he
                      · try dsimp only
                        rw [if_neg ei, if_neg ei]
                        obtain ⟨u1, u2, u3, u4, u5, j, j1, j2, j3⟩ := d i i0 (by omega)
                        refine ⟨u1, u2, u3, u4, u5, j, j1, ?_, ?_⟩
                        · rw [upd_n (hn i0 (by omega)), if_neg (by omega)]; exact j2
                        · try dsimp only
                          rw [if_neg (by omega)]; exact j3
                    · show (if i = t then g else G i) ≠ (if j = t then g else G j)
                      try dsimp only
                      rw [if_neg (show ¬ i = t by omega)]
                      by_cases ej : j = t
                      · try dsimp only
                        rw [if_pos ej]; exact hn i0 (by omega)
                      · try dsimp only
                        rw [if_neg ej]; exact e i j i0 hij (by omega)
                    · by_cases eg : g' = g
                      · exact ⟨t, b1, by omega, by rw [eg]; exact if_pos rfl⟩
                      · rw [upd_n eg] at h2
                        obtain ⟨i, i0, it, ei⟩ := k5 g' h1 h2
                        exact ⟨i, i0, by omega, by rw [← ei]; exact if_neg (by omega)⟩
                    · show (if at_ = t then y else Y' at_) = Y at_
                      try dsimp only
                      rw [if_neg (by omega)]; exact eY
                    · show (if i = t then y else Y' i) = Y i
                      try dsimp only
                      rw [if_neg (by omega)]; exact eY2 i hi
                    · by_cases eg : g' = g
                      · rw [eg, upd_s]; exact m4_ne' (by omega)
                      · rw [upd_n eg]; exact hc i hi g' hg' he'
                    · by_cases eg : g' = g
                      · rw [eg, upd_s]; exact m4_ne' (by omega)
                      · rw [upd_n eg]; exact hc2 g' (by omega) he'
                · try dsimp only
                  rw [if_neg hx0]; exact nxt (fun he => absurd he.2 hx0)
              · try dsimp only
                rw [if_neg h0]; exact nxt (fun _ => h0)
        exact lp2 n 0 t q f G Y (by omega) (by omega) hB rfl (fun _ _ => rfl) hc (fun g' h => absurd h (by omega))
  -- from := -4
  intro q f
  have l0 : ∀ k i f, i + k = 16 → (∀ g, g < i → f g = -4) → wX8_gets_2 (nI lady) (nI i) (m5 s m w x q f) Q := by
    intro k i f hk hf0 P hP
    induction k generalizing i f with
    | zero =>
      have e : i = 16 := by omega
      subst e
      refine hP _ _ _ ?_
      try dsimp only
      unfold wX8_gets_2_b
      try dsimp only
      rw [if_pos (show (16 : Int32) ≤ nI 16 from nI_le (a := 16) (b := 16) (by omega) (by omega)), m5_44, show (0 : Int32).toNatClampNeg = 0 from rfl]
      refine ⟨vi (k := 0) rfl (by decide) (by decide), ?_⟩
      refine lp 16 0 1 _ f (fun _ => 0) (fun _ => lady) (by omega) (by omega) ⟨⟨by omega, by omega, rfl⟩, fun i hi => ?_, fun i i0 hi => absurd hi (by omega), fun i j i0 hij hj => absurd hj (by omega), fun g hg h => absurd (hf0 g hg) h⟩ (fun i hi => absurd hi (by omega))
      have e : i = 0 := by omega
      subst e
      exact ⟨upd_s, hl, Ll, xl lady hl Ll la, la, Nat.le_refl _⟩
    | succ k ih =>
      refine hP _ _ _ ?_
      try dsimp only
      unfold wX8_gets_2_b
      try dsimp only
      rw [if_neg (show ¬ (16 : Int32) ≤ nI i from nI_ge (a := i) (b := 16) (by omega) (by omega)), m5_45, cl (by omega), nI_1]
      refine ⟨vin (by omega) (by omega), ih (i + 1) _ (by omega) (fun g hg => ?_)⟩
      by_cases e : g = i
      · rw [e, upd_s]
      · rw [upd_n e]; exact hf0 g (by omega)
  exact l0 16 0 f (by omega) (fun g h => absurd h (by omega))
