/-! the model's search -/
def Em (m x : Nat → Int32) (y g : Nat) : Prop := ¬ m (16 * y + g) = 0 ∧ x g = 0
/-- with: partners on both sides, but for the gentleman z -/
def WI (L m x : Nat → Int32) (a b : Nat) (z : Nat) (w : Nat → Int32) : Prop := (∀ g, g < 16 → L g = 0 → x g = 0 → g ≠ z → w g = -4 ∨ ∃ y, y < 16 ∧ a ≤ y ∧ y < b ∧ ¬ L y = 0 ∧ w g = nI y ∧ Em m x y g ∧ w y = nI g) ∧ ∀ y, y < 16 → ¬ L y = 0 → a ≤ y → w y = -4 ∨ ∃ g, g < 16 ∧ g ≠ z ∧ L g = 0 ∧ x g = 0 ∧ w y = nI g ∧ w g = nI y
theorem y_change {s : St} {m x q f : Nat → Int32} {lady a t : Nat} {G Y : Nat → Nat} {Q : St → Prop} (hl : lady < 16) (Ll : ¬ s.2 31 lady = 0) (la : a ≤ lady) (Y0 : Y 0 = lady)
    (S1 : ∀ i, i < t → Y i < 16 ∧ ¬ s.2 31 (Y i) = 0 ∧ x (Y i) = 0 ∧ a ≤ Y i ∧ Y i ≤ lady)
    (S2 : ∀ i, 0 < i → i < t → Y i ≠ lady ∧ G i < 16 ∧ s.2 31 (G i) = 0 ∧ x (G i) = 0 ∧ ∃ j, j < i ∧ f (G i) = nI (Y j) ∧ Em m x (Y j) (G i))
    (S3 : ∀ i j, 0 < i → i < j → j < t → G i ≠ G j) : ∀ N i, i ≤ N → i < t → ∀ g w, g < 16 → s.2 31 g = 0 → x g = 0 → f g = nI (Y i) → Em m x (Y i) g → (∀ j, 0 < j → j ≤ i → w (G j) = nI (Y j) ∧ G j ≠ g) → WI (s.2 31) m x a (lady + 1) g w → w lady = -4 →
    (∀ w', WI (s.2 31) m x a (lady + 1) 16 w' → (∀ p, p < 16 → ¬ x p = 0 → w' p = w p) → (∀ g', g' < 16 → s.2 31 g' = 0 → x g' = 0 → (w' g' = -4 ↔ (w g' = -4 ∧ g' ≠ g))) → Q (m5 s m w' x q f)) → wX8_change_5 (nI lady) (nI g) 1 (m5 s m w x q f) Q := by
  intro N
  induction N with
  | zero =>
    intro i hN hi g w hg Lg xg fg eg d1 d2 d3 hq P hP
    have e : i = 0 := by omega
    subst e
    rw [Y0] at fg eg
    refine hP _ _ _ _ ?_
    try dsimp only
    unfold wX8_change_5_b
    have e45 : gA (m5 s m w x q f) 45 (nI g) = nI lady := by rw [gn (by omega)]; exact fg
    try dsimp only
    rw [if_neg (by decide), e45, if_pos rfl, m5_42, m5_42, cl (by omega), cl (by omega)]
    refine ⟨vin hg (by omega), vin hl (by omega), vin hg (by omega), vin hl (by omega), ?_⟩
    refine hP _ _ _ _ ?_
    try dsimp only
    unfold wX8_change_5_b
    try dsimp only
    rw [if_pos rfl]
    have gl : g ≠ lady := fun z => Ll (z ▸ Lg)
    refine hq _ ⟨fun g' h1 h2 h3 h4 => ?_, fun y h1 h2 h3 => ?_⟩ (fun p hp xp => ?_) (fun g' h1 h2 h3 => ?_)
    · have g'l : g' ≠ lady := fun z => Ll (z ▸ h2)
      by_cases e : g' = g
      · subst e
        refine Or.inr ⟨lady, hl, la, by omega, Ll, ?_, eg, upd_s⟩
        rw [upd_n g'l, upd_s]
      · rw [upd_n g'l, upd_n e]
        rcases d2.1 g' h1 h2 h3 e with c | ⟨y, y1, y2, y3, y4, y5, y6, y7⟩
        · exact Or.inl c
        · refine Or.inr ⟨y, y1, y2, y3, y4, y5, y6, ?_⟩
          have yl : y ≠ lady := fun z => by rw [z, d3] at y7; exact m4_ne (by omega) y7
          have yg : y ≠ g := fun z => y4 (z ▸ Lg)
          rw [upd_n yl, upd_n yg]; exact y7
    · by_cases e : y = lady
      · subst e
        refine Or.inr ⟨g, hg, by omega, Lg, xg, upd_s, ?_⟩
        rw [upd_n gl, upd_s]
      · have yg : y ≠ g := fun z => h2 (z ▸ Lg)
        rw [upd_n e, upd_n yg]
        rcases d2.2 y h1 h2 h3 with c | ⟨g', g1, g2, g3, g4, g5, g6⟩
        · exact Or.inl c
        · refine Or.inr ⟨g', g1, by omega, g3, g4, g5, ?_⟩
          have g'l : g' ≠ lady := fun z => Ll (z ▸ g3)
          rw [upd_n g'l, upd_n g2]; exact g6
    · have pl : p ≠ lady := fun z => xp (z ▸ Y0 ▸ (S1 0 hi).2.2.1)
      have pg : p ≠ g := fun z => xp (z ▸ xg)
      rw [upd_n pl, upd_n pg]
    · have g'l : g' ≠ lady := fun z => Ll (z ▸ h2)
      by_cases e : g' = g
      · subst e
        rw [upd_n g'l, upd_s]
        exact ⟨fun z => absurd z (m4_ne' (by omega)), fun z => absurd rfl z.2⟩
      · rw [upd_n g'l, upd_n e]
        exact ⟨fun z => ⟨z, e⟩, fun z => z.1⟩
  | succ N ih =>
    intro i hN hi g w hg Lg xg fg eg d1 d2 d3 hq P hP
    by_cases hi0 : i ≤ N
    · exact ih i hi0 hi g w hg Lg xg fg eg d1 d2 d3 hq P hP
    · have i0 : 0 < i := by omega
      obtain ⟨yl, G1, G2, G3, j, ji, fj, ej⟩ := S2 i i0 hi
      obtain ⟨Y1, Y2, Y3, Y4, Y5⟩ := S1 i hi
      obtain ⟨w1, w2⟩ := d1 i i0 (Nat.le_refl i)
      have wY : w (Y i) = nI (G i) := by
        rcases d2.1 (G i) G1 G2 G3 w2 with c | ⟨y, y1, y2, y3, y4, y5, y6, y7⟩
        · exact absurd (c.symm.trans w1) (m4_ne (by omega))
        · have : y = Y i := (nI_eq (by omega) (by omega)).mp (y5.symm.trans w1)
          rw [← this]; exact y7
      refine hP _ _ _ _ ?_
      try dsimp only
      unfold wX8_change_5_b
      have e45 : gA (m5 s m w x q f) 45 (nI g) = nI (Y i) := by rw [gn (by omega)]; exact fg
      have e42 : gA (m5 s m w x q f) 42 (nI (Y i)) = nI (G i) := by rw [gn (by omega)]; exact wY
      try dsimp only
      rw [if_neg (by decide), e45, e42, if_neg (by rw [nI_eq (by omega) (by omega)]; exact yl), m5_42, m5_42, cl (by omega), cl (by omega)]
      refine ⟨vin hg (by omega), vin Y1 (by omega), vin hg (by omega), vin Y1 (by omega), ?_⟩
      have gY : g ≠ Y i := fun z => Y2 (z ▸ Lg)
      refine ih j (by omega) (by omega) (G i) _ G1 G2 G3 fj ej (fun j' j1 j2 => ?_) ⟨fun g' h1 h2 h3 h4 => ?_, fun y h1 h2 h3 => ?_⟩ ?_ (fun w' a1 a2 a3 => hq w' a1 (fun p hp xp => ?_) (fun g' h1 h2 h3 => ?_)) P hP
      · obtain ⟨v1, v2⟩ := d1 j' j1 (by omega)
        obtain ⟨-, -, u2, -⟩ := S2 j' j1 (by omega)
        have gY' : G j' ≠ Y i := fun z => Y2 (z ▸ u2)
        rw [upd_n gY', upd_n v2]
        exact ⟨v1, S3 j' i j1 (by omega) hi⟩
      · have g'Y : g' ≠ Y i := fun z => Y2 (z ▸ h2)
        by_cases e : g' = g
        · subst e
          refine Or.inr ⟨Y i, Y1, Y4, by omega, Y2, ?_, eg, upd_s⟩
          rw [upd_n g'Y, upd_s]
        · rw [upd_n g'Y, upd_n e]
          rcases d2.1 g' h1 h2 h3 e with c | ⟨y, y1, y2, y3, y4, y5, y6, y7⟩
          · exact Or.inl c
          · refine Or.inr ⟨y, y1, y2, y3, y4, y5, y6, ?_⟩
            have yY : y ≠ Y i := fun z => by
              rw [z, wY] at y7
              exact h4 ((nI_eq (by omega) (by omega)).mp y7).symm
            have yg : y ≠ g := fun z => y4 (z ▸ Lg)
            rw [upd_n yY, upd_n yg]; exact y7
      · by_cases e : y = Y i
        · subst e
          refine Or.inr ⟨g, hg, fun z => w2 z.symm, Lg, xg, upd_s, ?_⟩
          rw [upd_n gY, upd_s]
        · have yg : y ≠ g := fun z => h2 (z ▸ Lg)
          rw [upd_n e, upd_n yg]
          rcases d2.2 y h1 h2 h3 with c | ⟨g', g1, g2, g3, g4, g5, g6⟩
          · exact Or.inl c
          · have g'Y : g' ≠ Y i := fun z => Y2 (z ▸ g3)
            refine Or.inr ⟨g', g1, fun z => ?_, g3, g4, g5, ?_⟩
            · rw [z, w1] at g6
              exact e ((nI_eq (by omega) (by omega)).mp g6).symm
            · rw [upd_n g'Y, upd_n g2]; exact g6
      · have l1 : lady ≠ Y i := fun z => yl z.symm
        have l2 : lady ≠ g := fun z => Ll (z ▸ Lg)
        rw [upd_n l1, upd_n l2]; exact d3
      · rw [a2 p hp xp]
        have p1 : p ≠ Y i := fun z => xp (z ▸ Y3)
        have p2 : p ≠ g := fun z => xp (z ▸ xg)
        rw [upd_n p1, upd_n p2]
      · rw [a3 g' h1 h2 h3]
        have g'Y : g' ≠ Y i := fun z => Y2 (z ▸ h2)
        by_cases e : g' = g
        · subst e
          rw [upd_n g'Y, upd_s]
          exact ⟨fun z => absurd z.1 (m4_ne' (by omega)), fun z => absurd rfl z.2⟩
        · rw [upd_n g'Y, upd_n e]
          refine ⟨fun z => ⟨z.1, e⟩, fun z => ⟨z.1, fun c => ?_⟩⟩
          rw [c, w1] at z
          exact m4_ne' (by omega) z.1
