/-! one wish more -/
theorem lf_ok {F : Nat → Int32} {p : Nat} (h : ∃ d, d < 64 ∧ F (64 * p + d) = -4) : ∃ a, lf F p = a ∧ a < 64 ∧ F (64 * p + a) = -4 ∧ ∀ d, d < a → ¬ F (64 * p + d) = -4 := by
  obtain ⟨d, d1, d2⟩ := h
  have no := fa_first_no (fun d => decide (F (64 * p + d) = -4)) 64
  have yes := fa_first_yes (fun d => decide (F (64 * p + d) = -4)) 64
  have le := fa_first_le (fun d => decide (F (64 * p + d) = -4)) 64
  unfold lf
  generalize fa_first (fun d => decide (F (64 * p + d) = -4)) 64 = a at no yes le ⊢
  have lt : a < 64 := by
    refine Nat.lt_of_le_of_ne le (fun e => ?_)
    have := no d (by omega)
    exact of_decide_eq_false this d2
  exact ⟨a, rfl, lt, of_decide_eq_true (yes lt), fun d hd => of_decide_eq_false (no d hd)⟩
theorem cv_row {N : Nat} {F F' : Nat → Int32} {p a : Nat} {y x : Int32} (ha : a < N) (h1 : F' (64 * p + a) = y) (h2 : ∀ d, d < N → d ≠ a → F' (64 * p + d) = F (64 * p + d)) : cv N F' p x + (if F (64 * p + a) = x then 1 else 0) = cv N F p x + (if y = x then 1 else 0) := by
  have k := fb_ct_upd (fun d => decide (F (64 * p + d) = x)) (decide (y = x)) ha
  unfold cv
  have e : fb_ct (fun d => decide (F' (64 * p + d) = x)) N = fb_ct (fun k => if k = a then decide (y = x) else decide (F (64 * p + k) = x)) N := by
    apply fb_ct_cong
    intro d hd
    by_cases z : d = a
    · try dsimp only
      rw [if_pos z, z, h1]
    · try dsimp only
      rw [if_neg z, h2 d hd z]
  rw [e]
  simpa using k
theorem cv_same {N : Nat} {F F' : Nat → Int32} {p : Nat} {x : Int32} (h2 : ∀ d, d < N → F' (64 * p + d) = F (64 * p + d)) : cv N F' p x = cv N F p x := fb_ct_cong (fun d hd => by rw [h2 d hd])
theorem pl_add {N : Nat} (hN : N = 64) {L F1 : Nat → Int32} {l g a : Nat} (hS : SY L F1) (hl : l < 16) (hg : g < 16) (Ll : ¬ L l = 0) (Lg : L g = 0) (ha : a < 64) (fl : F1 (64 * l + a) = -4) (fg : F1 (64 * g + a) = -4) : SY L (upd (upd F1 (64 * l + a) (nI g)) (64 * g + a) (nI l)) ∧ ∀ p q, p < 16 → q < 16 → cv N (upd (upd F1 (64 * l + a) (nI g)) (64 * g + a) (nI l)) p (nI q) = cv N F1 p (nI q) + (if (p = l ∧ q = g) ∨ (p = g ∧ q = l) then 1 else 0) := by
  have lg : l ≠ g := fun e => Ll (e ▸ Lg)
  have key : ∀ p d, d < 64 → ¬ (p = g ∧ d = a) → ¬ (p = l ∧ d = a) → upd (upd F1 (64 * l + a) (nI g)) (64 * g + a) (nI l) (64 * p + d) = F1 (64 * p + d) := fun p d hd h1 h2 => by
    rw [upd_n (fun e => h1 (ix_inj hd ha e)), upd_n (fun e => h2 (ix_inj hd ha e))]
  have kg : upd (upd F1 (64 * l + a) (nI g)) (64 * g + a) (nI l) (64 * g + a) = nI l := upd_s
  have kl : upd (upd F1 (64 * l + a) (nI g)) (64 * g + a) (nI l) (64 * l + a) = nI g := by rw [upd_n (by omega), upd_s]
  refine ⟨fun p d hp hd => ?_, fun p q hp hq => ?_⟩
  · by_cases h1 : p = g ∧ d = a
    · obtain ⟨rfl, rfl⟩ := h1
      exact Or.inr ⟨l, hl, kg, ⟨fun _ => Ll, fun _ => Lg⟩, kl⟩
    · by_cases h2 : p = l ∧ d = a
      · obtain ⟨rfl, rfl⟩ := h2
        exact Or.inr ⟨g, hg, kl, ⟨fun z => absurd z Ll, fun z => absurd Lg z⟩, kg⟩
      · rw [key p d hd h1 h2]
        rcases hS p d hp hd with z | ⟨q, q1, q2, q3, q4⟩
        · exact Or.inl z
        · refine Or.inr ⟨q, q1, q2, q3, ?_⟩
          rw [key q d hd]
          · exact q4
          · rintro ⟨rfl, rfl⟩; exact m4_ne (by omega) (fg.symm.trans q4)
          · rintro ⟨rfl, rfl⟩; exact m4_ne (by omega) (fl.symm.trans q4)
  · by_cases pg : p = g
    · subst pg
      have k := cv_row (N := N) (x := nI q) (by omega) kg (fun d hd hda => key p d (by omega) (fun z => hda z.2) (fun z => hda z.2))
      rw [fg, if_neg (m4_ne (by omega))] at k
      by_cases e : q = l
      · try dsimp only
        rw [if_pos (by rw [e])] at k; rw [if_pos (Or.inr ⟨rfl, e⟩)]; omega
      · try dsimp only
        rw [if_neg (by rw [nI_eq (by omega) (by omega)]; exact fun z => e z.symm)] at k
        try dsimp only
        rw [if_neg (by rintro (z | z); exact lg z.1.symm; exact e z.2)]; omega
    · by_cases pl : p = l
      · subst pl
        have k := cv_row (N := N) (x := nI q) (by omega) kl (fun d hd hda => key p d (by omega) (fun z => hda z.2) (fun z => hda z.2))
        rw [fl, if_neg (m4_ne (by omega))] at k
        by_cases e : q = g
        · try dsimp only
          rw [if_pos (by rw [e])] at k; rw [if_pos (Or.inl ⟨rfl, e⟩)]; omega
        · try dsimp only
          rw [if_neg (by rw [nI_eq (by omega) (by omega)]; exact fun z => e z.symm)] at k
          try dsimp only
          rw [if_neg (by rintro (z | z); exact e z.2; exact pg z.1)]; omega
      · rw [cv_same (fun d hd => key p d (by omega) (fun z => pg z.1) (fun z => pl z.1)), if_neg (by rintro (z | z); exact pl z.1; exact pg z.1)]
        rfl
theorem ch_0 {L F : Nat → Int32} {g a b : Nat} (hg : g < 16) (Lg : L g = 0) : ChI L F g a b 0 (fun _ => g) F := ⟨rfl, fun j hj => ⟨hg, ⟨fun _ => by rw [show j = 0 by omega], fun _ => Lg⟩⟩, fun j k h1 h2 => absurd h1 (by omega), fun j hj => absurd hj (by omega), fun p d _ _ _ => rfl, fun j d hj => absurd hj (by omega)⟩
theorem ch_end {N : Nat} (hN : N = 64) {L F : Nat → Int32} {l g a b : Nat} (hS : SY L F) (hl : l < 16) (hg : g < 16) (Ll : ¬ L l = 0) (Lg : L g = 0) (ha : a < 64) (hb : b < 64) (hab : a ≠ b) (fl : F (64 * l + a) = -4) (fg : F (64 * g + b) = -4) : SY L (chn 16 F (nI g) a b) ∧ chn 16 F (nI g) a b (64 * l + a) = -4 ∧ chn 16 F (nI g) a b (64 * g + a) = -4 ∧ ∀ p x, p < 16 → cv N (chn 16 F (nI g) a b) p x = cv N F p x := by
  obtain ⟨i, v, hD⟩ := ch_done hS ha hb hab fg 16 0 (fun _ => g) F (ch_0 hg Lg) (by omega)
  rw [show col a b 0 = a from col_0 (by decide), show col a b (0 + 1) = b from col_1 (by decide)] at hD
  generalize chn 16 F (nI g) a b = F1 at hD ⊢
  refine ⟨hD.sy hS ha hb fg, ?_, ?_, fun p x hp => ChD_cv hN ha hb hD hp x⟩
  · obtain ⟨h1, h2, h3, h4, h5, h6⟩ := hD
    rw [h5 l a hl ha]
    · exact fl
    · intro j hj e
      have par : ¬ j % 2 = 0 := fun z => Ll (e ▸ (h2 j hj).2.mpr z)
      obtain ⟨j', rfl⟩ : ∃ j', j = j' + 1 := ⟨j - 1, by omega⟩
      have e1 := h3 j' (by omega)
      rw [col_0 (show j' % 2 = 0 by omega), e] at e1
      have e2 := (hS.sym (h2 j' (by omega)).1 hl ha e1).2
      have := (h2 j' (by omega)).1
      exact m4_ne (by omega) (fl.symm.trans e2)
  · obtain ⟨h1, h2, h3, h4, h5, h6⟩ := hD
    have := h6 0 a (by omega) ha
    rw [h1] at this
    rw [this]
    unfold sw
    try dsimp only
    rw [if_pos rfl]
    exact fg
theorem plan1_ok {N : Nat} (hN : N = 64) {L F : Nat → Int32} {l g : Nat} (hS : SY L F) (hl : l < 16) (hg : g < 16) (Ll : ¬ L l = 0) (Lg : L g = 0) (fl : ∃ d, d < 64 ∧ F (64 * l + d) = -4) (fg : ∃ d, d < 64 ∧ F (64 * g + d) = -4) : SY L (plan1 l g F) ∧ ∀ p q, p < 16 → q < 16 → cv N (plan1 l g F) p (nI q) = cv N F p (nI q) + (if (p = l ∧ q = g) ∨ (p = g ∧ q = l) then 1 else 0) := by
  obtain ⟨a, ea, a1, a2, a3⟩ := lf_ok fl
  obtain ⟨b, eb, b1, b2, b3⟩ := lf_ok fg
  unfold plan1
  rw [ea, eb]
  by_cases e : a = b
  · try dsimp only
    rw [if_pos e]
    subst e
    exact pl_add hN hS hl hg Ll Lg a1 a2 b2
  · try dsimp only
    rw [if_neg e]
    obtain ⟨c1, c2, c3, c4⟩ := ch_end hN hS hl hg Ll Lg a1 b1 e a2 b2
    generalize chn 16 F (nI g) a b = F1 at c1 c2 c3 c4 ⊢
    obtain ⟨r1, r2⟩ := pl_add hN c1 hl hg Ll Lg a1 c2 c3
    exact ⟨r1, fun p q hp hq => by rw [r2 p q hp hq, c4 p _ hp]⟩
/-- a row of not too many has room -/
theorem room_of {N : Nat} (hN : N = 64) {L F : Nat → Int32} {p g : Nat} (hS : SY L F) (hp : p < 16) (hg : g < 16) (h4 : ∀ y, y < 16 → cv N F p (nI y) ≤ 4) (h3 : cv N F p (nI g) ≤ 3) : ∃ d, d < 64 ∧ F (64 * p + d) = -4 := by
  refine Classical.byContradiction (fun z => ?_)
  have all : ∀ d, d < 64 → ∃ y, y < 16 ∧ F (64 * p + d) = nI y := fun d hd => by
    rcases hS p d hp hd with w | ⟨q, q1, q2, -⟩
    · exact absurd ⟨d, hd, w⟩ z
    · exact ⟨q, q1, q2⟩
  have s1 : ∀ m, m ≤ 64 → m ≤ fb_sm (fun y => fb_ct (fun d => decide (F (64 * p + d) = nI y)) m) 16 := by
    intro m
    induction m with
    | zero => intro _; exact Nat.zero_le _
    | succ m ih =>
      intro hm
      obtain ⟨y, y1, y2⟩ := all m (by omega)
      have i := ih (by omega)
      have e : fb_sm (fun y => fb_ct (fun d => decide (F (64 * p + d) = nI y)) (m + 1)) 16 = fb_sm (fun y => fb_ct (fun d => decide (F (64 * p + d) = nI y)) m) 16 + fb_sm (fun y => if decide (F (64 * p + m) = nI y) then 1 else 0) 16 := by
        rw [← fb_sm_add]
        exact fb_sm_cong (fun k hk => fb_ct_succ _ m)
      have : 1 ≤ fb_sm (fun y => if decide (F (64 * p + m) = nI y) then 1 else 0) 16 := by
        have q := fb_sm_part (fun y => if decide (F (64 * p + m) = nI y) then 1 else 0) y1
        have w : (if decide (F (64 * p + m) = nI y) = true then 1 else 0) = 1 := if_pos (decide_eq_true y2)
        omega
      omega
  have s2 := s1 64 (Nat.le_refl _)
  have s3 : fb_sm (fun y => fb_ct (fun d => decide (F (64 * p + d) = nI y)) 64) 16 ≤ fb_sm (fun k => if k = g then 3 else 4) 16 := by
    refine fb_sm_le (fun k hk => ?_)
    show cv 64 F p (nI k) ≤ if k = g then 3 else 4
    rw [← hN]
    by_cases e : k = g
    · try dsimp only
      rw [if_pos e, e]; exact h3
    · try dsimp only
      rw [if_neg e]; exact h4 k hk
  have s4 := fb_sm_upd (fun _ => 4) 3 hg
  have s5 := fb_sm_const 4 16
  omega
