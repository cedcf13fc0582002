/-! matchings: H the lady of each gentleman, or -4; E who could dance with whom -/
def cnt (H : Nat → Int32) (x : Nat) : Nat := fb_ct (fun g => decide (H g = nI x)) 16
def siz (H : Nat → Int32) : Nat := fb_ct (n4 H) 16
theorem cnt_upd {H : Nat → Int32} {g x : Nat} {v : Int32} (hg : g < 16) : cnt (upd H g v) x + (if H g = nI x then 1 else 0) = cnt H x + (if v = nI x then 1 else 0) := by
  have h := fb_ct_upd (fun g => decide (H g = nI x)) (decide (v = nI x)) hg
  have e : (fun k => decide (upd H g v k = nI x)) = (fun k => if k = g then decide (v = nI x) else decide (H k = nI x)) := by
    funext k
    unfold upd
    by_cases h : k = g
    · try dsimp only
      rw [if_pos h, if_pos h]
    · try dsimp only
      rw [if_neg h, if_neg h]
  unfold cnt
  rw [e]
  simpa using h
theorem siz_upd {H : Nat → Int32} {g : Nat} {v : Int32} (hg : g < 16) : siz (upd H g v) + (if H g = -4 then 0 else 1) = siz H + (if v = -4 then 0 else 1) := by
  have h := fb_ct_upd (n4 H) (decide (¬ v = -4)) hg
  have e : n4 (upd H g v) = (fun k => if k = g then decide (¬ v = -4) else n4 H k) := by
    funext k
    unfold n4 upd
    by_cases h : k = g
    · try dsimp only
      rw [if_pos h, if_pos h]
    · try dsimp only
      rw [if_neg h, if_neg h]
  unfold siz
  rw [e]
  have a : (if n4 H g = true then 1 else 0) = (if H g = -4 then 0 else 1) := by unfold n4; by_cases h : H g = -4 <;> simp [h]
  have b : (if decide (¬ v = -4) = true then 1 else 0) = (if v = -4 then 0 else 1) := by by_cases h : v = -4 <;> simp [h]
  rw [← a, ← b]
  exact h
def Mt (E : Nat → Nat → Prop) (a b : Nat) (H : Nat → Int32) : Prop := (∀ g, g < 16 → H g = -4 ∨ ∃ x, a ≤ x ∧ x < b ∧ H g = nI x ∧ E x g) ∧ ∀ x, x < 16 → cnt H x ≤ 1
def Top (E : Nat → Nat → Prop) (a b : Nat) (H : Nat → Int32) : Prop := Mt E a b H ∧ ∀ H2, Mt E a b H2 → siz H2 ≤ siz H
def IsMax (E : Nat → Nat → Prop) (a b k : Nat) : Prop := ∃ H, Top E a b H ∧ siz H = k
theorem IsMax.one {E : Nat → Nat → Prop} {a b k k' : Nat} (h : IsMax E a b k) (h' : IsMax E a b k') : k = k' := by
  obtain ⟨H, ⟨m, t⟩, e⟩ := h
  obtain ⟨H', ⟨m', t'⟩, e'⟩ := h'
  have := t _ m'
  have := t' _ m
  omega
theorem Mt.mono {E : Nat → Nat → Prop} {a b b' : Nat} {H : Nat → Int32} (h : Mt E a b H) (hb : b ≤ b') : Mt E a b' H := by
  refine ⟨fun g hg => ?_, h.2⟩
  rcases h.1 g hg with e | ⟨x, x1, x2, x3, x4⟩
  · exact Or.inl e
  · exact Or.inr ⟨x, x1, by omega, x3, x4⟩
theorem Mt.cong {E E' : Nat → Nat → Prop} {a b : Nat} {H : Nat → Int32} (he : ∀ x g, a ≤ x → x < b → g < 16 → (E x g ↔ E' x g)) (h : Mt E a b H) : Mt E' a b H := by
  refine ⟨fun g hg => ?_, h.2⟩
  rcases h.1 g hg with e | ⟨x, x1, x2, x3, x4⟩
  · exact Or.inl e
  · exact Or.inr ⟨x, x1, x2, x3, (he x g x1 x2 hg).mp x4⟩
theorem Top.cong {E E' : Nat → Nat → Prop} {a b : Nat} {H : Nat → Int32} (he : ∀ x g, a ≤ x → x < b → g < 16 → (E x g ↔ E' x g)) (h : Top E a b H) : Top E' a b H := ⟨h.1.cong he, fun H2 h2 => h.2 H2 (h2.cong (fun x g x1 x2 hg => (he x g x1 x2 hg).symm))⟩
theorem IsMax.cong {E E' : Nat → Nat → Prop} {a b k : Nat} (he : ∀ x g, a ≤ x → x < b → g < 16 → (E x g ↔ E' x g)) (h : IsMax E a b k) : IsMax E' a b k := by
  obtain ⟨H, t, e⟩ := h
  exact ⟨H, t.cong he, e⟩
theorem siz_0 : siz (fun _ => -4) = 0 := fb_ct_zero.mpr (fun k _ => rfl)
theorem cnt_0 (x : Nat) (hx : x < 16) : cnt (fun _ => -4) x = 0 := fb_ct_zero.mpr (fun k _ => decide_eq_false (m4_ne (by omega)))
/-- no ladies, no couples -/
theorem top_0 {E : Nat → Nat → Prop} {a : Nat} {H : Nat → Int32} (h : ∀ g, g < 16 → H g = -4) : Top E a a H := by
  have c0 : ∀ x, x < 16 → cnt H x = 0 := fun x hx => fb_ct_zero.mpr (fun k hk => decide_eq_false (by rw [h k hk]; exact m4_ne (by omega)))
  refine ⟨⟨fun g hg => Or.inl (h g hg), fun x hx => by rw [c0 x hx]; omega⟩, fun H2 h2 => ?_⟩
  have : siz H2 = 0 := fb_ct_zero.mpr (fun k hk => by
    rcases h2.1 k hk with e | ⟨x, x1, x2, -⟩
    · unfold n4; exact decide_eq_false (fun z => z e)
    · omega)
  omega
/-- one lady more: one couple more is the most -/
theorem top_succ {E : Nat → Nat → Prop} {a l : Nat} {H H' : Nat → Int32} (hl : l < 16) (h : Top E a l H) (hm : Mt E a (l + 1) H') (hs : siz H' = siz H + 1) : Top E a (l + 1) H' := by
  refine ⟨hm, fun H2 h2 => ?_⟩
  obtain ⟨H3, e1, e2⟩ : ∃ H3 : Nat → Int32, (∀ g, H2 g = nI l → H3 g = -4) ∧ ∀ g, ¬ H2 g = nI l → H3 g = H2 g := ⟨fun g => if H2 g = nI l then -4 else H2 g, fun g z => if_pos z, fun g z => if_neg z⟩
  have k := h.2 H3 ⟨fun g hg => ?_, fun x hx => ?_⟩
  · have e : siz H2 = siz H3 + cnt H2 l := by
      unfold siz cnt
      rw [← fb_ct_or]
      · apply fb_ct_cong
        intro k hk
        unfold n4
        by_cases z : H2 k = nI l
        · rw [e1 k z, z]; simp [m4_ne' (show l < 2147483648 by omega)]
        · rw [e2 k z]; simp [z]
      · intro k hk
        unfold n4
        by_cases z : H2 k = nI l
        · rw [e1 k z]; simp
        · simp [z]
    have := h2.2 l hl
    omega
  · by_cases z : H2 g = nI l
    · exact Or.inl (e1 g z)
    · rcases h2.1 g hg with e | ⟨x, x1, x2, x3, x4⟩
      · exact Or.inl (by rw [e2 g z]; exact e)
      · refine Or.inr ⟨x, x1, ?_, (e2 g z).trans x3, x4⟩
        have : x ≠ l := fun q => z (q ▸ x3)
        omega
  · refine Nat.le_trans (fb_ct_sub (fun k hk => ?_)) (h2.2 x hx)
    intro q
    have q := of_decide_eq_true q
    refine decide_eq_true ?_
    by_cases z : H2 k = nI l
    · rw [e1 k z] at q; exact absurd q (m4_ne (by omega))
    · rw [e2 k z] at q; exact q
/-- one lady more who finds none: V what was looked at -/
theorem top_fail {E : Nat → Nat → Prop} {a l : Nat} {H : Nat → Int32} (V : Nat → Prop) (hl : l < 16) (h : Top E a l H) (hv : ∀ g, g < 16 → V g → ∃ x, x < 16 ∧ H g = nI x ∧ ∀ g2, g2 < 16 → E x g2 → V g2) (hv2 : ∀ g2, g2 < 16 → E l g2 → V g2) : Top E a (l + 1) H := by
  refine ⟨h.1.mono (by omega), fun H2 h2 => ?_⟩
  obtain ⟨H3, e1, e2⟩ : ∃ H3 : Nat → Int32, (∀ g, V g → H3 g = H g) ∧ ∀ g, ¬ V g → H3 g = H2 g := ⟨fun g => @ite _ (V g) (Classical.propDecidable _) (H g) (H2 g), fun g z => if_pos z, fun g z => if_neg z⟩
  have hx : ∀ g, g < 16 → ¬ V g → ∀ x, H2 g = nI x → x < 16 → E x g → x ≠ l ∧ ∀ g1, g1 < 16 → V g1 → H g1 ≠ nI x := by
    intro g hg nv x ex x16 eE
    refine ⟨fun q => nv (hv2 g hg (q ▸ eE)), fun g1 hg1 v1 q => ?_⟩
    obtain ⟨y, y1, y2, y3⟩ := hv g1 hg1 v1
    have : y = x := (nI_eq (by omega) (by omega)).mp (y2.symm.trans q)
    subst this
    exact nv (y3 g hg eE)
  have key : ∀ g, g < 16 → H3 g = -4 ∨ ∃ x, a ≤ x ∧ x < l ∧ H3 g = nI x ∧ E x g := by
    intro g hg
    by_cases v : V g
    · rw [e1 g v]; exact h.1.1 g hg
    · rw [e2 g v]
      rcases h2.1 g hg with e | ⟨x, x1, x2, x3, x4⟩
      · exact Or.inl e
      · have := (hx g hg v x x3 (by omega) x4).1
        exact Or.inr ⟨x, x1, by omega, x3, x4⟩
  have k := h.2 H3 ⟨key, fun x hx2 => ?_⟩
  · refine Nat.le_trans (fb_ct_sub (fun g hg => ?_)) k
    rw [n4_iff, n4_iff]
    intro q
    by_cases v : V g
    · rw [e1 g v]
      obtain ⟨y, y1, y2, -⟩ := hv g hg v
      rw [y2]; exact m4_ne' (by omega)
    · rw [e2 g v]; exact q
  · by_cases z : ∃ g1, g1 < 16 ∧ V g1 ∧ H g1 = nI x
    · obtain ⟨g1, g11, g12, g13⟩ := z
      refine Nat.le_trans (fb_ct_sub (fun g hg => ?_)) (h.1.2 x hx2)
      intro q
      have q := of_decide_eq_true q
      refine decide_eq_true ?_
      by_cases v : V g
      · rw [e1 g v] at q; exact q
      · rw [e2 g v] at q
        rcases h2.1 g hg with e | ⟨y, y1, y2, y3, y4⟩
        · exact absurd (e.symm.trans q) (m4_ne (by omega))
        · have : y = x := (nI_eq (by omega) (by omega)).mp (y3.symm.trans q)
          subst this
          exact absurd g13 ((hx g hg v y q (by omega) y4).2 g1 g11 g12)
    · refine Nat.le_trans (fb_ct_sub (fun g hg => ?_)) (h2.2 x hx2)
      intro q
      have q := of_decide_eq_true q
      refine decide_eq_true ?_
      by_cases v : V g
      · rw [e1 g v] at q; exact absurd ⟨g, hg, v, q⟩ z
      · rw [e2 g v] at q; exact q
/-- the most couples of the ladies from a on -/
noncomputable def nu (E : Nat → Nat → Prop) (a : Nat) : Nat := Classical.epsilon (fun k => IsMax E a 16 k)
theorem nu_eq {E : Nat → Nat → Prop} {a k : Nat} (h : IsMax E a 16 k) : nu E a = k := (Classical.epsilon_spec (p := fun k => IsMax E a 16 k) ⟨k, h⟩).one h
