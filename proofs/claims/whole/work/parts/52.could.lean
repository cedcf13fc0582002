/-! could -/
theorem ct_one {p : Nat → Bool} {N : Nat} (h : ∀ i j, i < N → j < N → p i = true → p j = true → i = j) : fb_ct p N ≤ 1 := by
  refine Nat.le_of_not_lt (fun z => ?_)
  obtain ⟨i, i1, i2, i3⟩ := fb_ct_kth (p := p) (k := 0) (n := N) (by omega)
  obtain ⟨j, j1, j2, j3⟩ := fb_ct_kth (p := p) (k := 1) (n := N) (by omega)
  have := h i j i1 j1 i2 j2
  subst this
  omega
def Hm (L x w : Nat → Int32) (g : Nat) : Int32 := if L g = 0 ∧ x g = 0 then w g else -4
theorem WI.mt {L m x w : Nat → Int32} {a b : Nat} (h : WI L m x a b 16 w) : Mt (Em m x) a b (Hm L x w) := by
  have one : ∀ g y, g < 16 → y < 16 → Hm L x w g = nI y → w y = nI g := by
    intro g y hg hy e
    unfold Hm at e
    by_cases c : L g = 0 ∧ x g = 0
    · try dsimp only
      rw [if_pos c] at e
      rcases h.1 g hg c.1 c.2 (by omega) with z | ⟨v, v1, v2, v3, v4, v5, v6, v7⟩
      · exact absurd (z.symm.trans e) (m4_ne (by omega))
      · have : v = y := (nI_eq (by omega) (by omega)).mp (v5.symm.trans e)
        rw [← this]; exact v7
    · try dsimp only
      rw [if_neg c] at e
      exact absurd e (m4_ne (by omega))
  refine ⟨fun g hg => ?_, fun y hy => ct_one (fun i j hi hj a b => ?_)⟩
  · unfold Hm
    by_cases c : L g = 0 ∧ x g = 0
    · try dsimp only
      rw [if_pos c]
      rcases h.1 g hg c.1 c.2 (by omega) with z | ⟨v, v1, v2, v3, v4, v5, v6, v7⟩
      · exact Or.inl z
      · exact Or.inr ⟨v, v2, v3, v5, v6⟩
    · try dsimp only
      rw [if_neg c]; exact Or.inl rfl
  · have a := one i y hi hy (of_decide_eq_true a)
    have b := one j y hj hy (of_decide_eq_true b)
    exact (nI_eq (by omega) (by omega)).mp (a.symm.trans b)
theorem top_none {E : Nat → Nat → Prop} {a : Nat} {H : Nat → Int32} : ∀ k l, l + k = 16 → (∀ y g, l ≤ y → y < 16 → g < 16 → ¬ E y g) → Top E a l H → Top E a 16 H := by
  intro k
  induction k with
  | zero => intro l hl hE h; have e : l = 16 := by omega
            subst e; exact h
  | succ k ih =>
    intro l hl hE h
    exact ih (l + 1) (by omega) (fun y g h1 h2 h3 => hE y g (by omega) h2 h3) (top_fail (fun _ => False) (by omega) h (fun _ _ v => v.elim) (fun g hg e => hE l g (Nat.le_refl l) (by omega) hg e))
theorem y_most {s : St} {n a : Nat} {m x w0 : Nat → Int32} (h16 : n ≤ 16) (ha : a ≤ n) (n2 : gF s 3000 = nI n) (hE : ∀ y g, y < 16 → g < 16 → ¬ m (16 * y + g) = 0 → (g < n ∧ s.2 31 g = 0) ∧ (y < n ∧ ¬ s.2 31 y = 0)) (xl : ∀ y, y < 16 → ¬ s.2 31 y = 0 → a ≤ y → x y = 0) (hw0 : ∀ p, p < 16 → x p = 0 → w0 p = -4) {Q : Int32 → St → Prop}
    (hq : ∀ k w' q' f', IsMax (Em m x) a 16 k → k ≤ 16 → (∀ p, p < 16 → ¬ x p = 0 → w' p = w0 p) → Q (nI k) (m5 s m w' x q' f')) : ∀ q f, wX8_mostFrom (nI a) (m5 s m w0 x q f) Q := by
  have lp : ∀ r l w q f, l + r = n → a ≤ l → WI (s.2 31) m x a l 16 w → Top (Em m x) a l (Hm (s.2 31) x w) → (∀ p, p < 16 → ¬ x p = 0 → w p = w0 p) → wX8_mostFrom_4 (nI (siz (Hm (s.2 31) x w))) (nI l) (m5 s m w x q f) Q := by
    intro r l w q f hr hl hw ht hk P hP
    induction r generalizing l w q f with
    | zero =>
      refine hP _ _ _ ?_
      try dsimp only
      unfold wX8_mostFrom_4_b
      have en : gF (m5 s m w x q f) 3000 = nI n := n2
      rw [en, if_pos (by rw [nI_leI (by omega) (by omega)]; omega)]
      exact hq _ w q f ⟨_, top_none (16 - l) l (by omega) (fun y g h1 h2 h3 e => by have := (hE y g h2 h3 e.1).2.1; omega) ht, rfl⟩ (siz_le _) hk
    | succ r ih =>
      have hl16 : l < 16 := by omega
      refine hP _ _ _ ?_
      try dsimp only
      unfold wX8_mostFrom_4_b
      have en : gF (m5 s m w x q f) 3000 = nI n := n2
      have e31 : gA (m5 s m w x q f) 31 (nI l) = s.2 31 l := by rw [gn (by omega)]; rfl
      rw [en, if_neg (by rw [nI_leI (by omega) (by omega)]; omega), e31, nI_1 l, Int32.add_zero]
      refine ⟨vin hl16 (by omega), ?_⟩
      have mono : WI (s.2 31) m x a (l + 1) 16 w := by
        refine ⟨fun g h1 h2 h3 h4 => ?_, hw.2⟩
        rcases hw.1 g h1 h2 h3 h4 with c | ⟨y, y1, y2, y3, y4⟩
        · exact Or.inl c
        · exact Or.inr ⟨y, y1, y2, by omega, y4⟩
      by_cases hL : s.2 31 l = 0
      · try dsimp only
        rw [if_pos hL]
        exact ih (l + 1) w q f (by omega) (by omega) mono (top_fail (fun _ => False) hl16 ht (fun _ _ v => v.elim) (fun g hg e => (hE l g hl16 hg e.1).2.2 hL)) hk
      · try dsimp only
        rw [if_neg hL]
        refine y_gets h16 n2 (fun y g h1 h2 h3 => (hE y g h1 h2 h3).1) hl16 hL hl xl hw (fun w' q' f' g0 a1 a2 b1 b2 b3 b4 b5 => ?_) (fun q' f' V v1 v2 => ?_) q f
        · have sz : siz (Hm (s.2 31) x w') = siz (Hm (s.2 31) x w) + 1 := by
            have k := fb_ct_upd (n4 (Hm (s.2 31) x w)) true b1
            have e0 : n4 (Hm (s.2 31) x w) g0 = false := by
              unfold n4 Hm
              try dsimp only
              rw [if_pos ⟨b2, b3⟩]
              exact decide_eq_false (fun z => z b4)
            rw [e0] at k
            have e1 : fb_ct (n4 (Hm (s.2 31) x w')) 16 = fb_ct (fun k => if k = g0 then true else n4 (Hm (s.2 31) x w) k) 16 := by
              apply fb_ct_cong
              intro g' hg'
              unfold n4 Hm
              by_cases c : s.2 31 g' = 0 ∧ x g' = 0
              · have := b5 g' hg' c.1 c.2
                simp only [if_pos c]
                by_cases e : g' = g0
                · try dsimp only
                  rw [if_pos e]; exact decide_eq_true (fun z => (this.mp z).2 e)
                · try dsimp only
                  rw [if_neg e]
                  by_cases z : w g' = -4
                  · have z' := this.mpr ⟨z, e⟩
                    simp [z, z']
                  · have z' : ¬ w' g' = -4 := fun q => z (this.mp q).1
                    simp [z, z']
              · simp only [if_neg c]
                try dsimp only
                rw [if_neg (fun e => c (by rw [e]; exact ⟨b2, b3⟩))]
            unfold siz
            rw [e1]
            simpa using k
          try dsimp only
          rw [if_neg (by decide), nI_1, ← sz]
          exact ih (l + 1) w' q' f' (by omega) (by omega) a1 (top_succ hl16 ht a1.mt sz) (fun p hp xp => (a2 p hp xp).trans (hk p hp xp))
        · try dsimp only
          rw [if_pos rfl]
          refine ih (l + 1) w q' f' (by omega) (by omega) mono (top_fail V hl16 ht (fun g hg v => ?_) v2) hk
          obtain ⟨u1, u2, y, y1, y2, y3⟩ := v1 g hg v
          exact ⟨y, y1, by unfold Hm; rw [if_pos ⟨u1, u2⟩]; exact y2, y3⟩
  intro q f
  have h0 : ∀ g, g < 16 → Hm (s.2 31) x w0 g = -4 := by
    intro g hg
    unfold Hm
    by_cases c : s.2 31 g = 0 ∧ x g = 0
    · try dsimp only
      rw [if_pos c]; exact hw0 g hg c.2
    · try dsimp only
      rw [if_neg c]
  have z0 : siz (Hm (s.2 31) x w0) = 0 := fb_ct_zero.mpr (fun k hk => by unfold n4; exact decide_eq_false (fun w => w (h0 k hk)))
  have w := lp (n - a) a w0 q f (by omega) (Nat.le_refl a) ⟨fun g h1 h2 h3 h4 => Or.inl (hw0 g h1 h3), fun y h1 h2 h3 => Or.inl (hw0 y h1 (xl y h1 h2 h3))⟩ (top_0 h0) (fun _ _ _ => rfl)
  rw [z0] at w
  exact w
theorem IsMax.le {E : Nat → Nat → Prop} {a b k : Nat} (h : IsMax E a b k) : k ≤ 16 := by
  obtain ⟨H, -, e⟩ := h
  have := siz_le H
  omega
theorem op_could (a : Int32) : Op (fun Q s => wX7_could a s Q) (fun Q s => wX8_could a s Q) := by
  intro s hI K hK
  obtain ⟨n, t, hN⟩ := id hI
  obtain ⟨h16, n1, n2, p1, p2, p3, p4, p5, p6⟩ := id hN.1
  obtain ⟨mk, m1, m2, m3, m4, m5'⟩ := id hN.2.1
  obtain ⟨mf, f1, f2, f3', f4, f5⟩ := id hN.2.2.1
  show wX7_could a s _
  try dsimp only
  unfold wX7_could
  try dsimp only
  rw [e_dance]
  by_cases ha : vp_in a 24
  · try dsimp only
    rw [bi_t ha, if_neg (by decide)]
    obtain ⟨d, hd, rfl⟩ := vp_in_of ha (by decide)
    refine x_find hN m1 f1 hd (fun f al hal => ?_)
    try dsimp only
    unfold wX3_mostOfAll
    refine x_behind (al := al) (F := 65535) (a := 0) (s0 := stC s 14 f) (fun l hl => (hal l hl).1) (by decide) (by decide) (fun H u k hk k16 => ?_)
    have sm : sim s (stF (stC (stC s 14 f) 16 H) 1303 u) := (((sim.rf s).tr (sim.C (by decide))).tr (sim.C (by decide))).tr (sim.F (by decide))
    have hN2 := sm.inv hN
    generalize hs2 : stF (stC (stC s 14 f) 16 H) 1303 u = s2 at sm hN2 ⊢
    try dsimp only
    unfold wX8_could
    try dsimp only
    rw [e_in (m := 24) rfl (by decide) (by decide), bi_t ha, if_neg (by decide)]
    have e37 : s2.2 37 = s.2 37 := by rw [← hs2]; rfl
    have c34 : s2.2 34 = s.2 34 := by rw [← hs2]; rfl
    have c35 : s2.2 35 = s.2 35 := by rw [← hs2]; rfl
    have n22 : gF s2 3000 = nI n := by rw [← hs2]; exact n2
    have hpa : ∀ l g, pa s2 n mk mf d l g ↔ pa s n mk mf d l g := by rw [← hs2]; exact fun l g => Iff.rfl
    have y := y_lay (s := s2) (q := s2.2 44) (f := s2.2 45) (mk := mk) (mf := mf) hN2.1 (by rw [c34]; exact m3) (by rw [c35]; exact f3') hd (Q := fun s4 => wX8_mostFrom (0 : Int32) s4 (fun r5 s6 => K (nI k) r5 s6)) (fun m w x hm hw hx => ?_) (s2.2 41) (s2.2 42) (s2.2 43)
    · rw [m5_self] at y
      exact y
    · refine y_most (s := s2) (n := n) (a := 0) h16 (by omega) n22 (fun y g h1 h2 h3 => ?_) (fun y h1 _ _ => hx y h1) (fun p hp _ => hw p hp) (fun k' w' q' f' hk' _ _ => ?_) _ _
      · have := (hm y g h1 h2 (by omega)).2.mp h3
        exact ⟨this.1, this.2.1⟩
      · have e : k' = k := hk'.one (hk.cong (fun x' g _ h1 h2 => by
          unfold Ed Em
          rw [(hal x' h1).2.2 g h2, (hm x' g h1 h2 (by omega)).2, hpa]
          have : (65535 : Nat).testBit g = true := by
            have : g = 0 ∨ g = 1 ∨ g = 2 ∨ g = 3 ∨ g = 4 ∨ g = 5 ∨ g = 6 ∨ g = 7 ∨ g = 8 ∨ g = 9 ∨ g = 10 ∨ g = 11 ∨ g = 12 ∨ g = 13 ∨ g = 14 ∨ g = 15 := by omega
            rcases this with rfl | rfl | rfl | rfl | rfl | rfl | rfl | rfl | rfl | rfl | rfl | rfl | rfl | rfl | rfl | rfl <;> decide
          exact ⟨fun z => ⟨z.1.1, hx g h2⟩, fun z => ⟨⟨z.1, Or.inl h1⟩, this⟩⟩))
        rw [e]
        exact hK _ _ ⟨n, t, (m5_sim _ _ _ _ _ _).inv hN2⟩
  · try dsimp only
    rw [bi_f ha, if_pos rfl]
    try dsimp only
    unfold wX8_could
    try dsimp only
    rw [e_in (m := 24) rfl (by decide) (by decide), bi_f ha, if_pos rfl]
    exact hK _ _ hI
