/-! laid: all wishes, on both sides -/
theorem fil23 {v : Int32} {Q : St → Prop} : ∀ m i s, i + m = 1024 → Q (stC s 23 (fil (s.2 23) i 1024 v)) → wJ7_fill_53178_23_5 v (nI i) 1024 s Q := by
  intro m i s hm hq P hP
  induction m generalizing i s with
  | zero =>
    have e : i = 1024 := by omega
    subst e
    rw [fil_0, st_self] at hq
    refine hP _ _ _ _ ?_
    unfold wJ7_fill_53178_23_5_b
    try dsimp only
    rw [if_pos (show (1024 : Int32) ≤ nI 1024 from nI_le (a := 1024) (b := 1024) (by omega) (by omega))]
    exact hq
  | succ m ih =>
    refine hP _ _ _ _ ?_
    unfold wJ7_fill_53178_23_5_b
    try dsimp only
    rw [if_neg (show ¬ (1024 : Int32) ≤ nI i from nI_ge (a := i) (b := 1024) (by omega) (by omega)), nI_1]
    refine ⟨vin (by omega) (by omega), ih (i + 1) _ (by omega) ?_⟩
    try dsimp only
    rw [g_AA, if_pos rfl, cl (by omega), fil_s (by omega), st_AC]
    exact hq
theorem fil49 {Q : St → Prop} : ∀ m i s, i + m = 1024 → wX8_layAll_25 0 (stC s 49 (fil (s.2 49) i 1024 (-4))) Q → wX8_layAll_2 (nI i) s Q := by
  intro m i s hm hq P hP
  induction m generalizing i s with
  | zero =>
    have e : i = 1024 := by omega
    subst e
    rw [fil_0, st_self] at hq
    refine hP _ _ ?_
    try dsimp only
    unfold wX8_layAll_2_b
    try dsimp only
    rw [if_pos (show (1024 : Int32) ≤ nI 1024 from nI_le (a := 1024) (b := 1024) (by omega) (by omega))]
    exact hq
  | succ m ih =>
    refine hP _ _ ?_
    try dsimp only
    unfold wX8_layAll_2_b
    try dsimp only
    rw [if_neg (show ¬ (1024 : Int32) ≤ nI i from nI_ge (a := i) (b := 1024) (by omega) (by omega)), nI_1]
    refine ⟨vin (by omega) (by omega), ih (i + 1) _ (by omega) ?_⟩
    try dsimp only
    rw [g_AA, if_pos rfl, cl (by omega), fil_s (by omega), st_AC]
    exact hq
/-- what is laid before the wish k of l and g -/
def TI (N : Nat) (L : Nat → Int32) (l g k : Nat) (F : Nat → Int32) : Prop := SY L F ∧ (∀ x y, x < 16 → y < 16 → cv N F x (nI y) ≤ 4) ∧ (∀ x y, x < 16 → y < 16 → ¬ L x = 0 → L y = 0 → (l < x ∨ (x = l ∧ g < y)) → cv N F x (nI y) = 0 ∧ cv N F y (nI x) = 0) ∧ (l < 16 → g < 16 → ¬ L l = 0 → L g = 0 → cv N F l (nI g) ≤ k ∧ cv N F g (nI l) ≤ k)
theorem TI.free {N : Nat} (hN : N = 64) {L : Nat → Int32} {l g k : Nat} {F : Nat → Int32} (h : TI N L l g k F) (hl : l < 16) (hg : g < 16) (Ll : ¬ L l = 0) (Lg : L g = 0) (hk : k < 4) : (∃ d, d < 64 ∧ F (64 * l + d) = -4) ∧ ∃ d, d < 64 ∧ F (64 * g + d) = -4 := by
  obtain ⟨h1, h2, h3, h4⟩ := h
  obtain ⟨a, b⟩ := h4 hl hg Ll Lg
  exact ⟨room_of hN h1 hl hg (fun y hy => h2 l y hl hy) (by omega), room_of hN h1 hg hl (fun y hy => h2 g y hg hy) (by omega)⟩
theorem TI.step {N : Nat} (hN : N = 64) {L : Nat → Int32} {l g k : Nat} {F : Nat → Int32} (h : TI N L l g k F) (hl : l < 16) (hg : g < 16) (Ll : ¬ L l = 0) (Lg : L g = 0) (hk : k < 4) : TI N L l g (k + 1) (plan1 l g F) := by
  obtain ⟨fl, fg⟩ := h.free hN hl hg Ll Lg hk
  obtain ⟨h1, h2, h3, h4⟩ := h
  obtain ⟨p1, p2⟩ := plan1_ok hN h1 hl hg Ll Lg fl fg
  have lg : l ≠ g := fun e => Ll (e ▸ Lg)
  obtain ⟨a, b⟩ := h4 hl hg Ll Lg
  refine ⟨p1, fun x y hx hy => ?_, fun x y hx hy Lx Ly hxy => ?_, fun _ _ _ _ => ?_⟩
  · rw [p2 x y hx hy]
    by_cases e : (x = l ∧ y = g) ∨ (x = g ∧ y = l)
    · try dsimp only
      rw [if_pos e]
      rcases e with ⟨rfl, rfl⟩ | ⟨rfl, rfl⟩ <;> omega
    · try dsimp only
      rw [if_neg e]; exact h2 x y hx hy
  · obtain ⟨c1, c2⟩ := h3 x y hx hy Lx Ly hxy
    have n1 : ¬ ((x = l ∧ y = g) ∨ (x = g ∧ y = l)) := by
      rintro (⟨e1, e2⟩ | ⟨e1, e2⟩)
      · omega
      · exact Lx (e1 ▸ Lg)
    have n2 : ¬ ((y = l ∧ x = g) ∨ (y = g ∧ x = l)) := fun z => n1 (z.elim (fun w => Or.inr ⟨w.2, w.1⟩) (fun w => Or.inl ⟨w.2, w.1⟩))
    rw [p2 x y hx hy, p2 y x hy hx, if_neg n1, if_neg n2]
    exact ⟨c1, c2⟩
  · rw [p2 l g hl hg, p2 g l hg hl, if_pos (Or.inl ⟨rfl, rfl⟩), if_pos (Or.inr ⟨rfl, rfl⟩)]
    omega
theorem TI.nextg {N : Nat} {L : Nat → Int32} {l g k : Nat} {F : Nat → Int32} (h : TI N L l g k F) : TI N L l (g + 1) 0 F := by
  obtain ⟨h1, h2, h3, h4⟩ := h
  refine ⟨h1, h2, fun x y hx hy Lx Ly hxy => h3 x y hx hy Lx Ly (by omega), fun hl hg Ll Lg => ?_⟩
  obtain ⟨a, b⟩ := h3 l (g + 1) hl hg Ll Lg (by omega)
  omega
theorem TI.nextl {N : Nat} {L : Nat → Int32} {l g k : Nat} {F : Nat → Int32} (h : TI N L l g k F) : TI N L (l + 1) 0 0 F := by
  obtain ⟨h1, h2, h3, h4⟩ := h
  refine ⟨h1, h2, fun x y hx hy Lx Ly hxy => h3 x y hx hy Lx Ly (by omega), fun hl hg Ll Lg => ?_⟩
  obtain ⟨a, b⟩ := h3 (l + 1) 0 hl hg Ll Lg (by omega)
  omega
theorem TI.init {N : Nat} {L : Nat → Int32} : TI N L 0 0 0 (fun _ => -4) := by
  have c0 : ∀ x y, y < 16 → cv N (fun _ => -4) x (nI y) = 0 := fun x y hy => fb_ct_zero.mpr (fun k _ => decide_eq_false (m4_ne (by omega)))
  refine ⟨fun p d _ _ => Or.inl rfl, fun x y hx hy => by rw [c0 x y hy]; omega, fun x y hx hy _ _ _ => ⟨c0 x y hy, c0 y x hx⟩, fun hl hg _ _ => ⟨by rw [c0 0 0 hg]; exact Nat.le_refl 0, by rw [c0 0 0 hl]; exact Nat.le_refl 0⟩⟩
theorem rep_s {α : Type} (h : α → α) (k : Nat) (x : α) : rep h (k + 1) x = h (rep h k x) := rfl
theorem planG_s (w : Nat → Int32) (l g : Nat) (f : Nat → Int32) : planG w l (g + 1) f = rep (plan1 l g) (wN w (16 * l + g)) (planG w l g f) := rfl
theorem planL_s {M : Nat} (hM : M = 16) (w : Nat → Int32) (l : Nat) (f : Nat → Int32) : planL w (l + 1) f = planG w l M (planL w l f) := by subst hM; rfl
theorem planG_ext {w f : Nat → Int32} {l n : Nat} : ∀ k, (∀ g, n ≤ g → g < n + k → wN w (16 * l + g) = 0) → planG w l (n + k) f = planG w l n f := by
  intro k
  induction k with
  | zero => intro _; rfl
  | succ k ih =>
    intro h
    rw [← Nat.add_assoc, planG_s, h (n + k) (by omega) (by omega)]
    exact ih (fun g g1 g2 => h g g1 (by omega))
theorem planL_ext {M : Nat} (hM : M = 16) {w f : Nat → Int32} {n : Nat} : ∀ k, (∀ l g, n ≤ l → g < 16 → wN w (16 * l + g) = 0) → planL w (n + k) f = planL w n f := by
  intro k
  induction k with
  | zero => intro _; rfl
  | succ k ih =>
    intro h
    rw [← Nat.add_assoc, planL_s hM]
    have e := planG_ext (w := w) (f := planL w (n + k) f) (l := n + k) (n := 0) M (fun g _ hg => h (n + k) g (by omega) (by omega))
    rw [Nat.zero_add] at e
    rw [e]
    exact ih h
theorem InvW.sex {n : Nat} {L w : Nat → Int32} (h : InvW n L w) (h16 : n ≤ 16) {l g : Nat} (hg : g < 16) (hw : 0 < wN w (16 * l + g)) : l < n ∧ g < n ∧ ¬ L l = 0 ∧ L g = 0 := by
  obtain ⟨v, v1, v2, v3⟩ := h (16 * l + g)
  have e : wN w (16 * l + g) = v := by unfold wN; rw [v2, cl (by omega)]
  obtain ⟨l', g', e', a, b, c, d⟩ := v3 (by omega)
  have : l' = l ∧ g' = g := by omega
  obtain ⟨rfl, rfl⟩ := this
  exact ⟨a, b, c, d⟩
theorem x_planAll {n N M : Nat} (hN : N = 64) (hM : M = 16) (h16 : n ≤ 16) {s : St} {L w : Nat → Int32} (hw : s.2 22 = w) (hW : InvW n L w) {Q : St → Prop} (hq : ∀ f, PlE f (planL w M (fun _ => -4)) → Q (stF (stC s 23 f) 2102 1)) : wX6_planAll s Q := by
  try dsimp only
  unfold wX6_planAll wJ7_fill_53178_23
  refine fil23 1024 0 s (by omega) ?_
  have lp : ∀ r l f, l + r = 16 → TI N L l 0 0 (planL w l (fun _ => -4)) → PlE f (planL w l (fun _ => -4)) → wX6_planAll_11 (nI l) (stC s 23 f) Q := by
    intro r l f hr hT hf P hP
    induction r generalizing l f with
    | zero =>
      have e : l = M := by omega
      subst e
      refine hP _ _ ?_
      try dsimp only
      unfold wX6_planAll_11_b
      try dsimp only
      rw [if_pos (show (16 : Int32) ≤ nI l from nI_le (a := 16) (b := l) (by omega) (by omega))]
      exact hq f hf
    | succ r ih =>
      refine hP _ _ ?_
      try dsimp only
      unfold wX6_planAll_11_b
      try dsimp only
      rw [if_neg (show ¬ (16 : Int32) ≤ nI l from nI_ge (a := l) (b := 16) (by omega) (by omega))]
      obtain ⟨Fl, hFl⟩ : ∃ Fl, planL w l (fun _ => -4) = Fl := ⟨_, rfl⟩
      rw [hFl] at hT hf
      have lp2 : ∀ r g f, g + r = 16 → TI N L l g 0 (planG w l g Fl) → PlE f (planG w l g Fl) → wX6_planAll_19 P (nI l) (nI g) (stC s 23 f) Q := by
        intro r g f hr hT hf P2 hP2
        induction r generalizing g f with
        | zero =>
          have e : g = M := by omega
          subst e
          refine hP2 _ _ _ ?_
          try dsimp only
          unfold wX6_planAll_19_b
          try dsimp only
          rw [if_pos (show (16 : Int32) ≤ nI g from nI_le (a := 16) (b := g) (by omega) (by omega)), nI_1]
          have e2 := planL_s hM w l (fun _ => -4)
          rw [hFl] at e2
          rw [← e2] at hT hf
          exact ih (l + 1) f (by omega) hT.nextl hf
        | succ r ihg =>
          have hg : g < 16 := by omega
          refine hP2 _ _ _ ?_
          try dsimp only
          unfold wX6_planAll_19_b
          try dsimp only
          rw [if_neg (show ¬ (16 : Int32) ≤ nI g from nI_ge (a := g) (b := 16) (by omega) (by omega))]
          obtain ⟨Fg, hFg⟩ : ∃ Fg, planG w l g Fl = Fg := ⟨_, rfl⟩
          rw [hFg] at hT hf
          obtain ⟨ew, w4⟩ := hW.le (16 * l + g)
          have lp3 : ∀ r k f F, k + r = wN w (16 * l + g) → F = rep (plan1 l g) k Fg → TI N L l g k F → PlE f F → wX6_planAll_27 P P2 (nI l) (nI g) (nI k) (stC s 23 f) Q := by
            intro r k f F hr hF hT hf P3 hP3
            have e22 : gA (stC s 23 f) 22 (nI (16 * l + g)) = nI (wN w (16 * l + g)) := by rw [gn (by omega)]; show s.2 22 (16 * l + g) = _; rw [hw]; exact ew
            induction r generalizing k f F with
            | zero =>
              refine hP3 _ _ _ _ ?_
              try dsimp only
              unfold wX6_planAll_27_b
              have e22 : gA (stC s 23 f) 22 (nI (16 * l + g)) = nI (wN w (16 * l + g)) := by rw [gn (by omega)]; show s.2 22 (16 * l + g) = _; rw [hw]; exact ew
              try dsimp only
              rw [ix16', e22, if_pos (by rw [nI_leI (by omega) (by omega)]; omega), nI_1]
              refine ⟨vin (by omega) (by omega), ?_⟩
              have e2 := planG_s w l g Fl
              rw [hFg, ← show k = wN w (16 * l + g) by omega, ← hF] at e2
              rw [← e2] at hT hf
              exact ihg (g + 1) f (by omega) hT.nextg hf
            | succ r ihk =>
              refine hP3 _ _ _ _ ?_
              try dsimp only
              unfold wX6_planAll_27_b
              have e22 : gA (stC s 23 f) 22 (nI (16 * l + g)) = nI (wN w (16 * l + g)) := by rw [gn (by omega)]; show s.2 22 (16 * l + g) = _; rw [hw]; exact ew
              try dsimp only
              rw [ix16', e22, if_neg (by rw [nI_leI (by omega) (by omega)]; omega), nI_1]
              refine ⟨vin (by omega) (by omega), ?_⟩
              obtain ⟨-, -, Ll, Lg⟩ := hW.sex h16 (l := l) hg (by omega)
              obtain ⟨fl, fg⟩ := hT.free hN (by omega) hg Ll Lg (by omega)
              refine x_plan1 hT.1 (by omega) hg Lg fl fg hf (fun f' hf' => ?_)
              exact ihk (k + 1) f' (plan1 l g F) (by omega) (by rw [rep_s, hF]) (hT.step hN (by omega) hg Ll Lg (by omega)) hf' (by rw [gn (by omega)]; show s.2 22 (16 * l + g) = _; rw [hw]; exact ew)
          exact lp3 (wN w (16 * l + g)) 0 f Fg (by omega) rfl hT hf
      exact lp2 16 0 f (by omega) hT hf
  exact lp 16 0 _ (by omega) TI.init (fun p d hp hd => by unfold fil; rw [if_pos (by omega)]; rfl)
theorem y_layAll {n N : Nat} (hN : N = 64) (h16 : n ≤ 16) {s : St} (n2 : gF s 3000 = nI n) {L w : Nat → Int32} (hw : s.2 36 = w) (hW : InvW n L w) {Q : St → Prop} (hq : ∀ f, PlE f (planL w n (fun _ => -4)) → Q (stC s 49 f)) : wX8_layAll s Q := by
  obtain ⟨M, hM⟩ : ∃ M : Nat, M = 16 := ⟨16, rfl⟩
  try dsimp only
  unfold wX8_layAll
  refine fil49 1024 0 s (by omega) ?_
  have en : ∀ f, gF (stC s 49 f) 3000 = nI n := fun _ => n2
  have lp : ∀ r l f, l + r = n → TI N L l 0 0 (planL w l (fun _ => -4)) → PlE f (planL w l (fun _ => -4)) → wX8_layAll_25 (nI l) (stC s 49 f) Q := by
    intro r l f hr hT hf P hP
    induction r generalizing l f with
    | zero =>
      have e : l = n := by omega
      subst e
      refine hP _ _ ?_
      try dsimp only
      unfold wX8_layAll_25_b
      rw [en, if_pos (by rw [nI_leI (by omega) (by omega)]; omega)]
      exact hq f hf
    | succ r ih =>
      refine hP _ _ ?_
      try dsimp only
      unfold wX8_layAll_25_b
      rw [en, if_neg (by rw [nI_leI (by omega) (by omega)]; omega)]
      obtain ⟨Fl, hFl⟩ : ∃ Fl, planL w l (fun _ => -4) = Fl := ⟨_, rfl⟩
      rw [hFl] at hT hf
      have lp2 : ∀ r g f, g + r = n → TI N L l g 0 (planG w l g Fl) → PlE f (planG w l g Fl) → wX8_layAll_35 P (nI l) (nI g) (stC s 49 f) Q := by
        intro r g f hr hT hf P2 hP2
        induction r generalizing g f with
        | zero =>
          have e : g = n := by omega
          subst e
          refine hP2 _ _ _ ?_
          try dsimp only
          unfold wX8_layAll_35_b
          rw [en, if_pos (by rw [nI_leI (by omega) (by omega)]; omega), nI_1]
          have e2 := planL_s hM w l (fun _ => -4)
          have e3 := planG_ext (w := w) (f := planL w l (fun _ => -4)) (l := l) (n := g) (M - g) (fun g' h1 h2 => hW.out h16 (by omega) (Or.inr h1))
          rw [show g + (M - g) = M by omega] at e3
          rw [e3, hFl] at e2
          rw [← e2] at hT hf
          exact ih (l + 1) f (by omega) hT.nextl hf
        | succ r ihg =>
          have hg : g < 16 := by omega
          refine hP2 _ _ _ ?_
          try dsimp only
          unfold wX8_layAll_35_b
          rw [en, if_neg (by rw [nI_leI (by omega) (by omega)]; omega)]
          obtain ⟨Fg, hFg⟩ : ∃ Fg, planG w l g Fl = Fg := ⟨_, rfl⟩
          rw [hFg] at hT hf
          obtain ⟨ew, w4⟩ := hW.le (16 * l + g)
          have e36 : ∀ f, gA (stC s 49 f) 36 (nI (16 * l + g)) = nI (wN w (16 * l + g)) := fun f => by rw [gn (by omega)]; show s.2 36 (16 * l + g) = _; rw [hw]; exact ew
          have lp3 : ∀ r k f F, k + r = wN w (16 * l + g) → F = rep (plan1 l g) k Fg → TI N L l g k F → PlE f F → wX8_layAll_45 P P2 (nI l) (nI g) (nI k) (stC s 49 f) Q := by
            intro r k f F hr hF hT hf P3 hP3
            induction r generalizing k f F with
            | zero =>
              refine hP3 _ _ _ _ ?_
              try dsimp only
              unfold wX8_layAll_45_b
              try dsimp only
              rw [ix16, e36, if_pos (by rw [nI_leI (by omega) (by omega)]; omega), nI_1]
              refine ⟨vin (by omega) (by omega), ?_⟩
              have e2 := planG_s w l g Fl
              rw [hFg, ← show k = wN w (16 * l + g) by omega, ← hF] at e2
              rw [← e2] at hT hf
              exact ihg (g + 1) f (by omega) hT.nextg hf
            | succ r ihk =>
              refine hP3 _ _ _ _ ?_
              try dsimp only
              unfold wX8_layAll_45_b
              try dsimp only
              rw [ix16, e36, if_neg (by rw [nI_leI (by omega) (by omega)]; omega), nI_1]
              refine ⟨vin (by omega) (by omega), ?_⟩
              obtain ⟨-, -, Ll, Lg⟩ := hW.sex h16 (l := l) hg (by omega)
              obtain ⟨fl, fg⟩ := hT.free hN (by omega) hg Ll Lg (by omega)
              refine y_plan1 hT.1 (by omega) hg Lg fl fg hf (fun f' hf' => ?_)
              exact ihk (k + 1) f' (plan1 l g F) (by omega) (by rw [rep_s, hF]) (hT.step hN (by omega) hg Ll Lg (by omega)) hf'
          exact lp3 (wN w (16 * l + g)) 0 f Fg (by omega) rfl hT hf
      exact lp2 n 0 f (by omega) hT hf
  exact lp n 0 _ (by omega) TI.init (fun p d hp hd => by unfold fil; rw [if_pos (by omega)]; rfl)
theorem op_laid (a b : Int32) : Op (fun Q s => wX7_laid a b s Q) (fun Q s => wX8_laid a b s Q) := by
  intro s hI K hK
  obtain ⟨n, t, hN⟩ := id hI
  obtain ⟨hP, hB, hF, hC, hT, hX, hZ, hQ⟩ := id hN
  obtain ⟨h16, n1, n2, p1, p2, p3, p4, p5, p6⟩ := id hP
  obtain ⟨⟨q1, q2⟩, q3, q4⟩ := id hQ
  obtain ⟨M, hM⟩ : ∃ M : Nat, M = 16 := ⟨16, rfl⟩
  show wX7_laid a b s _
  try dsimp only
  unfold wX7_laid
  try dsimp only
  rw [e_there n1 h16]
  by_cases ha : vp_in a n
  · obtain ⟨p, hp, rfl⟩ := inI ha h16
    try dsimp only
    rw [bi_t ha, if_neg (by decide), e_within (m := 64) (by decide)]
    by_cases hb : vp_in b 64
    · obtain ⟨d, hd, rfl⟩ := vp_in_of hb (by decide)
      try dsimp only
      rw [bi_t hb, if_neg (by decide)]
      have lz : laidF (s.2 36) = planL (s.2 36) M (fun _ => -4) := by subst hM; rfl
      have ln : planL (s.2 36) M (fun _ => -4) = planL (s.2 36) n (fun _ => -4) := by
        have e := planL_ext hM (w := s.2 36) (f := fun _ => -4) (n := n) (M - n) (fun l g h1 h2 => q2.out h16 h2 (Or.inl h1))
        rw [show n + (M - n) = M by omega] at e
        exact e
      -- the model's answer
      have mod : ∀ s1 : St, InvN n t s1 → s1.2 36 = s.2 36 → wX8_laid (nI p) (nI d) s1 (fun r' s2 => K (laidF (s.2 36) (64 * p + d)) r' s2) := by
        intro s1 hN1 e36
        obtain ⟨-, -, n21, -⟩ := id hN1.1
        try dsimp only
        unfold wX8_laid
        try dsimp only
        rw [e_is n21 h16, bi_t ha, if_neg (by decide), e_in (m := 64) rfl (by decide) (by decide), bi_t hb, if_neg (by decide)]
        refine y_layAll (N := 64) rfl h16 n21 e36 q2 (fun f hf => ?_)
        try dsimp only
        rw [ix64, gC (by omega), hf p d (by omega) hd, ← ln, ← lz]
        exact ⟨vin (by omega) (by omega), hK _ _ ⟨n, t, (sim.C (by decide)).inv hN1⟩⟩
      try dsimp only
      unfold wX6_partnerIn
      by_cases fr : gF s 2102 = 0
      · try dsimp only
        rw [if_pos fr]
        refine x_planAll (n := n) (N := 64) (L := s.2 31) rfl hM h16 q1 q2 (fun f hf => ?_)
        try dsimp only
        unfold wX6_partnerIn_11 wX6_planned
        have e23 : gA (stF (stC s 23 f) 2102 1) 23 (nI (64 * p + d)) = laidF (s.2 36) (64 * p + d) := by rw [gn (by omega), lz]; exact hf p d (by omega) hd
        try dsimp only
        rw [ix64', e23]
        refine ⟨vin (by omega) (by omega), mod _ ⟨hP, hB, hF, hC, hT, hX, hZ, ⟨q1, q2⟩, Or.inr rfl, fun _ => ?_⟩ rfl⟩
        show PlanOk (s.2 36) f
        intro p' d' hp' hd'
        rw [lz]
        exact hf p' d' hp' hd'
      · try dsimp only
        rw [if_neg fr]
        try dsimp only
        unfold wX6_partnerIn_11 wX6_planned
        have e23 : gA s 23 (nI (64 * p + d)) = laidF (s.2 36) (64 * p + d) := by rw [gn (by omega)]; exact q4 (q3.resolve_left fr) p d (by omega) hd
        try dsimp only
        rw [ix64', e23]
        exact ⟨vin (by omega) (by omega), mod s hN rfl⟩
    · try dsimp only
      rw [bi_f hb, if_pos rfl]
      try dsimp only
      unfold wX8_laid
      try dsimp only
      rw [e_is n2 h16, bi_t ha, if_neg (by decide), e_in (m := 64) rfl (by decide) (by decide), bi_f hb, if_pos rfl]
      exact hK _ _ hI
  · try dsimp only
    rw [bi_f ha, if_pos rfl]
    try dsimp only
    unfold wX8_laid
    try dsimp only
    rw [e_is n2 h16, bi_f ha, if_pos rfl]
    exact hK _ _ hI
