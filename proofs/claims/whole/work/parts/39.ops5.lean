/-! ask, why, refuse, part -/
theorem row_cong {e c : Nat → Int32} {p : Nat} (h : ∀ d, d < 24 → e (24 * p + d) = c (24 * p + d)) {d : Nat} (hd : d < 24) : rowN e p d = rowN c p d := by
  have hl : ∀ d, d < 24 → lr e p d = lr c p d := by
    intro d
    induction d with
    | zero => intro _; rfl
    | succ d ih =>
      intro hd
      unfold lr pd
      rw [ih (by omega), h d (by omega)]
  have hr : ∀ m d, d + m ≤ 23 → rr e p m d = rr c p m d := by
    intro m
    induction m with
    | zero => intro d _; rfl
    | succ m ih =>
      intro d hd
      unfold rr pd
      rw [ih (d + 1) (by omega), h (d + 1) (by omega)]
  unfold rowN
  rw [hl d hd, hr (23 - d) d (by omega)]
theorem tog_cong {e c : Nat → Int32} {g l : Nat} (h : ∀ d, d < 24 → e (24 * g + d) = c (24 * g + d)) : tog e g l = tog c g l := fb_ct_cong (fun d hd => by rw [h d hd])
theorem ixi {p q d e : Nat} (hd : d < 24) (he : e < 24) (h : 24 * p + d = 24 * q + e) : p = q ∧ d = e := by omega
theorem InvC.pair {n g l d : Nat} {L e c : Nat → Int32} (h : InvC n L e c) (h16 : n ≤ 16) (hg : g < n) (hl : l < n) (hd : d < 24) (Lg : L g = 0) (Ll : ¬ L l = 0) (fg : c (24 * g + d) = -4) (fl : c (24 * l + d) = -4) : InvC n L (upd (upd e (24 * g + d) (nI l)) (24 * l + d) (nI g)) (upd (upd c (24 * g + d) (nI l)) (24 * l + d) (nI g)) := by
  have gl : g ≠ l := fun z => Ll (z ▸ Lg)
  obtain ⟨c1, c2, c3⟩ := h
  have key : ∀ (f : Nat → Int32) p d', d' < 24 → upd (upd f (24 * g + d) (nI l)) (24 * l + d) (nI g) (24 * p + d') = if p = l ∧ d' = d then nI g else if p = g ∧ d' = d then nI l else f (24 * p + d') := by
    intro f p d' hd'
    unfold upd
    by_cases a : 24 * p + d' = 24 * l + d
    · obtain ⟨x, y⟩ := ixi hd' hd a
      try dsimp only
      rw [if_pos a, if_pos ⟨x, y⟩]
    · try dsimp only
      rw [if_neg a, if_neg (fun z : p = l ∧ d' = d => a (by rw [z.1, z.2]))]
      by_cases b : 24 * p + d' = 24 * g + d
      · obtain ⟨x, y⟩ := ixi hd' hd b
        try dsimp only
        rw [if_pos b, if_pos ⟨x, y⟩]
      · try dsimp only
        rw [if_neg b, if_neg (fun z : p = g ∧ d' = d => b (by rw [z.1, z.2]))]
  refine ⟨fun p d' hp hd' => ?_, fun p d' hp hp2 hd' => ?_, fun p d' hp hd' => ?_⟩
  · rw [key, key, c1 p d' hp hd'] <;> exact hd'
  · rw [key _ _ _ hd', if_neg (by omega), if_neg (by omega)]; exact c2 p d' hp hp2 hd'
  · rw [key _ _ _ hd']
    by_cases a : p = l ∧ d' = d
    · obtain ⟨rfl, rfl⟩ := a
      refine Or.inr (Or.inr ⟨g, hg, if_pos ⟨rfl, rfl⟩, ⟨fun z => absurd z Ll, fun z => absurd Lg z⟩, ?_⟩)
      rw [key _ _ _ hd', if_neg (fun z => gl z.1), if_pos ⟨rfl, rfl⟩]
    · try dsimp only
      rw [if_neg a]
      by_cases b : p = g ∧ d' = d
      · obtain ⟨rfl, rfl⟩ := b
        refine Or.inr (Or.inr ⟨l, hl, if_pos ⟨rfl, rfl⟩, ⟨fun _ => Ll, fun _ => Lg⟩, ?_⟩)
        rw [key _ _ _ hd', if_pos ⟨rfl, rfl⟩]
      · try dsimp only
        rw [if_neg b]
        rcases c3 p d' hp hd' with x | x | ⟨q, q1, q2, q3, q4⟩
        · exact Or.inl x
        · exact Or.inr (Or.inl x)
        · refine Or.inr (Or.inr ⟨q, q1, q2, q3, ?_⟩)
          rw [key _ _ _ hd', if_neg, if_neg]
          · exact q4
          · rintro ⟨rfl, rfl⟩; exact m4_ne (by omega) (fg.symm.trans q4)
          · rintro ⟨rfl, rfl⟩; exact m4_ne (by omega) (fl.symm.trans q4)
theorem InvC.unpair {n p q d : Nat} {L e c : Nat → Int32} (h : InvC n L e c) (h16 : n ≤ 16) (hp : p < n) (hq : q < n) (hd : d < 24) (hc : c (24 * p + d) = nI q) : InvC n L (upd (upd e (24 * p + d) (-4)) (24 * q + d) (-4)) (upd (upd c (24 * p + d) (-4)) (24 * q + d) (-4)) := by
  obtain ⟨c1, c2, c3⟩ := h
  have hqp : c (24 * q + d) = nI p := by
    rcases c3 p d hp hd with x | x | ⟨r, r1, r2, r3, r4⟩
    · exact absurd (x.symm.trans hc) (m4_ne (by omega))
    · exact absurd (x.1.symm.trans hc) (by
        intro z
        have := congrArg Int32.toInt z
        rw [nI_i (by omega)] at this
        have h2 : (-5 : Int32).toInt = -5 := by decide
        omega)
    · have : r = q := (nI_eq (by omega) (by omega)).mp (r2.symm.trans hc)
      subst this; exact r4
  have key : ∀ (f : Nat → Int32) r d', d' < 24 → upd (upd f (24 * p + d) (-4)) (24 * q + d) (-4) (24 * r + d') = if (r = q ∨ r = p) ∧ d' = d then -4 else f (24 * r + d') := by
    intro f r d' hd'
    unfold upd
    by_cases a : 24 * r + d' = 24 * q + d
    · obtain ⟨x, y⟩ := ixi hd' hd a
      try dsimp only
      rw [if_pos a, if_pos ⟨Or.inl x, y⟩]
    · try dsimp only
      rw [if_neg a]
      by_cases b : 24 * r + d' = 24 * p + d
      · obtain ⟨x, y⟩ := ixi hd' hd b
        try dsimp only
        rw [if_pos b, if_pos ⟨Or.inr x, y⟩]
      · try dsimp only
        rw [if_neg b, if_neg]
        rintro ⟨z | z, w⟩
        · exact a (by rw [z, w])
        · exact b (by rw [z, w])
  refine ⟨fun r d' hr hd' => ?_, fun r d' hr hr2 hd' => ?_, fun r d' hr hd' => ?_⟩
  · rw [key, key, c1 r d' hr hd'] <;> exact hd'
  · rw [key _ _ _ hd', if_neg (by omega)]; exact c2 r d' hr hr2 hd'
  · rw [key _ _ _ hd']
    by_cases a : (r = q ∨ r = p) ∧ d' = d
    · exact Or.inl (if_pos a)
    · try dsimp only
      rw [if_neg a]
      rcases c3 r d' hr hd' with x | x | ⟨w, w1, w2, w3, w4⟩
      · exact Or.inl x
      · exact Or.inr (Or.inl x)
      · refine Or.inr (Or.inr ⟨w, w1, w2, w3, ?_⟩)
        rw [key _ _ _ hd', if_neg]
        · exact w4
        · rintro ⟨rfl | rfl, rfl⟩
          · have := (nI_eq (by omega) (by omega)).mp (hqp.symm.trans w4)
            exact a ⟨Or.inr this.symm, rfl⟩
          · have := (nI_eq (by omega) (by omega)).mp (hc.symm.trans w4)
            exact a ⟨Or.inl this.symm, rfl⟩
theorem InvC.sit {n l d : Nat} {L e c : Nat → Int32} (h : InvC n L e c) (h16 : n ≤ 16) (hl : l < n) (hd : d < 24) (Ll : ¬ L l = 0) (fl : c (24 * l + d) = -4) : InvC n L (upd e (24 * l + d) (-5)) (upd c (24 * l + d) (-5)) := by
  obtain ⟨c1, c2, c3⟩ := h
  have key : ∀ (f : Nat → Int32) r d', d' < 24 → upd f (24 * l + d) (-5) (24 * r + d') = if r = l ∧ d' = d then -5 else f (24 * r + d') := by
    intro f r d' hd'
    unfold upd
    by_cases a : 24 * r + d' = 24 * l + d
    · obtain ⟨x, y⟩ := ixi hd' hd a
      try dsimp only
      rw [if_pos a, if_pos ⟨x, y⟩]
    · try dsimp only
      rw [if_neg a, if_neg (fun z => a (by rw [z.1, z.2]))]
  refine ⟨fun r d' hr hd' => ?_, fun r d' hr hr2 hd' => ?_, fun r d' hr hd' => ?_⟩
  · rw [key, key, c1 r d' hr hd'] <;> exact hd'
  · rw [key _ _ _ hd', if_neg (by omega)]; exact c2 r d' hr hr2 hd'
  · rw [key _ _ _ hd']
    by_cases a : r = l ∧ d' = d
    · try dsimp only
      rw [if_pos a]; exact Or.inr (Or.inl ⟨rfl, by rw [a.1]; exact Ll⟩)
    · try dsimp only
      rw [if_neg a]
      rcases c3 r d' hr hd' with x | x | ⟨w, w1, w2, w3, w4⟩
      · exact Or.inl x
      · exact Or.inr (Or.inl x)
      · refine Or.inr (Or.inr ⟨w, w1, w2, w3, ?_⟩)
        rw [key _ _ _ hd', if_neg]
        · exact w4
        · rintro ⟨rfl, rfl⟩; exact m4_ne (by omega) (fl.symm.trans w4)
theorem e_join {g l d : Nat} (hg : g < 16) (hl : l < 16) (hd : d < 24) {s : St} {Q : St → Prop} : wX0_join (nI g) (nI l) (nI d) s Q = Q (stC s 12 (upd (upd (s.2 12) (24 * g + d) (nI l)) (24 * l + d) (nI g))) := by
  try dsimp only
  unfold wX0_join wX0_enter
  try dsimp only
  rw [ix24', ix24', st_AA, cl (by omega), cl (by omega)]
  exact propext ⟨fun z => z.2.2, fun z => ⟨vin (by omega) (by decide), vin (by omega) (by decide), z⟩⟩
theorem e_couple2 {g l d : Nat} (hg : g < 16) (hl : l < 16) (hd : d < 24) {s : St} {Q : St → Prop} : wX8_couple (nI g) (nI l) (nI d) s Q = Q (stC s 37 (upd (upd (s.2 37) (24 * g + d) (nI l)) (24 * l + d) (nI g))) := by
  try dsimp only
  unfold wX8_couple wX8_write
  try dsimp only
  rw [ix24, ix24, st_AA, cl (by omega), cl (by omega)]
  exact propext ⟨fun z => z.2.2, fun z => ⟨vin (by omega) (by decide), vin (by omega) (by decide), z⟩⟩
theorem e_sep {g l d : Nat} (hg : g < 16) (hl : l < 16) (hd : d < 24) {s : St} {Q : St → Prop} : wX0_separate (nI g) (nI l) (nI d) s Q = Q (stC s 12 (upd (upd (s.2 12) (24 * g + d) (-4)) (24 * l + d) (-4))) := by
  try dsimp only
  unfold wX0_separate wX0_enter
  try dsimp only
  rw [ix24', ix24', st_AA, cl (by omega), cl (by omega)]
  exact propext ⟨fun z => z.2.2, fun z => ⟨vin (by omega) (by decide), vin (by omega) (by decide), z⟩⟩
theorem e_unc {g l d : Nat} (hg : g < 16) (hl : l < 16) (hd : d < 24) {s : St} {Q : St → Prop} : wX8_uncouple (nI g) (nI l) (nI d) s Q = Q (stC s 37 (upd (upd (s.2 37) (24 * g + d) (-4)) (24 * l + d) (-4))) := by
  try dsimp only
  unfold wX8_uncouple wX8_write
  try dsimp only
  rw [ix24, ix24, st_AA, cl (by omega), cl (by omega)]
  exact propext ⟨fun z => z.2.2, fun z => ⟨vin (by omega) (by decide), vin (by omega) (by decide), z⟩⟩
/-- WHY in a state; the bits of both squares are m, f -/
abbrev WY (s : St) (m f : Nat → Nat) (g l d : Nat) : Int32 := whyF (s.2 33) (s.2 32) (s.2 39) (s.2 37) ((m g).testBit l) ((f g).testBit l) g l d
theorem why_free {I R T c : Nat → Int32} {k f : Bool} {g l d : Nat} (h : whyF I R T c k f g l d = 0) : c (24 * g + d) = -4 ∧ c (24 * l + d) = -4 := by
  unfold whyF why5 at h
  split at h
  · exact absurd h (by decide)
  · split at h
    · exact absurd h (by decide)
    · split at h
      · exact absurd h (by decide)
      · split at h
        · exact absurd h (by decide)
        · split at h
          · exact absurd h (by decide)
          · rename_i z
            constructor
            · exact Classical.byContradiction fun w => z (Or.inl w)
            · exact Classical.byContradiction fun w => z (Or.inr w)
theorem why_range {I R T c : Nat → Int32} {k f : Bool} {g l d : Nat} : ∃ j : Nat, j ≤ 8 ∧ whyF I R T c k f g l d = nI j := by
  unfold whyF why5
  split
  · exact ⟨1, by decide, rfl⟩
  · split
    · exact ⟨2, by decide, rfl⟩
    · split
      · exact ⟨3, by decide, rfl⟩
      · split
        · exact ⟨4, by decide, rfl⟩
        · split
          · exact ⟨5, by decide, rfl⟩
          · split
            · exact ⟨6, by decide, rfl⟩
            · split
              · exact ⟨7, by decide, rfl⟩
              · split
                · exact ⟨8, by decide, rfl⟩
                · exact ⟨0, by decide, rfl⟩
theorem why_le0 {I R T c : Nat → Int32} {k f : Bool} {g l d : Nat} : (whyF I R T c k f g l d ≤ 0) = (whyF I R T c k f g l d = 0) := by
  obtain ⟨j, hj, e⟩ := why_range (I := I) (R := R) (T := T) (c := c) (k := k) (f := f) (g := g) (l := l) (d := d)
  rw [e]
  apply propext
  constructor
  · intro h
    have : nI j ≤ nI 0 := h
    rw [nI_leI (by omega) (by omega)] at this
    have : j = 0 := by omega
    subst this; rfl
  · intro h; rw [h]; decide
/-- WHY of both sides, in a state of the relation -/
theorem xy_why {n t g l d : Nat} {s : St} (hI : InvN n t s) (hg : g < n) (hl : l < n) (hd : d < 24) : ∃ m f : Nat → Nat, (∀ Q : Int32 → St → Prop, Q (WY s m f g l d) s → wX7_reasonAgainst (nI g) (nI l) (nI d) s Q) ∧ ∀ (s1 : St) (Q : Int32 → St → Prop), s1.2 33 = s.2 33 → s1.2 32 = s.2 32 → s1.2 34 = s.2 34 → s1.2 35 = s.2 35 → s1.2 37 = s.2 37 → s1.2 39 = s.2 39 → Q (WY s m f g l d) s1 → wX8_whyNot (nI g) (nI l) (nI d) s1 Q := by
  obtain ⟨⟨h16, n1, n2, p1, p2, p3, p4, p5, p6⟩, ⟨m, m1, m2, m3, m4, m5⟩, ⟨f, f1, f2, f3, f4, f5⟩, ⟨c1, c2, c3⟩, hT, -⟩ := hI
  refine ⟨m, f, fun Q hq => ?_, fun s1 Q e1 e2 e3 e4 e5 e6 hq => ?_⟩
  · exact x_why (n := n) (by omega) (by omega) hd p2 p5 p3 p6 (m1 g (by omega)) (f1 g (by omega)) (fun k hk => (hT k hk).1) (c1 g d hg hd) (c1 l d hl hd) (tog_cong (fun d hd => c1 g d hg hd)) (row_cong (fun d hd => c1 g d hg hd) hd) (row_cong (fun d hd => c1 l d hl hd) hd) hq
  · refine y_why (mk := m) (mf := f) (by omega) (by omega) hd (by rw [e1]; exact p5) (by rw [e3]; exact m3 g l (by omega) (by omega)) (by rw [e4]; exact f3 g l (by omega) (by omega)) ?_
    rw [e1, e2, e5, e6]
    exact hq
theorem ask_of {n : Nat} {L : Nat → Int32} {a b c : Int32} (h : Ask n L a b c) (h16 : n ≤ 16) : ∃ g l d : Nat, g < n ∧ l < n ∧ d < 24 ∧ a = nI g ∧ b = nI l ∧ c = nI d ∧ L g = 0 ∧ ¬ L l = 0 := by
  obtain ⟨⟨h1, h2⟩, ⟨h3, h4⟩, h5⟩ := h
  obtain ⟨g, hg, rfl⟩ := inI h1 h16
  obtain ⟨l, hl, rfl⟩ := inI h3 h16
  obtain ⟨d, hd, rfl⟩ := vp_in_of h5 (by decide)
  rw [cl (by omega)] at h2 h4
  exact ⟨g, l, d, hg, hl, hd, rfl, rfl, rfl, h2, h4⟩
theorem op_why (a b c : Int32) : Op (fun Q s => wX7_why a b c s Q) (fun Q s => wX8_why a b c s Q) := by
  intro s hI K hK
  obtain ⟨n, t, hN⟩ := id hI
  obtain ⟨h16, n1, n2, p1, -⟩ := id hN.1
  show wX7_why a b c s _
  try dsimp only
  unfold wX7_why
  try dsimp only
  rw [e_asking n1 h16, p1]
  by_cases h : Ask n (s.2 31) a b c
  · try dsimp only
    rw [bi_t h, if_neg (by decide)]
    obtain ⟨g, l, d, hg, hl, hd, rfl, rfl, rfl, Lg, Ll⟩ := ask_of h h16
    obtain ⟨m, f, w1, w2⟩ := xy_why hN hg hl hd
    refine w1 _ ?_
    try dsimp only
    unfold wX8_why
    try dsimp only
    rw [e_couple n2 h16, bi_t h, if_neg (by decide)]
    exact w2 s _ rfl rfl rfl rfl rfl rfl (hK _ _ hI)
  · try dsimp only
    rw [bi_f h, if_pos rfl]
    try dsimp only
    unfold wX8_why
    try dsimp only
    rw [e_couple n2 h16, bi_f h, if_pos rfl]
    exact hK _ _ hI
theorem op_ask (a b c : Int32) : Op (fun Q s => wX7_ask a b c s Q) (fun Q s => wX8_ask a b c s Q) := by
  intro s hI K hK
  obtain ⟨n, t, hN⟩ := id hI
  obtain ⟨h16, n1, n2, p1, -⟩ := id hN.1
  show wX7_ask a b c s _
  try dsimp only
  unfold wX7_ask
  try dsimp only
  rw [e_asking n1 h16, p1]
  by_cases h : Ask n (s.2 31) a b c
  · try dsimp only
    rw [bi_t h, if_neg (by decide)]
    obtain ⟨g, l, d, hg, hl, hd, rfl, rfl, rfl, Lg, Ll⟩ := ask_of h h16
    obtain ⟨m, f, w1, w2⟩ := xy_why hN hg hl hd
    refine w1 _ ?_
    by_cases z : WY s m f g l d = 0
    · try dsimp only
      rw [if_pos z, e_join (by omega) (by omega) hd]
      try dsimp only
      unfold wX8_ask
      try dsimp only
      rw [e_couple (s := stC s 12 _) n2 h16, show (stC s 12 (upd (upd (s.2 12) (24 * g + d) (nI l)) (24 * l + d) (nI g))).2 31 = s.2 31 from rfl, bi_t h, if_neg (by decide)]
      refine w2 (stC s 12 _) _ rfl rfl rfl rfl rfl rfl ?_
      try dsimp only
      rw [if_pos (why_le0.mpr z), e_couple2 (by omega) (by omega) hd]
      obtain ⟨hP, hB, hF, hC, hT, hX, hZ, hQ⟩ := hN
      obtain ⟨z1, z2⟩ := why_free z
      exact hK _ _ ⟨n, t, hP, hB, hF, hC.pair h16 hg hl hd Lg Ll z1 z2, hT, hX, hZ, hQ⟩
    · try dsimp only
      rw [if_neg z]
      try dsimp only
      unfold wX8_ask
      try dsimp only
      rw [e_couple n2 h16, bi_t h, if_neg (by decide)]
      refine w2 s _ rfl rfl rfl rfl rfl rfl ?_
      try dsimp only
      rw [if_neg (fun w => z (why_le0.mp w))]
      exact hK _ _ hI
  · try dsimp only
    rw [bi_f h, if_pos rfl]
    try dsimp only
    unfold wX8_ask
    try dsimp only
    rw [e_couple n2 h16, bi_f h, if_pos rfl]
    exact hK _ _ hI
theorem op_refuse (b a c : Int32) : Op (fun Q s => wX7_refuse b a c s Q) (fun Q s => wX8_refuse b a c s Q) := by
  intro s hI K hK
  obtain ⟨n, t, hN⟩ := id hI
  obtain ⟨h16, n1, n2, p1, -⟩ := id hN.1
  show wX7_refuse b a c s _
  try dsimp only
  unfold wX7_refuse
  try dsimp only
  rw [e_asking n1 h16, p1]
  by_cases h : Ask n (s.2 31) a b c
  · try dsimp only
    rw [bi_t h, if_neg (by decide)]
    obtain ⟨g, l, d, hg, hl, hd, rfl, rfl, rfl, Lg, Ll⟩ := ask_of h h16
    obtain ⟨m, f, w1, w2⟩ := xy_why hN hg hl hd
    refine w1 _ ?_
    by_cases z : WY s m f g l d = 0
    · try dsimp only
      rw [if_pos z]
      try dsimp only
      unfold wX0_sitOut wX0_enter
      try dsimp only
      rw [ix24', st_A, cl (by omega)]
      refine ⟨vin (by omega) (by decide), ?_⟩
      try dsimp only
      unfold wX8_refuse
      try dsimp only
      rw [e_couple (s := stC s 12 _) n2 h16, show (stC s 12 (upd (s.2 12) (24 * l + d) (-5))).2 31 = s.2 31 from rfl, bi_t h, if_neg (by decide)]
      refine w2 (stC s 12 _) _ rfl rfl rfl rfl rfl rfl ?_
      try dsimp only
      rw [if_pos (why_le0.mpr z)]
      try dsimp only
      unfold wX8_write
      try dsimp only
      rw [ix24, st_A, cl (by omega)]
      refine ⟨vin (by omega) (by decide), ?_⟩
      obtain ⟨hP, hB, hF, hC, hT, hX, hZ, hQ⟩ := hN
      obtain ⟨z1, z2⟩ := why_free z
      exact hK _ _ ⟨n, t, hP, hB, hF, hC.sit h16 hl hd Ll z2, hT, hX, hZ, hQ⟩
    · try dsimp only
      rw [if_neg z]
      try dsimp only
      unfold wX8_refuse
      try dsimp only
      rw [e_couple n2 h16, bi_t h, if_neg (by decide)]
      refine w2 s _ rfl rfl rfl rfl rfl rfl ?_
      try dsimp only
      rw [if_neg (fun w => z (why_le0.mp w))]
      exact hK _ _ hI
  · try dsimp only
    rw [bi_f h, if_pos rfl]
    try dsimp only
    unfold wX8_refuse
    try dsimp only
    rw [e_couple n2 h16, bi_f h, if_pos rfl]
    exact hK _ _ hI
theorem op_part (a b c : Int32) : Op (fun Q s => wX7_part a b c s Q) (fun Q s => wX8_part a b c s Q) := by
  intro s hI K hK
  obtain ⟨n, t, hN⟩ := id hI
  obtain ⟨h16, n1, n2, p1, -⟩ := id hN.1
  obtain ⟨hP, hB, hF, hC, hT, hX, hZ, hQ⟩ := id hN
  show wX7_part a b c s _
  try dsimp only
  unfold wX7_part
  try dsimp only
  rw [e_asking n1 h16, p1]
  by_cases h : Ask n (s.2 31) a b c
  · try dsimp only
    rw [bi_t h, if_neg (by decide)]
    obtain ⟨g, l, d, hg, hl, hd, rfl, rfl, rfl, Lg, Ll⟩ := ask_of h h16
    try dsimp only
    rw [e_entry (by omega) hd, hC.1 g d hg hd]
    by_cases z : s.2 37 (24 * g + d) = nI l
    · try dsimp only
      rw [if_pos z, e_sep (by omega) (by omega) hd]
      try dsimp only
      unfold wX8_part
      try dsimp only
      rw [e_couple (s := stC s 12 _) n2 h16, show (stC s 12 (upd (upd (s.2 12) (24 * g + d) (-4)) (24 * l + d) (-4))).2 31 = s.2 31 from rfl, bi_t h, if_neg (by decide), e_cardOf (by omega) hd, show (stC s 12 (upd (upd (s.2 12) (24 * g + d) (-4)) (24 * l + d) (-4))).2 37 = s.2 37 from rfl, if_pos z, e_unc (by omega) (by omega) hd]
      exact hK _ _ ⟨n, t, hP, hB, hF, hC.unpair h16 hg hl hd z, hT, hX, hZ, hQ⟩
    · try dsimp only
      rw [if_neg z]
      try dsimp only
      unfold wX8_part
      try dsimp only
      rw [e_couple n2 h16, bi_t h, if_neg (by decide), e_cardOf (by omega) hd, if_neg z]
      exact hK _ _ hI
  · try dsimp only
    rw [bi_f h, if_pos rfl]
    try dsimp only
    unfold wX8_part
    try dsimp only
    rw [e_couple n2 h16, bi_f h, if_pos rfl]
    exact hK _ _ hI
