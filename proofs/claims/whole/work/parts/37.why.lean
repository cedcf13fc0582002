/-! WHY -/
def pd (c : Nat → Int32) (p d : Nat) : Bool := decide (0 ≤ c (24 * p + d))
def tog (c : Nat → Int32) (g l : Nat) : Nat := fb_ct (fun d => decide (c (24 * g + d) = nI l)) 24
def lr (c : Nat → Int32) (p : Nat) : Nat → Nat
  | 0 => 0
  | d + 1 => if pd c p d then lr c p d + 1 else 0
def rr (c : Nat → Int32) (p : Nat) : Nat → Nat → Nat
  | 0, _ => 0
  | m + 1, d => if pd c p (d + 1) then rr c p m (d + 1) + 1 else 0
def rowN (c : Nat → Int32) (p d : Nat) : Nat := lr c p d + rr c p (23 - d) d + 1
theorem lr_le {c : Nat → Int32} {p : Nat} : ∀ d, lr c p d ≤ d
  | 0 => Nat.le_refl 0
  | d + 1 => by
    have := lr_le (c := c) (p := p) d
    unfold lr
    split <;> omega
theorem rr_le {c : Nat → Int32} {p : Nat} : ∀ m d, rr c p m d ≤ m
  | 0, _ => Nat.le_refl 0
  | m + 1, d => by
    have := rr_le (c := c) (p := p) m (d + 1)
    unfold rr
    split <;> omega
theorem e_paired {p d : Nat} {s : St} {Q : Int32 → St → Prop} (hp : p < 16) (hd : d < 24) : wX0_isPaired (nI p) (nI d) s Q = Q (bi (pd (s.2 12) p d = true)) s := by
  try dsimp only
  unfold wX0_isPaired
  try dsimp only
  rw [e_entry hp hd]
  unfold pd
  by_cases h : 0 ≤ s.2 12 (24 * p + d)
  · try dsimp only
    rw [if_neg (by rw [Int32.not_lt]; exact h), bi_t (by simpa using h)]
  · try dsimp only
    rw [if_pos (by rw [Int32.not_le] at h; exact h), bi_f (by simpa using h)]
theorem e_taken {p d : Nat} {s : St} {Q : Int32 → St → Prop} (hp : p < 16) (hd : d < 24) : wX0_isTaken (nI p) (nI d) s Q = Q (bi (¬ s.2 12 (24 * p + d) = -4)) s := by
  try dsimp only
  unfold wX0_isTaken
  try dsimp only
  rw [e_entry hp hd]
  by_cases h : s.2 12 (24 * p + d) = -4
  · try dsimp only
    rw [if_pos h, bi_f (fun z => z h)]
  · try dsimp only
    rw [if_neg h, bi_t h]
theorem e_partner {p k : Nat} {s : St} {Q : Int32 → St → Prop} (hp : p < 16) (hk : k < 24) : wX8_hasPartner (nI p) (nI k) s Q = Q (bi (pd (s.2 37) p k = true)) s := by
  try dsimp only
  unfold wX8_hasPartner
  try dsimp only
  rw [e_in (m := 24) rfl (by decide) (by decide), bi_t (vin hk (by decide)), if_neg (by decide), e_cardOf hp hk]
  unfold pd
  by_cases h : 0 ≤ s.2 37 (24 * p + k)
  · try dsimp only
    rw [if_neg (by rw [Int32.not_lt]; exact h), bi_t (by simpa using h)]
  · try dsimp only
    rw [if_pos (by rw [Int32.not_le] at h; exact h), bi_f (by simpa using h)]
theorem e_nopart {p : Nat} {k : Int32} {s : St} {Q : Int32 → St → Prop} (hk : ¬ vp_in k 24) : wX8_hasPartner (nI p) k s Q = Q 0 s := by
  try dsimp only
  unfold wX8_hasPartner
  try dsimp only
  rw [e_in (m := 24) rfl (by decide) (by decide), bi_f hk, if_pos rfl]
theorem x_row2 {p f : Nat} (hp : p < 16) {s : St} {Q : Int32 → St → Prop} : ∀ m d, d + m = 23 → Q (nI (d + rr (s.2 12) p m d) - nI f + 1) s → wX0_rowThrough_26 (nI p) (nI f) (nI d) s Q := by
  intro m d hm hq P hP
  induction m generalizing d with
  | zero =>
    refine hP _ _ _ _ ?_
    try dsimp only
    unfold wX0_rowThrough_26_b
    try dsimp only
    rw [if_pos (show (23 : Int32) ≤ nI d from nI_le (a := 23) (by omega) (by omega))]
    exact hq
  | succ m ih =>
    refine hP _ _ _ _ ?_
    try dsimp only
    unfold wX0_rowThrough_26_b
    try dsimp only
    rw [if_neg (show ¬ (23 : Int32) ≤ nI d from nI_ge (b := 23) (by omega) (by omega)), nI_1, e_paired hp (by omega)]
    unfold rr at hq
    by_cases h : pd (s.2 12) p (d + 1) = true
    · try dsimp only
      rw [bi_t h, if_neg (by decide)]
      try dsimp only
      rw [if_pos h] at hq
      exact ih (d + 1) (by omega) (by rw [show d + 1 + rr (s.2 12) p m (d + 1) = d + (rr (s.2 12) p m (d + 1) + 1) by omega]; exact hq)
    · try dsimp only
      rw [bi_f h, if_pos rfl]
      try dsimp only
      rw [if_neg h] at hq
      exact hq
theorem x_row1 {p d : Nat} (hp : p < 16) {s : St} {Q : Int32 → St → Prop} : ∀ f, f ≤ 23 → wX0_rowThrough_26 (nI p) (nI (f - lr (s.2 12) p f)) (nI d) s Q → wX0_rowThrough_2 (nI p) (nI d) (nI f) s Q := by
  intro f hf hq P hP
  induction f with
  | zero =>
    refine hP _ _ _ _ ?_
    try dsimp only
    unfold wX0_rowThrough_2_b
    try dsimp only
    rw [if_pos (show nI 0 ≤ (0 : Int32) from nI_le (a := 0) (b := 0) (by omega) (by omega))]
    exact hq
  | succ f ih =>
    refine hP _ _ _ _ ?_
    try dsimp only
    unfold wX0_rowThrough_2_b
    try dsimp only
    rw [if_neg (show ¬ nI (f + 1) ≤ (0 : Int32) from nI_nle (by omega) (by omega)), show nI (f + 1) - 1 = nI f from nI_pred f, show nI (f + 1) + (-1) = nI f from pk_m1 f, e_paired hp (by omega)]
    unfold lr at hq
    by_cases h : pd (s.2 12) p f = true
    · try dsimp only
      rw [bi_t h, if_neg (by decide)]
      try dsimp only
      rw [if_pos h] at hq
      exact ih (by omega) (by rw [show f - lr (s.2 12) p f = f + 1 - (lr (s.2 12) p f + 1) by omega]; exact hq)
    · try dsimp only
      rw [bi_f h, if_pos rfl]
      try dsimp only
      rw [if_neg h] at hq
      exact hq
theorem x_row {p d : Nat} (hp : p < 16) (hd : d < 24) {s : St} {Q : Int32 → St → Prop} (hq : Q (nI (rowN (s.2 12) p d)) s) : wX0_rowThrough (nI p) (nI d) s Q := by
  try dsimp only
  unfold wX0_rowThrough
  refine x_row1 hp d (by omega) (x_row2 hp (23 - d) d (by omega) ?_)
  have h1 := lr_le (c := s.2 12) (p := p) d
  rw [pk_sub (by omega), nI_1, show d + rr (s.2 12) p (23 - d) d - (d - lr (s.2 12) p d) + 1 = rowN (s.2 12) p d by unfold rowN; omega]
  exact hq
theorem y_run2 {p nn : Nat} (hp : p < 16) {s : St} {Q : Int32 → St → Prop} : ∀ m d, d + m = 23 → Q (nI (nn + rr (s.2 37) p m d)) s → wX8_runWith_31 (nI p) (nI nn) (nI (d + 1)) s Q := by
  intro m d hm hq P hP
  induction m generalizing d nn with
  | zero =>
    refine hP _ _ _ _ ?_
    try dsimp only
    unfold wX8_runWith_31_b
    try dsimp only
    rw [e_nopart (by rw [vp_in_iff, nI_i (by omega)]; omega), if_pos rfl]
    exact hq
  | succ m ih =>
    refine hP _ _ _ _ ?_
    try dsimp only
    unfold wX8_runWith_31_b
    try dsimp only
    rw [e_partner hp (by omega)]
    unfold rr at hq
    by_cases h : pd (s.2 37) p (d + 1) = true
    · try dsimp only
      rw [bi_t h, if_neg (by decide), nI_1, nI_1]
      try dsimp only
      rw [if_pos h] at hq
      exact ih (d + 1) (by omega) (by rw [show nn + 1 + rr (s.2 37) p m (d + 1) = nn + (rr (s.2 37) p m (d + 1) + 1) by omega]; exact hq)
    · try dsimp only
      rw [bi_f h, if_pos rfl]
      try dsimp only
      rw [if_neg h] at hq
      exact hq
theorem y_run1 {p d : Nat} (hp : p < 16) {s : St} {Q : Int32 → St → Prop} : ∀ f nn, f ≤ 23 → wX8_runWith_31 (nI p) (nI (nn + lr (s.2 37) p f)) (nI d + 1) s Q → wX8_runWith_7 (nI p) (nI d) (nI nn) (nI f - 1) s Q := by
  intro f nn hf hq P hP
  induction f generalizing nn with
  | zero =>
    refine hP _ _ _ _ _ ?_
    try dsimp only
    unfold wX8_runWith_7_b
    rw [show nI 0 - 1 = (-1 : Int32) from by decide, e_nopart (by rw [vp_in_iff]; decide), if_pos rfl]
    exact hq
  | succ f ih =>
    refine hP _ _ _ _ _ ?_
    try dsimp only
    unfold wX8_runWith_7_b
    rw [show nI (f + 1) - 1 = nI f from nI_pred f, e_partner hp (by omega)]
    unfold lr at hq
    by_cases h : pd (s.2 37) p f = true
    · try dsimp only
      rw [bi_t h, if_neg (by decide), nI_1, show nI f + (-1) = nI f - 1 from by rw [Int32.sub_eq_add_neg]]
      try dsimp only
      rw [if_pos h] at hq
      exact ih (nn + 1) (by omega) (by rw [show nn + 1 + lr (s.2 37) p f = nn + (lr (s.2 37) p f + 1) by omega]; exact hq)
    · try dsimp only
      rw [bi_f h, if_pos rfl]
      try dsimp only
      rw [if_neg h] at hq
      exact hq
theorem y_run {p d : Nat} (hp : p < 16) (hd : d < 24) {s : St} {Q : Int32 → St → Prop} (hq : Q (nI (rowN (s.2 37) p d)) s) : wX8_runWith (nI p) (nI d) s Q := by
  try dsimp only
  unfold wX8_runWith
  refine y_run1 hp d 1 (by omega) ?_
  rw [nI_1]
  exact y_run2 hp (23 - d) d (by omega) (by rw [show 1 + lr (s.2 37) p d + rr (s.2 37) p (23 - d) d = rowN (s.2 37) p d by unfold rowN; omega]; exact hq)
theorem x_tog {g l : Nat} (hg : g < 16) {s : St} {Q : Int32 → St → Prop} (hq : Q (nI (tog (s.2 12) g l)) s) : wX0_together (nI g) (nI l) s Q := by
  have lp : ∀ m d, d + m = 24 → wX0_together_5 (nI g) (nI l) (nI (fb_ct (fun d => decide (s.2 12 (24 * g + d) = nI l)) d)) (nI d) s Q := by
    intro m d hm P hP
    induction m generalizing d with
    | zero =>
      have e : d = 24 := by omega
      subst e
      refine hP _ _ _ _ _ ?_
      try dsimp only
      unfold wX0_together_5_b
      try dsimp only
      rw [if_pos (show (24 : Int32) ≤ nI 24 from nI_le (a := 24) (b := 24) (by omega) (by omega))]
      exact hq
    | succ m ih =>
      refine hP _ _ _ _ _ ?_
      have nx := ih (d + 1) (by omega)
      rw [fb_ct_succ] at nx
      try dsimp only
      unfold wX0_together_5_b wX0_together_29 wX7_toInt
      try dsimp only
      rw [if_neg (show ¬ (24 : Int32) ≤ nI d from nI_ge (b := 24) (by omega) (by omega)), e_entry hg (by omega)]
      by_cases h : s.2 12 (24 * g + d) = nI l
      · try dsimp only
        rw [if_pos h, if_neg (by decide), nI_1, nI_1]
        try dsimp only
        rw [if_pos (by simpa using h)] at nx
        exact nx
      · try dsimp only
        rw [if_neg h, if_pos rfl, nI_1]
        try dsimp only
        rw [if_neg (by simpa using h)] at nx
        rw [show nI (fb_ct (fun d => decide (s.2 12 (24 * g + d) = nI l)) d) + 0 = nI (fb_ct (fun d => decide (s.2 12 (24 * g + d) = nI l)) d) from Int32.add_zero _]
        exact nx
  exact lp 24 0 (by omega)
theorem y_tog {g l : Nat} (hg : g < 16) {s : St} {Q : Int32 → St → Prop} (hq : Q (nI (tog (s.2 37) g l)) s) : wX8_together (nI g) (nI l) s Q := by
  have lp : ∀ m d, d + m = 24 → wX8_together_5 (nI g) (nI l) (nI (fb_ct (fun d => decide (s.2 37 (24 * g + d) = nI l)) d)) (nI d) s Q := by
    intro m d hm P hP
    induction m generalizing d with
    | zero =>
      have e : d = 24 := by omega
      subst e
      refine hP _ _ _ _ _ ?_
      try dsimp only
      unfold wX8_together_5_b
      try dsimp only
      rw [if_pos (show (24 : Int32) ≤ nI 24 from nI_le (a := 24) (b := 24) (by omega) (by omega))]
      exact hq
    | succ m ih =>
      refine hP _ _ _ _ _ ?_
      have nx := ih (d + 1) (by omega)
      rw [fb_ct_succ] at nx
      try dsimp only
      unfold wX8_together_5_b
      try dsimp only
      rw [if_neg (show ¬ (24 : Int32) ≤ nI d from nI_ge (b := 24) (by omega) (by omega)), e_cardOf hg (by omega)]
      by_cases h : s.2 37 (24 * g + d) = nI l
      · try dsimp only
        rw [if_pos h, nI_1, nI_1]
        try dsimp only
        rw [if_pos (by simpa using h)] at nx
        exact nx
      · try dsimp only
        rw [if_neg h, nI_1]
        try dsimp only
        rw [if_neg (by simpa using h)] at nx
        rw [show nI (fb_ct (fun d => decide (s.2 37 (24 * g + d) = nI l)) d) + 0 = nI (fb_ct (fun d => decide (s.2 37 (24 * g + d) = nI l)) d) from Int32.add_zero _]
        exact nx
  exact lp 24 0 (by omega)
