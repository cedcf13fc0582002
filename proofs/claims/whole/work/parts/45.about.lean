/-! about -/
def sitB (c : Nat → Int32) (p d : Nat) : Bool := decide (c (24 * p + d) = -5)
def lgst (c : Nat → Int32) (p : Nat) : Nat → Nat := mxs (fun k => lr c p (k + 1))
theorem lgst_s {c : Nat → Int32} {p k : Nat} : lgst c p (k + 1) = if lgst c p k < lr c p (k + 1) then lr c p (k + 1) else lgst c p k := rfl
theorem lgst_le {c : Nat → Int32} {p : Nat} : ∀ k, lgst c p k ≤ k
  | 0 => Nat.le_refl 0
  | k + 1 => by
    rw [lgst_s]
    have := lgst_le (c := c) (p := p) k
    have := lr_le (c := c) (p := p) (k + 1)
    split <;> omega
theorem lr_s {c : Nat → Int32} {p k : Nat} : lr c p (k + 1) = if pd c p k then lr c p k + 1 else 0 := rfl
theorem x_sit {p : Nat} (hp : p < 16) {s : St} {Q : Int32 → St → Prop} (hq : Q (nI (fb_ct (sitB (s.2 12) p) 24)) s) : wX0_sittings (nI p) s Q := by
  have lp : ∀ m k, k + m = 24 → wX0_sittings_4 (nI p) (nI (fb_ct (sitB (s.2 12) p) k)) (nI k) s Q := by
    intro m k hm P hP
    induction m generalizing k with
    | zero =>
      have e : k = 24 := by omega
      subst e
      refine hP _ _ _ _ ?_
      try dsimp only
      unfold wX0_sittings_4_b
      try dsimp only
      rw [if_pos (show (24 : Int32) ≤ nI 24 from nI_le (a := 24) (b := 24) (by omega) (by omega))]
      exact hq
    | succ m ih =>
      refine hP _ _ _ _ ?_
      try dsimp only
      unfold wX0_sittings_4_b wX0_sittings_27 wX7_toInt
      try dsimp only
      rw [if_neg (show ¬ (24 : Int32) ≤ nI k from nI_ge (b := 24) (by omega) (by omega)), e_entry hp (by omega)]
      by_cases z : s.2 12 (24 * p + k) = -5
      · try dsimp only
        rw [if_pos z, if_neg (by decide), acc1 (p := sitB (s.2 12) p) (by unfold sitB; simpa using z), nI_1]
        exact ih (k + 1) (by omega)
      · try dsimp only
        rw [if_neg z, if_pos rfl, acc0 (p := sitB (s.2 12) p) (by unfold sitB; simpa using z), nI_1]
        exact ih (k + 1) (by omega)
  exact lp 24 0 (by omega)
theorem x_long {p : Nat} (hp : p < 16) {s : St} {Q : Int32 → St → Prop} (hq : Q (nI (lgst (s.2 12) p 24)) s) : wX0_longestRow (nI p) s Q := by
  have lp : ∀ m k, k + m = 24 → wX0_longestRow_7 (nI p) (nI (lgst (s.2 12) p k)) (nI (lr (s.2 12) p k)) (nI k) s Q := by
    intro m k hm P hP
    induction m generalizing k with
    | zero =>
      have e : k = 24 := by omega
      subst e
      refine hP _ _ _ _ _ ?_
      try dsimp only
      unfold wX0_longestRow_7_b
      try dsimp only
      rw [if_pos (show (24 : Int32) ≤ nI 24 from nI_le (a := 24) (b := 24) (by omega) (by omega))]
      exact hq
    | succ m ih =>
      refine hP _ _ _ _ _ ?_
      have nx := ih (k + 1) (by omega)
      have h1 := lgst_le (c := s.2 12) (p := p) k
      have h2 := lr_le (c := s.2 12) (p := p) (k + 1)
      have e : ∀ r, nI (lr (s.2 12) p (k + 1)) = r → P (nI p) (if nI (lgst (s.2 12) p k) < r then r else nI (lgst (s.2 12) p k)) r (nI (k + 1)) s := by
        rintro r rfl
        rw [lgst_s] at nx
        by_cases z : lgst (s.2 12) p k < lr (s.2 12) p (k + 1)
        · try dsimp only
          rw [if_pos z] at nx
          try dsimp only
          rw [if_pos (nI_lt z (by omega))]; exact nx
        · try dsimp only
          rw [if_neg z] at nx
          try dsimp only
          rw [if_neg (nI_nlt (by omega) (by omega))]; exact nx
      try dsimp only
      unfold wX0_longestRow_7_b wX0_longestRow_31
      try dsimp only
      rw [if_neg (show ¬ (24 : Int32) ≤ nI k from nI_ge (b := 24) (by omega) (by omega)), e_paired hp (by omega), nI_1, nI_1]
      by_cases z : pd (s.2 12) p k = true
      · try dsimp only
        rw [bi_t z, if_neg (by decide)]
        exact e _ (by rw [lr_s, if_pos z])
      · try dsimp only
        rw [bi_f z, if_pos rfl]
        exact e _ (by rw [lr_s, if_neg z]; rfl)
  exact lp 24 0 (by omega)
def mt (c : Nat → Int32) (p : Nat) : Nat → Nat
  | 0 => 0
  | k + 1 => if pd c p k then mt c p k ||| 2 ^ (c (24 * p + k)).toNatClampNeg else mt c p k
theorem mt_s {c : Nat → Int32} {p k : Nat} : mt c p (k + 1) = if pd c p k then mt c p k ||| 2 ^ (c (24 * p + k)).toNatClampNeg else mt c p k := rfl
theorem pd_iff {c : Nat → Int32} {p d : Nat} : pd c p d = true ↔ 0 ≤ c (24 * p + d) := by unfold pd; simp
theorem mt_lt {n p : Nat} {L e c : Nat → Int32} (h : InvC n L e c) (h16 : n ≤ 16) (hp : p < n) : ∀ k, k ≤ 24 → mt c p k < 65536
  | 0, _ => (show 0 < 65536 from by decide)
  | k + 1, hk => by
    rw [mt_s]
    have ih := mt_lt h h16 hp k (by omega)
    by_cases z : pd c p k = true
    · try dsimp only
      rw [if_pos z]
      obtain ⟨q, hq, q1, -⟩ := h.mate h16 hp (d := k) (by omega) (pd_iff.mp z)
      rw [q1, cl (by omega)]
      exact or_lt ih (by omega)
    · try dsimp only
      rw [if_neg z]; exact ih
theorem mt_bit {n p : Nat} {L e c : Nat → Int32} (h : InvC n L e c) (h16 : n ≤ 16) (hp : p < n) {j : Nat} (hj : j < 2147483648) : ∀ k, k ≤ 24 → ((mt c p k).testBit j = true ↔ ∃ d, d < k ∧ c (24 * p + d) = nI j)
  | 0, _ => by simp [mt]
  | k + 1, hk => by
    have ih := mt_bit h h16 hp hj k (by omega)
    rw [mt_s]
    have old : (∃ d, d < k ∧ c (24 * p + d) = nI j) → ∃ d, d < k + 1 ∧ c (24 * p + d) = nI j := fun ⟨d, h1, h2⟩ => ⟨d, by omega, h2⟩
    by_cases z : pd c p k = true
    · try dsimp only
      rw [if_pos z]
      obtain ⟨q, hq, q1, -⟩ := h.mate h16 hp (d := k) (by omega) (pd_iff.mp z)
      rw [q1, cl (by omega), fb_bit_set]
      rw [Bool.or_eq_true, ih, decide_eq_true_iff]
      constructor
      · rintro (h1 | h1)
        · exact old h1
        · exact ⟨k, by omega, by rw [q1, h1]⟩
      · rintro ⟨d, h1, h2⟩
        by_cases e : d = k
        · subst e
          exact Or.inr ((nI_eq (by omega) (by omega)).mp (h2.symm.trans q1))
        · exact Or.inl ⟨d, by omega, h2⟩
    · try dsimp only
      rw [if_neg z, ih]
      constructor
      · exact old
      · rintro ⟨d, h1, h2⟩
        by_cases e : d = k
        · subst e
          exact absurd (pd_iff.mpr (by rw [h2]; exact nI_pos' hj)) z
        · exact ⟨d, by omega, h2⟩
theorem x_others {n p : Nat} {L c : Nat → Int32} {s : St} (h16 : n ≤ 16) (hp : p < n) (hC : InvC n L (s.2 12) c) {Q : Int32 → St → Prop} (hq : Q (nI (pop (mt c p 24))) s) : wX0_others (nI p) s Q := by
  have lp : ∀ m k, k + m = 24 → wX0_others_4 (nI p) (nI (mt c p k)) (nI k) s Q := by
    intro m k hm P hP
    induction m generalizing k with
    | zero =>
      have e : k = 24 := by omega
      subst e
      refine hP _ _ _ _ ?_
      try dsimp only
      unfold wX0_others_4_b
      try dsimp only
      rw [if_pos (show (24 : Int32) ≤ nI 24 from nI_le (a := 24) (b := 24) (by omega) (by omega)), e_bits (mt_lt hC h16 hp 24 (by omega))]
      exact hq
    | succ m ih =>
      refine hP _ _ _ _ ?_
      have nx := ih (k + 1) (by omega)
      try dsimp only
      unfold wX0_others_4_b
      try dsimp only
      rw [if_neg (show ¬ (24 : Int32) ≤ nI k from nI_ge (b := 24) (by omega) (by omega)), e_paired (by omega) (by omega), nI_1]
      have ec := hC.1 p k hp (by omega)
      have ep : pd (s.2 12) p k = pd c p k := by unfold pd; rw [ec]
      rw [ep]
      rw [mt_s] at nx
      by_cases z : pd c p k = true
      · obtain ⟨q, hq1, q1, -⟩ := hC.mate h16 hp (d := k) (by omega) (pd_iff.mp z)
        try dsimp only
        rw [if_pos z, q1, cl (by omega)] at nx
        try dsimp only
        rw [bi_t z, if_neg (by decide), e_entry (by omega) (by omega), ec, q1, bit_or (by omega)]
        exact nx
      · try dsimp only
        rw [if_neg z] at nx
        try dsimp only
        rw [bi_f z, if_pos rfl]
        exact nx
  exact lp 24 0 (by omega)
def oth (c : Nat → Int32) (p q : Nat) : Bool := decide (¬ q = p ∧ 0 < tog c p q)
theorem oth_iff {c : Nat → Int32} {p q : Nat} : oth c p q = true ↔ (¬ q = p ∧ 0 < tog c p q) := by unfold oth; simp
theorem y_oth {n p : Nat} (h16 : n ≤ 16) (hp : p < n) {w a3 a4 a6 : Int32} {s : St} (n2 : gF s 3000 = nI n) {Q : Int32 → St → Prop} (hq : Q (if w = 0 then a3 else if w = 1 then nI (fb_ct (oth (s.2 37) p) n) else if w = 2 then a6 else a4) s) : ∀ m k, k + m = n → wX8_about_125 (nI p) w a3 a4 a6 (nI (fb_ct (oth (s.2 37) p) k)) (nI k) s Q := by
  intro m k hm P hP
  induction m generalizing k with
  | zero =>
    have e : k = n := by omega
    subst e
    refine hP _ _ _ _ _ _ _ _ ?_
    try dsimp only
    unfold wX8_about_125_b
    rw [n2, if_pos (nI_le (Nat.le_refl k) (by omega))]
    by_cases h0 : w = 0
    · try dsimp only
      rw [if_pos h0] at hq ⊢; exact hq
    · try dsimp only
      rw [if_neg h0] at hq ⊢
      by_cases h1 : w = 1
      · try dsimp only
        rw [if_pos h1] at hq ⊢; exact hq
      · try dsimp only
        rw [if_neg h1] at hq ⊢
        by_cases h2 : w = 2
        · try dsimp only
          rw [if_pos h2] at hq ⊢; exact hq
        · try dsimp only
          rw [if_neg h2] at hq ⊢; exact hq
  | succ m ih =>
    refine hP _ _ _ _ _ _ _ _ ?_
    try dsimp only
    unfold wX8_about_125_b
    rw [n2, if_neg (nI_ge (by omega) (by omega)), nI_1]
    have nx := ih (k + 1) (by omega)
    by_cases e : k = p
    · try dsimp only
      rw [if_pos (by rw [e]), acc0 (fun z => (oth_iff.mp z).1 e)]; exact nx
    · try dsimp only
      rw [if_neg (fun z => e ((nI_eq (by omega) (by omega)).mp z))]
      refine y_tog (by omega) ?_
      have htl : tog (s.2 37) p k ≤ 24 := fb_ct_le _ 24
      by_cases z : tog (s.2 37) p k = 0
      · rw [z, if_pos (by decide), acc0 (fun y => by have := (oth_iff.mp y).2; omega)]; exact nx
      · try dsimp only
        rw [if_neg (show ¬ nI (tog (s.2 37) p k) ≤ (0 : Int32) from nI_ge (a := 0) (by omega) (by omega)), acc1 (oth_iff.mpr ⟨e, by omega⟩)]; exact nx
theorem y_about {n p : Nat} (h16 : n ≤ 16) (hp : p < n) {w : Int32} {s : St} (n2 : gF s 3000 = nI n) {Q : Int32 → St → Prop} (hq : Q (if w = 0 then nI (fb_ct (fun d => pd (s.2 37) p d) 24) else if w = 1 then nI (fb_ct (oth (s.2 37) p) n) else if w = 2 then nI (lgst (s.2 37) p 24) else nI (fb_ct (sitB (s.2 37) p) 24)) s) : wX8_about_39 (nI p) w 0 0 0 0 0 0 s Q := by
  have lp : ∀ m k, k + m = 24 → wX8_about_39 (nI p) w (nI (fb_ct (fun d => pd (s.2 37) p d) k)) (nI (fb_ct (sitB (s.2 37) p) k)) (nI (lr (s.2 37) p k)) (nI (lgst (s.2 37) p k)) 0 (nI k) s Q := by
    intro m k hm P hP
    induction m generalizing k with
    | zero =>
      have e : k = 24 := by omega
      subst e
      refine hP _ _ _ _ _ _ _ _ _ ?_
      try dsimp only
      unfold wX8_about_39_b
      try dsimp only
      rw [if_pos (show (24 : Int32) ≤ nI 24 from nI_le (a := 24) (b := 24) (by omega) (by omega))]
      exact y_oth h16 hp n2 hq n 0 (by omega)
    | succ m ih =>
      refine hP _ _ _ _ _ _ _ _ _ ?_
      have nx := ih (k + 1) (by omega)
      try dsimp only
      unfold wX8_about_39_b
      try dsimp only
      rw [if_neg (show ¬ (24 : Int32) ≤ nI k from nI_ge (b := 24) (by omega) (by omega)), e_cardOf (by omega) (by omega)]
      have h1 := lgst_le (c := s.2 37) (p := p) k
      have h2 := lr_le (c := s.2 37) (p := p) (k + 1)
      have last : ∀ r, nI (lr (s.2 37) p (k + 1)) = r → wX8_about_98 P (nI p) w (nI (fb_ct (fun d => pd (s.2 37) p d) (k + 1))) (nI (fb_ct (sitB (s.2 37) p) (k + 1))) (nI (lgst (s.2 37) p k)) 0 (nI k) r s Q := by
        rintro r rfl
        try dsimp only
        unfold wX8_about_98
        rw [nI_1]
        rw [lgst_s] at nx
        by_cases z : lgst (s.2 37) p k < lr (s.2 37) p (k + 1)
        · try dsimp only
          rw [if_pos z] at nx
          try dsimp only
          rw [if_neg (nI_ge z (by omega))]; exact nx
        · try dsimp only
          rw [if_neg z] at nx
          try dsimp only
          rw [if_pos (nI_le (by omega) (by omega))]; exact nx
      have mid : wX8_about_66 P (nI p) w (nI (fb_ct (sitB (s.2 37) p) k)) (nI (lr (s.2 37) p k)) (nI (lgst (s.2 37) p k)) 0 (nI k) (s.2 37 (24 * p + k)) (bi (pd (s.2 37) p k = true)) (nI (fb_ct (fun d => pd (s.2 37) p d) k)) s Q := by
        try dsimp only
        unfold wX8_about_66 wX8_about_82
        rw [acc (p := fun d => pd (s.2 37) p d) (c := pd (s.2 37) p k = true) Iff.rfl]
        by_cases y : s.2 37 (24 * p + k) = -5
        · try dsimp only
          rw [if_pos y, acc1 (p := sitB (s.2 37) p) (by unfold sitB; simpa using y), if_pos (by rw [y]; decide)]
          refine last _ ?_
          rw [lr_s, if_neg (fun z => absurd (y ▸ pd_iff.mp z) (by decide))]; rfl
        · try dsimp only
          rw [if_neg y, acc0 (p := sitB (s.2 37) p) (by unfold sitB; simpa using y)]
          by_cases z : pd (s.2 37) p k = true
          · try dsimp only
            rw [if_neg (by rw [Int32.not_lt]; exact pd_iff.mp z), nI_1]
            exact last _ (by rw [lr_s, if_pos z])
          · try dsimp only
            rw [if_pos (by rw [← Int32.not_le]; exact fun q => z (pd_iff.mpr q))]
            refine last _ ?_
            rw [lr_s, if_neg z]; rfl
      by_cases z : pd (s.2 37) p k = true
      · try dsimp only
        rw [if_neg (by rw [Int32.not_lt]; exact pd_iff.mp z)]
        try dsimp only
        rw [bi_t z] at mid; exact mid
      · try dsimp only
        rw [if_pos (by rw [← Int32.not_le]; exact fun q => z (pd_iff.mpr q))]
        try dsimp only
        rw [bi_f z] at mid; exact mid
  exact lp 24 0 (by omega)
theorem oth_eq {n p : Nat} {L e c : Nat → Int32} (h : InvC n L e c) (h16 : n ≤ 16) (hp : p < n) : pop (mt c p 24) = fb_ct (oth c p) n := by
  unfold pop
  have key : ∀ j, j < 16 → ((mt c p 24).testBit j = oth c p j) := by
    intro j hj
    rw [Bool.eq_iff_iff, mt_bit h h16 hp (by omega) 24 (by omega), oth_iff]
    have tg : 0 < tog c p j ↔ ∃ d, d < 24 ∧ c (24 * p + d) = nI j := by
      unfold tog
      rw [fb_ct_pos]
      constructor
      · rintro ⟨d, h1, h2⟩; exact ⟨d, h1, by simpa using h2⟩
      · rintro ⟨d, h1, h2⟩; exact ⟨d, h1, by simpa using h2⟩
    rw [tg]
    refine ⟨fun z => ⟨?_, z⟩, fun z => z.2⟩
    rintro rfl
    obtain ⟨d, h1, h2⟩ := z
    obtain ⟨q, q0, q1, q2, -⟩ := h.mate h16 hp h1 (by rw [h2]; exact nI_pos' (by omega))
    have e : j = q := (nI_eq (by omega) (by omega)).mp (h2.symm.trans q1)
    subst e
    by_cases y : L j = 0
    · exact q2.mp y y
    · exact y (q2.mpr y)
  rw [fb_ct_cong key, show 16 = n + (16 - n) by omega, fb_ct_split]
  have z : fb_ct (fun k => oth c p (n + k)) (16 - n) = 0 := by
    rw [fb_ct_zero]
    intro k hk
    rw [← key (n + k) (by omega), Bool.eq_false_iff]
    intro y
    obtain ⟨d, h1, h2⟩ := (mt_bit h h16 hp (by omega) 24 (by omega)).mp y
    obtain ⟨q, q0, q1, -⟩ := h.mate h16 hp h1 (by rw [h2]; exact nI_pos' (by omega))
    have := (nI_eq (by omega) (by omega)).mp (h2.symm.trans q1)
    omega
  rw [z]; rfl
theorem ct_row {P : (Nat → Int32) → Nat → Nat → Bool} {e c : Nat → Int32} {p : Nat} (h : ∀ d, d < 24 → e (24 * p + d) = c (24 * p + d)) (hP : ∀ e c p d, e (24 * p + d) = c (24 * p + d) → P e p d = P c p d) : fb_ct (P e p) 24 = fb_ct (P c p) 24 := fb_ct_cong (fun d hd => hP e c p d (h d hd))
theorem pd_cong {e c : Nat → Int32} {p k : Nat} (h : e (24 * p + k) = c (24 * p + k)) : pd e p k = pd c p k := by unfold pd; rw [h]
theorem lr_0 (c : Nat → Int32) (p : Nat) : lr c p 0 = 0 := by unfold lr; rfl
theorem lgst_0 (c : Nat → Int32) (p : Nat) : lgst c p 0 = 0 := by unfold lgst mxs; rfl
theorem lr_cong {e c : Nat → Int32} {p N : Nat} (h : ∀ d, d < N → e (24 * p + d) = c (24 * p + d)) (k : Nat) (hk : k ≤ N) : lr e p k = lr c p k := by
  induction k with
  | zero => rw [lr_0, lr_0]
  | succ k ih =>
    have i1 := ih (by omega)
    have ep := pd_cong (h k (by omega))
    rw [lr_s, lr_s, ep, i1]
theorem lgst_cong {e c : Nat → Int32} {p N : Nat} (h : ∀ d, d < N → e (24 * p + d) = c (24 * p + d)) (k : Nat) (hk : k ≤ N) : lgst e p k = lgst c p k := by
  induction k with
  | zero => rw [lgst_0, lgst_0]
  | succ k ih =>
    have i1 := ih (by omega)
    rw [lgst_s, lgst_s, lr_cong h (k + 1) hk, i1]
theorem op_about (a w : Int32) : Op (fun Q s => wX7_about a w s Q) (fun Q s => wX8_about a w s Q) := by
  intro s hI K hK
  obtain ⟨n, t, hN⟩ := id hI
  obtain ⟨h16, n1, n2, -⟩ := id hN.1
  have hC := hN.2.2.2.1
  show wX7_about a w s _
  try dsimp only
  unfold wX7_about
  try dsimp only
  rw [e_there n1 h16]
  by_cases h : vp_in a n
  · obtain ⟨p, hp, rfl⟩ := inI h h16
    try dsimp only
    rw [bi_t h, if_neg (by decide)]
    have row : ∀ d, d < 24 → s.2 12 (24 * p + d) = s.2 37 (24 * p + d) := fun d hd => hC.1 p d hp hd
    have mod : ∀ r : Int32, vp_in w 4 → r = (if w = 0 then nI (fb_ct (fun d => pd (s.2 37) p d) 24) else if w = 1 then nI (fb_ct (oth (s.2 37) p) n) else if w = 2 then nI (lgst (s.2 37) p 24) else nI (fb_ct (sitB (s.2 37) p) 24)) → wX8_about (nI p) w s (fun r' s2 => K r r' s2) := by
      intro r hw hr
      try dsimp only
      unfold wX8_about
      try dsimp only
      rw [e_is n2 h16, bi_t h, if_neg (by decide), e_in (m := 4) rfl (by decide) (by decide), bi_t hw, if_neg (by decide)]
      refine y_about h16 hp n2 ?_
      rw [← hr]
      exact hK _ _ hI
    by_cases h0 : w = 0
    · subst h0
      try dsimp only
      rw [if_pos rfl]
      refine x_pairs (by omega) (mod _ (vi (k := 0) rfl (by decide) (by decide)) ?_)
      try dsimp only
      rw [if_pos rfl]
      exact congrArg nI (ct_row (P := fun c p d => pd c p d) row (fun e c p d h => by unfold pd; rw [h]))
    · try dsimp only
      rw [if_neg h0]
      by_cases h1 : w = 1
      · subst h1
        try dsimp only
        rw [if_pos rfl]
        refine x_others h16 hp hC (mod _ (vi (k := 1) rfl (by decide) (by decide)) ?_)
        try dsimp only
        rw [if_neg h0, if_pos rfl, oth_eq hC h16 hp]
      · try dsimp only
        rw [if_neg h1]
        by_cases h2 : w = 2
        · subst h2
          try dsimp only
          rw [if_pos rfl]
          refine x_long (by omega) (mod _ (vi (k := 2) rfl (by decide) (by decide)) ?_)
          try dsimp only
          rw [if_neg h0, if_neg h1, if_pos rfl, lgst_cong row 24 (by omega)]
        · try dsimp only
          rw [if_neg h2]
          by_cases h3 : w = 3
          · subst h3
            try dsimp only
            rw [if_pos rfl]
            refine x_sit (by omega) (mod _ (vi (k := 3) rfl (by decide) (by decide)) ?_)
            try dsimp only
            rw [if_neg h0, if_neg h1, if_neg h2]
            exact congrArg nI (ct_row (P := fun c p d => sitB c p d) row (fun e c p d h => by unfold sitB; rw [h]))
          · try dsimp only
            rw [if_neg h3]
            try dsimp only
            unfold wX8_about
            have hw : ¬ vp_in w 4 := by
              intro hw
              obtain ⟨j, hj, e⟩ := vp_in_of hw (by decide)
              subst e
              rcases (show j = 0 ∨ j = 1 ∨ j = 2 ∨ j = 3 by omega) with rfl | rfl | rfl | rfl
              · exact h0 rfl
              · exact h1 rfl
              · exact h2 rfl
              · exact h3 rfl
            try dsimp only
            rw [e_is n2 h16, bi_t h, if_neg (by decide), e_in (m := 4) rfl (by decide) (by decide), bi_f hw, if_pos rfl]
            exact hK _ _ hI
  · try dsimp only
    rw [bi_f h, if_pos rfl]
    try dsimp only
    unfold wX8_about
    try dsimp only
    rw [e_is n2 h16, bi_f h, if_pos rfl]
    exact hK _ _ hI
