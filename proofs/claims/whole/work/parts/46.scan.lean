/-! scan -/
def prJ (g l d : Nat) (f : Nat → Int32) : Nat → Int32 := upd (upd f (24 * g + d) (nI l)) (24 * l + d) (nI g)
def unJ (g l d : Nat) (f : Nat → Int32) : Nat → Int32 := upd (upd f (24 * g + d) (-4)) (24 * l + d) (-4)
def scR (st : Nat → (Nat → Int32) → Int32) (A B D : Nat → Nat) : Nat → Nat → (Nat → Int32) → Int32
  | 0, _, _ => 0
  | m + 1, j, c => if st j c = 0 then scR st A B D m (j + 1) (prJ (A j) (B j) (D j) c) else st j c
def scJ (st : Nat → (Nat → Int32) → Int32) (A B D : Nat → Nat) : Nat → Nat → (Nat → Int32) → Nat
  | 0, j, _ => j
  | m + 1, j, c => if st j c = 0 then scJ st A B D m (j + 1) (prJ (A j) (B j) (D j) c) else j
def scP (st : Nat → (Nat → Int32) → Int32) (A B D : Nat → Nat) : Nat → Nat → (Nat → Int32) → (Nat → Int32) → (Nat → Int32)
  | 0, _, _, e => e
  | m + 1, j, c, e => if st j c = 0 then scP st A B D m (j + 1) (prJ (A j) (B j) (D j) c) (prJ (A j) (B j) (D j) e) else e
def unr (A B D : Nat → Nat) : Nat → Nat → (Nat → Int32) → (Nat → Int32)
  | 0, _, f => f
  | m + 1, j, f => unr A B D m (j + 1) (unJ (A j) (B j) (D j) f)
theorem unJ_comm {g l d g' l' d' : Nat} {f : Nat → Int32} : unJ g l d (unJ g' l' d' f) = unJ g' l' d' (unJ g l d f) := by
  funext x
  unfold unJ upd
  repeat' split
  all_goals rfl
theorem unr_comm {A B D : Nat → Nat} {g l d : Nat} : ∀ m j f, unr A B D m j (unJ g l d f) = unJ g l d (unr A B D m j f) := by
  intro m
  induction m with
  | zero => intro j f; rfl
  | succ m ih => intro j f; show unr A B D m (j + 1) _ = unJ g l d (unr A B D m (j + 1) _); rw [unJ_comm, ih]
theorem un_pr {g l d : Nat} {f : Nat → Int32} (h1 : f (24 * g + d) = -4) (h2 : f (24 * l + d) = -4) : unJ g l d (prJ g l d f) = f := by
  funext x
  unfold unJ prJ upd
  split
  · rename_i h; rw [h, h2]
  · split
    · rename_i h; rw [h, h1]
    · rfl
theorem pr_agree {n g l d : Nat} {e c : Nat → Int32} (h : ∀ p d, p < n → d < 24 → e (24 * p + d) = c (24 * p + d)) : ∀ p d', p < n → d' < 24 → prJ g l d e (24 * p + d') = prJ g l d c (24 * p + d') := by
  intro p d' hp hd
  unfold prJ upd
  split
  · rfl
  · split
    · rfl
    · exact h p d' hp hd
theorem scJ_ge {st : Nat → (Nat → Int32) → Int32} {A B D : Nat → Nat} : ∀ m j c, j ≤ scJ st A B D m j c := by
  intro m
  induction m with
  | zero => intro j c; exact Nat.le_refl _
  | succ m ih =>
    intro j c
    unfold scJ
    split
    · exact Nat.le_trans (Nat.le_succ j) (ih (j + 1) _)
    · exact Nat.le_refl _
theorem scJ_le {st : Nat → (Nat → Int32) → Int32} {A B D : Nat → Nat} : ∀ m j c, scJ st A B D m j c ≤ j + m := by
  intro m
  induction m with
  | zero => intro j c; exact Nat.le_refl _
  | succ m ih =>
    intro j c
    unfold scJ
    split
    · have := ih (j + 1) (prJ (A j) (B j) (D j) c); omega
    · omega
theorem un_back {n : Nat} {st : Nat → (Nat → Int32) → Int32} {A B D : Nat → Nat} (h : ∀ j c, st j c = 0 → A j < n ∧ B j < n ∧ D j < 24 ∧ c (24 * A j + D j) = -4 ∧ c (24 * B j + D j) = -4) : ∀ m j c e, (∀ p d, p < n → d < 24 → e (24 * p + d) = c (24 * p + d)) → unr A B D (scJ st A B D m j c - j) j (scP st A B D m j c e) = e := by
  intro m
  induction m with
  | zero => intro j c e _; show unr A B D (j - j) j e = e; rw [Nat.sub_self]; rfl
  | succ m ih =>
    intro j c e hec
    unfold scJ scP
    by_cases z : st j c = 0
    · try dsimp only
      rw [if_pos z, if_pos z]
      obtain ⟨h1, h2, h3, h4, h5⟩ := h j c z
      have q := scJ_ge (st := st) (A := A) (B := B) (D := D) m (j + 1) (prJ (A j) (B j) (D j) c)
      obtain ⟨w, hw⟩ : ∃ w, scJ st A B D m (j + 1) (prJ (A j) (B j) (D j) c) - j = w + 1 := ⟨scJ st A B D m (j + 1) (prJ (A j) (B j) (D j) c) - j - 1, by omega⟩
      have hw2 : scJ st A B D m (j + 1) (prJ (A j) (B j) (D j) c) - (j + 1) = w := by omega
      have i := ih (j + 1) _ _ (pr_agree (g := A j) (l := B j) (d := D j) hec)
      rw [hw2] at i
      rw [hw]
      show unr A B D w (j + 1) (unJ (A j) (B j) (D j) _) = e
      rw [unr_comm, i]
      exact un_pr (by rw [hec _ _ h1 h3]; exact h4) (by rw [hec _ _ h2 h3]; exact h5)
    · try dsimp only
      rw [if_neg z, if_neg z, Nat.sub_self]; rfl
theorem sc_ok {st : Nat → (Nat → Int32) → Int32} {A B D : Nat → Nat} {R : Nat → Prop} (h : ∀ j c, st j c = 0 → R j) : ∀ m j c t, j ≤ t → t < scJ st A B D m j c → R t := by
  intro m
  induction m with
  | zero => intro j c t h1 h2; unfold scJ at h2; omega
  | succ m ih =>
    intro j c t h1 h2
    unfold scJ at h2
    by_cases z : st j c = 0
    · try dsimp only
      rw [if_pos z] at h2
      by_cases e : t = j
      · rw [e]; exact h j c z
      · exact ih (j + 1) _ t (by omega) h2
    · try dsimp only
      rw [if_neg z] at h2; omega
theorem scP_inv {n : Nat} {L : Nat → Int32} (h16 : n ≤ 16) {st : Nat → (Nat → Int32) → Int32} {A B D : Nat → Nat} (h : ∀ j c, st j c = 0 → A j < n ∧ B j < n ∧ D j < 24 ∧ c (24 * A j + D j) = -4 ∧ c (24 * B j + D j) = -4 ∧ L (A j) = 0 ∧ ¬ L (B j) = 0) : ∀ m j c e, InvC n L e c → InvC n L (scP st A B D m j c e) (scP st A B D m j c c) := by
  intro m
  induction m with
  | zero => intro j c e hc; exact hc
  | succ m ih =>
    intro j c e hc
    unfold scP
    by_cases z : st j c = 0
    · try dsimp only
      rw [if_pos z, if_pos z]
      obtain ⟨h1, h2, h3, h4, h5, h6, h7⟩ := h j c z
      exact ih (j + 1) _ _ (hc.pair h16 h1 h2 h3 h6 h7 h4 h5)
    · try dsimp only
      rw [if_neg z, if_neg z]; exact hc
/-- the place of the j-th asking, its three numbers, its answer -/
def zz (f : Int32) (j : Nat) : Nat := (f.toInt + 3 * (j : Int)).toNat
def sbd (f : Int32) (m j : Nat) : Prop := 0 ≤ f.toInt + 3 * (j : Int) ∧ f.toInt + 3 * (j : Int) + 3 ≤ (m : Int)
def sv (v : Nat → Int32) (k : Nat) (f : Int32) (o j : Nat) : Int32 := v (60 * k + zz f j + o)
noncomputable def sST (n k m : Nat) (f : Int32) (v L : Nat → Int32) (W : (Nat → Int32) → Nat → Nat → Nat → Int32) (j : Nat) (c : Nat → Int32) : Int32 :=
  @ite _ (sbd f m j) (Classical.propDecidable _) (@ite _ (Ask n L (sv v k f 0 j) (sv v k f 1 j) (sv v k f 2 j)) (Classical.propDecidable _) (if W c (sv v k f 0 j).toNatClampNeg (sv v k f 1 j).toNatClampNeg (sv v k f 2 j).toNatClampNeg = 0 then 0 else -30 - W c (sv v k f 0 j).toNatClampNeg (sv v k f 1 j).toNatClampNeg (sv v k f 2 j).toNatClampNeg) (-30)) (-22)
def sN (v : Nat → Int32) (k : Nat) (f : Int32) (o j : Nat) : Nat := (sv v k f o j).toNatClampNeg
theorem zz_i {f : Int32} {m j : Nat} (h : sbd f m j) : ((zz f j : Nat) : Int) = f.toInt + 3 * (j : Int) := by
  unfold zz; unfold sbd at h; omega
theorem f3 {f : Int32} {j : Nat} (hj : j ≤ 20) (h : j = 0 ∨ (0 ≤ f.toInt ∧ f.toInt ≤ 60)) : (f + (3 : Int32) * nI j).toInt = f.toInt + 3 * (j : Int) := by
  rw [l_n 3, pk_mul]
  rcases h with rfl | ⟨h1, h2⟩
  · show (f + 0).toInt = _
    rw [Int32.add_zero]; omega
  · rw [fb_addI (by rw [nI_i (by omega)]; omega) (by rw [nI_i (by omega)]; omega), nI_i (by omega)]; omega
theorem f3n {f : Int32} {m j : Nat} (hj : j ≤ 20) (hm : m ≤ 60) (h : j = 0 ∨ (0 ≤ f.toInt ∧ f.toInt ≤ 60)) (hb : sbd f m j) : f + (3 : Int32) * nI j = nI (zz f j) := by
  have e := f3 hj h
  have z := zz_i hb
  have zl : zz f j ≤ 60 := by unfold sbd at hb; omega
  apply Int32.toInt_inj.mp
  rw [e, nI_i (by omega), z]
theorem e_read {k z o : Nat} (hk : k < 4) (hz : z + o < 60) {c : Int32} (hc : c = nI o) {s : St} {Q : Int32 → St → Prop} : wX4_read (nI k) (nI z + c) s Q = Q (s.2 20 (60 * k + z + o)) s := by
  subst hc
  try dsimp only
  unfold wX4_read
  rw [nI_add, ix60', gn (by omega), ← Nat.add_assoc]
  exact propext ⟨fun z => z.2, fun z => ⟨vin (by omega) (by omega), z⟩⟩
theorem e_read0 {k z : Nat} (hk : k < 4) (hz : z < 60) {s : St} {Q : Int32 → St → Prop} : wX4_read (nI k) (nI z) s Q = Q (s.2 20 (60 * k + z + 0)) s := by
  try dsimp only
  unfold wX4_read
  try dsimp only
  rw [ix60', gn (by omega), Nat.add_zero]
  exact propext ⟨fun z => z.2, fun z => ⟨vin (by omega) (by omega), z⟩⟩
theorem sST_ok {n k m : Nat} {f : Int32} {v L : Nat → Int32} {W : (Nat → Int32) → Nat → Nat → Nat → Int32} (h16 : n ≤ 16) (hW : ∀ c g l d, ∃ j : Nat, j ≤ 8 ∧ W c g l d = nI j) (hW2 : ∀ c g l d, W c g l d = 0 → c (24 * g + d) = -4 ∧ c (24 * l + d) = -4) (j : Nat) (c : Nat → Int32) (h : sST n k m f v L W j c = 0) : sN v k f 0 j < n ∧ sN v k f 1 j < n ∧ sN v k f 2 j < 24 ∧ c (24 * sN v k f 0 j + sN v k f 2 j) = -4 ∧ c (24 * sN v k f 1 j + sN v k f 2 j) = -4 ∧ L (sN v k f 0 j) = 0 ∧ ¬ L (sN v k f 1 j) = 0 := by
  unfold sST at h
  split at h
  · split at h
    · split at h
      · rename_i h1 h2 h3
        obtain ⟨a, b⟩ := hW2 _ _ _ _ h3
        obtain ⟨g, l, d, hg, hl, hd, e1, e2, e3, Lg, Ll⟩ := ask_of h2 h16
        unfold sN
        rw [e1, e3, cl (by omega), cl (by omega)] at a
        rw [e2, e3, cl (by omega), cl (by omega)] at b
        rw [e1, e2, e3, cl (by omega), cl (by omega), cl (by omega)]
        exact ⟨hg, hl, hd, a, b, Lg, Ll⟩
      · rename_i h1 h2 h3
        obtain ⟨w, hw, e⟩ := hW c (sv v k f 0 j).toNatClampNeg (sv v k f 1 j).toNatClampNeg (sv v k f 2 j).toNatClampNeg
        rw [e] at h
        exfalso
        have q := congrArg Int32.toInt h
        have e30 : (-30 : Int32).toInt = -30 := by decide
        rw [fb_subI (by rw [nI_i (by omega), e30]; omega) (by rw [nI_i (by omega), e30]; omega), nI_i (by omega), e30] at q
        have : (0 : Int32).toInt = 0 := by decide
        omega
    · exact absurd h (by decide)
  · exact absurd h (by decide)
theorem sST_ok2 {n k m : Nat} {f : Int32} {v L : Nat → Int32} {W : (Nat → Int32) → Nat → Nat → Nat → Int32} (j : Nat) (c : Nat → Int32) (h : sST n k m f v L W j c = 0) : sbd f m j ∧ Ask n L (sv v k f 0 j) (sv v k f 1 j) (sv v k f 2 j) := by
  unfold sST at h
  split at h
  · split at h
    · rename_i h1 h2; exact ⟨h1, h2⟩
    · exact absurd h (by decide)
  · exact absurd h (by decide)
theorem sST_neg {n k m : Nat} {f : Int32} {v L : Nat → Int32} {W : (Nat → Int32) → Nat → Nat → Nat → Int32} (hW : ∀ c g l d, ∃ j : Nat, j ≤ 8 ∧ W c g l d = nI j) (j : Nat) (c : Nat → Int32) : sST n k m f v L W j c = 0 ∨ sST n k m f v L W j c < 0 := by
  unfold sST
  split
  · split
    · split
      · exact Or.inl rfl
      · obtain ⟨w, hw, e⟩ := hW c (sv v k f 0 j).toNatClampNeg (sv v k f 1 j).toNatClampNeg (sv v k f 2 j).toNatClampNeg
        rw [e]
        refine Or.inr ?_
        have e30 : (-30 : Int32).toInt = -30 := by decide
        rw [Int32.lt_iff_toInt_lt, fb_subI (by rw [nI_i (by omega), e30]; omega) (by rw [nI_i (by omega), e30]; omega), nI_i (by omega), e30]
        show _ < (0 : Int)
        omega
    · exact Or.inr (by decide)
  · exact Or.inr (by decide)
theorem x_tb {n k m i : Nat} {f : Int32} {s0 : St} (h16 : n ≤ 16) (hk : k < 4) (hm : m ≤ 60) (hi : i ≤ 20) (hf : i = 0 ∨ (0 ≤ f.toInt ∧ f.toInt ≤ 60)) {L : Nat → Int32} (ok : ∀ j, j < i → sbd f m j ∧ Ask n L (sv (s0.2 20) k f 0 j) (sv (s0.2 20) k f 1 j) (sv (s0.2 20) k f 2 j)) {Q : St → Prop} : ∀ q j X, j + q = i → Q (stC s0 12 (unr (sN (s0.2 20) k f 0) (sN (s0.2 20) k f 1) (sN (s0.2 20) k f 2) q j X)) → wX7_takeBack_3 (nI k) f (nI i) (nI j) (stC s0 12 X) Q := by
  intro q
  induction q with
  | zero =>
    intro j X hj hq P hP
    refine hP _ _ _ _ _ ?_
    try dsimp only
    unfold wX7_takeBack_3_b
    try dsimp only
    rw [if_pos (by rw [nI_leI (by omega) (by omega)]; omega)]
    exact hq
  | succ q ih =>
    intro j X hj hq P hP
    refine hP _ _ _ _ _ ?_
    try dsimp only
    unfold wX7_takeBack_3_b
    obtain ⟨hb, ha⟩ := ok j (by omega)
    have zi := zz_i hb
    have hz : zz f j + 3 ≤ 60 := by unfold sbd at hb; omega
    obtain ⟨g, l, d, hg, hl, hd, e1, e2, e3, Lg, Ll⟩ := ask_of ha h16
    try dsimp only
    rw [if_neg (by rw [nI_leI (by omega) (by omega)]; omega), f3n (by omega) hm (by omega) hb, e_read0 hk (by omega), e_read (c := 1) (o := 1) (z := zz f j) hk (by omega) rfl, e_read (c := 2) (o := 2) (z := zz f j) hk (by omega) rfl]
    show wX0_separate (sv (s0.2 20) k f 0 j) (sv (s0.2 20) k f 1 j) (sv (s0.2 20) k f 2 j) (stC s0 12 X) _
    rw [e1, e2, e3, e_sep (by omega) (by omega) hd, nI_1, st_CC]
    refine ih (j + 1) _ (by omega) ?_ P hP
    have a1 : sN (s0.2 20) k f 0 j = g := by unfold sN; rw [e1, cl (by omega)]
    have a2 : sN (s0.2 20) k f 1 j = l := by unfold sN; rw [e2, cl (by omega)]
    have a3 : sN (s0.2 20) k f 2 j = d := by unfold sN; rw [e3, cl (by omega)]
    have e : unr (sN (s0.2 20) k f 0) (sN (s0.2 20) k f 1) (sN (s0.2 20) k f 2) (q + 1) j X = unr (sN (s0.2 20) k f 0) (sN (s0.2 20) k f 1) (sN (s0.2 20) k f 2) q (j + 1) (unJ (sN (s0.2 20) k f 0 j) (sN (s0.2 20) k f 1 j) (sN (s0.2 20) k f 2 j) X) := rfl
    rw [e, a1, a2, a3] at hq
    exact hq
/-- WHY over cards c, of the state s -/
abbrev WC (s : St) (mk mf : Nat → Nat) (c : Nat → Int32) (g l d : Nat) : Int32 := whyF (s.2 33) (s.2 32) (s.2 39) c ((mk g).testBit l) ((mf g).testBit l) g l d
theorem wc_range (s : St) (mk mf : Nat → Nat) (c : Nat → Int32) (g l d : Nat) : ∃ j : Nat, j ≤ 8 ∧ WC s mk mf c g l d = nI j := why_range
theorem sub_facts {ww : Int32} (wr : ∃ j : Nat, j ≤ 8 ∧ ww = nI j) : ¬ (-10 : Int32) - ww = 1 ∧ ¬ (-10 : Int32) - ww = -1 ∧ (-20 : Int32) + (-10 - ww) = -30 - ww ∧ ¬ (-30 : Int32) - ww = 0 ∧ (-30 : Int32) - ww < 0 := by
  obtain ⟨wj, hw, rfl⟩ := wr
  have e30 : (-30 : Int32).toInt = -30 := by decide
  have e10 : (-10 : Int32).toInt = -10 := by decide
  have e20 : (-20 : Int32).toInt = -20 := by decide
  have i30 : ((-30 : Int32) - nI wj).toInt = -30 - (wj : Int) := by
    rw [fb_subI (by rw [nI_i (by omega), e30]; omega) (by rw [nI_i (by omega), e30]; omega), nI_i (by omega), e30]
  have i10 : ((-10 : Int32) - nI wj).toInt = -10 - (wj : Int) := by
    rw [fb_subI (by rw [nI_i (by omega), e10]; omega) (by rw [nI_i (by omega), e10]; omega), nI_i (by omega), e10]
  refine ⟨fun z => ?_, fun z => ?_, ?_, fun z => ?_, ?_⟩
  · have := congrArg Int32.toInt z
    have o : (1 : Int32).toInt = 1 := by decide
    omega
  · have := congrArg Int32.toInt z
    have o : (-1 : Int32).toInt = -1 := by decide
    omega
  · apply Int32.toInt_inj.mp
    rw [fb_addI (by rw [i10, e20]; omega) (by rw [i10, e20]; omega), i10, i30, e20]
    omega
  · have := congrArg Int32.toInt z
    have o : (0 : Int32).toInt = 0 := by decide
    omega
  · rw [Int32.lt_iff_toInt_lt, i30]
    show _ < (0 : Int)
    omega
theorem y_whyE {g l d : Nat} (hg : g < 16) (hl : l < 16) (hd : d < 24) {s : St} {Q : Int32 → St → Prop} {mk mf : Nat → Nat} {ww : Int32} (hI1 : ∀ p, s.2 33 p = 0 ∨ s.2 33 p = 1) (hk : s.2 34 (16 * g + l) = if (mk g).testBit l then 1 else 0) (hf : s.2 35 (16 * g + l) = if (mf g).testBit l then 1 else 0) (he : whyF (s.2 33) (s.2 32) (s.2 39) (s.2 37) ((mk g).testBit l) ((mf g).testBit l) g l d = ww) (hq : Q ww s) : wX8_whyNot (nI g) (nI l) (nI d) s Q := y_why hg hl hd hI1 hk hf (he ▸ hq)
theorem x_whyE {n t g l d : Nat} {s sX : St} {e c : Nat → Int32} {m f : Nat → Nat} {ww : Int32} (hN : InvN n t s) (m1 : ∀ i, i < 16 → s.2 5 i = nI (m i)) (f1 : ∀ i, i < 16 → s.2 6 i = nI (f i)) (hC : InvC n (s.2 31) e c) (h3 : sX.2 3 = s.2 3) (h4 : sX.2 4 = s.2 4) (h5 : sX.2 5 = s.2 5) (h6 : sX.2 6 = s.2 6) (h9 : sX.2 9 = s.2 9) (h12 : sX.2 12 = e) (hg : g < n) (hl : l < n) (hd : d < 24) {Q : Int32 → St → Prop} (he : whyF (s.2 33) (s.2 32) (s.2 39) c ((m g).testBit l) ((f g).testBit l) g l d = ww) (hq : Q ww sX) : wX7_reasonAgainst (nI g) (nI l) (nI d) sX Q := x_whyC hN m1 f1 hC h3 h4 h5 h6 h9 h12 hg hl hd (he ▸ hq)
theorem x_scan {n t k m N : Nat} {f : Int32} {s0 : St} {mk mf : Nat → Nat} (hN : InvN n t s0) (m1 : ∀ i, i < 16 → s0.2 5 i = nI (mk i)) (f1 : ∀ i, i < 16 → s0.2 6 i = nI (mf i)) (hk : k < 4) (hs : s0.2 19 k = nI m) (hm : m ≤ 60) (hN2 : N ≤ 20) {Q : Int32 → St → Prop} {A B D : Nat → Nat} {S : Nat → (Nat → Int32) → Int32} (hA : A = sN (s0.2 20) k f 0) (hB : B = sN (s0.2 20) k f 1) (hD : D = sN (s0.2 20) k f 2) (hS : S = sST n k m f (s0.2 20) (s0.2 31) (WC s0 mk mf)) : ∀ q j e c, j + q = N → InvC n (s0.2 31) e c → (j = 0 ∨ (0 ≤ f.toInt ∧ f.toInt ≤ 60)) → (scR S A B D q j c = 0 → Q (nI N) (stC s0 12 (scP S A B D q j c e))) → (¬ scR S A B D q j c = 0 → wX7_takeBack (nI k) f (nI (scJ S A B D q j c)) (stC s0 12 (scP S A B D q j c e)) (fun s => Q (scR S A B D q j c) s)) → wX7_scan_60 (nI k) f (nI N) (nI j) (stC s0 12 e) Q := by
  obtain ⟨h16, n1, n2, p1, -⟩ := id hN.1
  intro q
  induction q with
  | zero =>
    intro j e c hj hC hf h0 h1 P hP
    refine hP _ _ _ _ _ ?_
    try dsimp only
    unfold wX7_scan_60_b
    try dsimp only
    rw [if_pos (by rw [nI_leI (by omega) (by omega)]; omega)]
    exact h0 rfl
  | succ q ih =>
    intro j e c hj hC hf h0 h1 P hP
    refine hP _ _ _ _ _ ?_
    try dsimp only
    unfold wX7_scan_60_b
    try dsimp only
    rw [if_neg (by rw [nI_leI (by omega) (by omega)]; omega)]
    unfold scR scP at h0
    unfold scR scJ scP at h1
    try dsimp only
    unfold wX7_askFromSheet
    try dsimp only
    rw [e_has (s := stC s0 12 e) (cj := 3) (j := 3) (m := m) rfl hk hs hm (by omega), f3 (by omega) hf]
    have q0 : ∀ r : Int32, ¬ r = 0 → r < 0 → S j c = r → (if 0 ≤ r then P (nI k) f (nI N) (nI j + 1) (stC s0 12 e) else wX7_takeBack (nI k) f (nI j) (stC s0 12 e) (fun s12 => Q r s12)) := by
      intro r r0 r1 hr
      try dsimp only
      rw [if_neg (by rw [Int32.lt_iff_toInt_lt] at r1; rw [Int32.le_iff_toInt_le]; omega)]
      have z : ¬ S j c = 0 := by rw [hr]; exact r0
      try dsimp only
      rw [if_neg z, if_neg z, if_neg z, hr] at h1
      exact h1 r0
    by_cases hb : sbd f m j
    · have zi := zz_i hb
      have hz : zz f j + 3 ≤ 60 := by unfold sbd at hb; omega
      try dsimp only
      rw [bi_t (by unfold sbd at hb; exact hb), if_neg (by decide), f3n (by omega) hm hf hb, e_read0 hk (by omega), e_read (c := 1) (o := 1) (z := zz f j) hk (by omega) rfl, e_read (c := 2) (o := 2) (z := zz f j) hk (by omega) rfl, e_asking (s := stC s0 12 e) n1 h16]
      show (if bi (Ask n (s0.2 2) (sv (s0.2 20) k f 0 j) (sv (s0.2 20) k f 1 j) (sv (s0.2 20) k f 2 j)) = 0 then _ else wX7_reasonAgainst (sv (s0.2 20) k f 0 j) (sv (s0.2 20) k f 1 j) (sv (s0.2 20) k f 2 j) (stC s0 12 e) (fun r s => if r = 0 then wX0_join (sv (s0.2 20) k f 0 j) (sv (s0.2 20) k f 1 j) (sv (s0.2 20) k f 2 j) s _ else _))
      rw [p1]
      by_cases ha : Ask n (s0.2 31) (sv (s0.2 20) k f 0 j) (sv (s0.2 20) k f 1 j) (sv (s0.2 20) k f 2 j)
      · try dsimp only
        rw [bi_t ha, if_neg (by decide)]
        obtain ⟨g, l, d, hg, hl, hd, e1, e2, e3, Lg, Ll⟩ := ask_of ha h16
        have a1 : A j = g := by rw [hA]; unfold sN; rw [e1, cl (by omega)]
        have a2 : B j = l := by rw [hB]; unfold sN; rw [e2, cl (by omega)]
        have a3 : D j = d := by rw [hD]; unfold sN; rw [e3, cl (by omega)]
        have eS : S j c = if WC s0 mk mf c g l d = 0 then 0 else -30 - WC s0 mk mf c g l d := by
          rw [hS]; unfold sST; rw [if_pos hb, if_pos ha, e1, e2, e3, cl (by omega), cl (by omega), cl (by omega)]
        rw [e1, e2, e3]
        have wr := wc_range s0 mk mf c g l d
        have wf : WC s0 mk mf c g l d = 0 → c (24 * g + d) = -4 ∧ c (24 * l + d) = -4 := fun h => why_free h
        obtain ⟨ww, hww⟩ : ∃ ww, WC s0 mk mf c g l d = ww := ⟨_, rfl⟩
        refine x_whyE (sX := stC s0 12 e) hN m1 f1 hC rfl rfl rfl rfl rfl rfl hg hl hd hww ?_
        rw [hww] at wr wf eS
        clear hww
        have sf := sub_facts wr
        by_cases w : ww = 0
        · try dsimp only
          rw [if_pos w, e_join (by omega) (by omega) hd, if_pos (by decide), nI_1, st_CC]
          try dsimp only
          rw [if_pos w] at eS
          try dsimp only
          rw [if_pos eS, if_pos eS, a1, a2, a3] at h0
          try dsimp only
          rw [if_pos eS, if_pos eS, if_pos eS, a1, a2, a3] at h1
          obtain ⟨z1, z2⟩ := wf w
          exact ih (j + 1) _ _ (by omega) (hC.pair h16 hg hl hd Lg Ll z1 z2) (Or.inr (by unfold sbd at hb; omega)) h0 h1 P hP
        · try dsimp only
          rw [if_neg w] at eS
          try dsimp only
          rw [if_neg w]
          have s4 := sf.2.2.2.1
          have s5 := sf.2.2.2.2
          clear sf
          generalize (-30 : Int32) - ww = w30 at eS s4 s5 ⊢
          exact q0 w30 s4 s5 eS
      · try dsimp only
        rw [bi_f ha, if_pos rfl]
        exact q0 _ (by decide) (by decide) (by rw [hS]; unfold sST; rw [if_pos hb, if_neg ha])
    · try dsimp only
      rw [bi_f (fun z => hb (by unfold sbd; exact z)), if_pos rfl]
      exact q0 _ (by decide) (by decide) (by rw [hS]; unfold sST; rw [if_neg hb])
theorem e_inL {x hi : Int64} {s : St} {Q : Int32 → St → Prop} : wX8_in x 0 hi s Q = Q (bi (0 ≤ x.toInt ∧ x.toInt ≤ hi.toInt)) s := by
  try dsimp only
  unfold wX8_in
  simp only [lg_lt, lg_gt]
  by_cases h1 : x < 0
  · try dsimp only
    rw [if_pos h1, bi_f]
    rintro ⟨a, b⟩
    rw [Int64.lt_iff_toInt_lt] at h1
    have : (0 : Int64).toInt = 0 := by decide
    omega
  · try dsimp only
    rw [if_neg h1]
    rw [Int64.lt_iff_toInt_lt] at h1
    have z : (0 : Int64).toInt = 0 := by decide
    by_cases h2 : hi < x
    · try dsimp only
      rw [if_pos h2, bi_f]
      rintro ⟨a, b⟩
      rw [Int64.lt_iff_toInt_lt] at h2
      omega
    · try dsimp only
      rw [if_neg h2, bi_t]
      rw [Int64.lt_iff_toInt_lt] at h2
      omega
theorem y_z {f : Int32} {j : Nat} (hj : j ≤ 20) : (f.toInt64 + ((3 : Int32) * nI j).toInt64).toInt = f.toInt + 3 * (j : Int) := by
  have h1 := Int32.le_toInt f
  have h2 := Int32.toInt_lt f
  rw [l_n 3, pk_mul, Int64.toInt_add, Int32.toInt_toInt64, Int32.toInt_toInt64, nI_i (by omega), fb_bmodL (by omega) (by omega)]
  omega
theorem y_zn {f : Int32} {m j : Nat} (hj : j ≤ 20) (hm : m ≤ 60) (hb : sbd f m j) : (f.toInt64 + ((3 : Int32) * nI j).toInt64).toInt32 = nI (zz f j) := by
  have z := zz_i hb
  have zl : zz f j ≤ 60 := by unfold sbd at hb; omega
  apply Int32.toInt_inj.mp
  rw [Int64.toInt_toInt32, y_z hj, nI_i (by omega), fb_bmod (by unfold sbd at hb; omega) (by unfold sbd at hb; omega), z]
theorem y_unr {n k m i N : Nat} {f w : Int32} {sB : St} (h16 : n ≤ 16) (hk : k < 4) (hm : m ≤ 60) (hi : i ≤ 20) (hw : w < 0) (hf : i = 0 ∨ (0 ≤ f.toInt ∧ f.toInt ≤ 60)) {L : Nat → Int32} (ok : ∀ j, j < i → sbd f m j ∧ Ask n L (sv (sB.2 48) k f 0 j) (sv (sB.2 48) k f 1 j) (sv (sB.2 48) k f 2 j)) {Q : Int32 → St → Prop} : ∀ q j X, j + q = i → Q w (stC sB 37 (unr (sN (sB.2 48) k f 0) (sN (sB.2 48) k f 1) (sN (sB.2 48) k f 2) q j X)) → wX8_scan_218 (nI k) f (nI N) w (nI i) (nI j) (stC sB 37 X) Q := by
  have w0 : ¬ 0 ≤ w := by rw [Int32.lt_iff_toInt_lt] at hw; rw [Int32.le_iff_toInt_le]; omega
  intro q
  induction q with
  | zero =>
    intro j X hj hq P hP
    refine hP _ _ _ _ _ _ _ ?_
    try dsimp only
    unfold wX8_scan_218_b
    try dsimp only
    rw [if_pos (by rw [nI_leI (by omega) (by omega)]; omega)]
    try dsimp only
    unfold wX8_scan_278
    try dsimp only
    rw [if_neg w0]
    exact hq
  | succ q ih =>
    intro j X hj hq P hP
    refine hP _ _ _ _ _ _ _ ?_
    try dsimp only
    unfold wX8_scan_218_b
    obtain ⟨hb, ha⟩ := ok j (by omega)
    have zi := zz_i hb
    have hz : zz f j + 3 ≤ 60 := by unfold sbd at hb; omega
    obtain ⟨g, l, d, hg, hl, hd, e1, e2, e3, Lg, Ll⟩ := ask_of ha h16
    try dsimp only
    rw [if_neg (by rw [nI_leI (by omega) (by omega)]; omega), if_neg w0, Int32.add_assoc, f3n (by omega) hm (by omega) hb, ix60, show nI (60 * k + zz f j) + 1 = nI (60 * k + zz f j + 1) from nI_add _ _, show nI (60 * k + zz f j) + 2 = nI (60 * k + zz f j + 2) from nI_add _ _, gn (by omega), gn (by omega), gn (by omega)]
    refine ⟨vin (by omega) (by omega), vin (by omega) (by omega), vin (by omega) (by omega), ?_⟩
    show wX8_uncouple (sv (sB.2 48) k f 0 j) (sv (sB.2 48) k f 1 j) (sv (sB.2 48) k f 2 j) (stC sB 37 X) _
    rw [e1, e2, e3, e_unc (by omega) (by omega) hd, nI_1, st_CC]
    refine ih (j + 1) _ (by omega) ?_ P hP
    have a1 : sN (sB.2 48) k f 0 j = g := by unfold sN; rw [e1, cl (by omega)]
    have a2 : sN (sB.2 48) k f 1 j = l := by unfold sN; rw [e2, cl (by omega)]
    have a3 : sN (sB.2 48) k f 2 j = d := by unfold sN; rw [e3, cl (by omega)]
    have e : unr (sN (sB.2 48) k f 0) (sN (sB.2 48) k f 1) (sN (sB.2 48) k f 2) (q + 1) j X = unr (sN (sB.2 48) k f 0) (sN (sB.2 48) k f 1) (sN (sB.2 48) k f 2) q (j + 1) (unJ (sN (sB.2 48) k f 0 j) (sN (sB.2 48) k f 1 j) (sN (sB.2 48) k f 2 j) X) := rfl
    rw [e, a1, a2, a3] at hq
    exact hq
theorem y_scan {n k m N : Nat} {f : Int32} {sB : St} {mk mf : Nat → Nat} (h16 : n ≤ 16) (n2 : gF sB 3000 = nI n) (hI : ∀ p, sB.2 33 p = 0 ∨ sB.2 33 p = 1) (m3 : ∀ i j, i < 16 → j < 16 → sB.2 34 (16 * i + j) = if (mk i).testBit j then 1 else 0) (f3' : ∀ i j, i < 16 → j < 16 → sB.2 35 (16 * i + j) = if (mf i).testBit j then 1 else 0) (hk : k < 4) (hs : sB.2 47 k = nI m) (hm : m ≤ 60) (hN2 : N ≤ 20) {Q : Int32 → St → Prop} {A B D : Nat → Nat} {S : Nat → (Nat → Int32) → Int32} (hA : A = sN (sB.2 48) k f 0) (hB : B = sN (sB.2 48) k f 1) (hD : D = sN (sB.2 48) k f 2) (hS : S = sST n k m f (sB.2 48) (sB.2 31) (WC sB mk mf)) : ∀ q j c, j + q = N → (scR S A B D q j c = 0 → Q (nI N) (stC sB 37 (scP S A B D q j c c))) → (¬ scR S A B D q j c = 0 → scR S A B D q j c < 0 → wX8_scan_218 (nI k) f (nI N) (scR S A B D q j c) (nI (scJ S A B D q j c)) 0 (stC sB 37 (scP S A B D q j c c)) Q) → wX8_scan_77 (nI k) f (nI N) 0 (nI j) (nI j) (stC sB 37 c) Q := by
  intro q
  induction q with
  | zero =>
    intro j c hj h0 h1 P hP
    refine hP _ _ _ _ _ _ _ ?_
    try dsimp only
    unfold wX8_scan_77_b
    try dsimp only
    rw [if_pos (by rw [nI_leI (by omega) (by omega)]; omega)]
    intro P' hP'
    refine hP' _ _ _ _ _ _ _ ?_
    try dsimp only
    unfold wX8_scan_218_b wX8_scan_278
    have e0 : (0 : Int32) ≤ 0 := by decide
    try dsimp only
    rw [if_pos e0, if_pos e0, ite_self]
    exact h0 rfl
  | succ q ih =>
    intro j c hj h0 h1 P hP
    refine hP _ _ _ _ _ _ _ ?_
    try dsimp only
    unfold wX8_scan_77_b
    try dsimp only
    rw [if_neg (by rw [nI_leI (by omega) (by omega)]; omega), if_pos rfl, e_inL, y_z (by omega)]
    unfold scR scP at h0
    unfold scR scJ scP at h1
    have em : ((gA (stC sB 37 c) 47 (nI k) - 3).toInt64).toInt = (m : Int) - 3 := by
      try dsimp only
      rw [gn (by omega), g_CA, if_neg (by decide), hs, Int32.toInt_toInt64]
      have e3 : (3 : Int32).toInt = 3 := by decide
      rw [fb_subI (by rw [nI_i (by omega), e3]; omega) (by rw [nI_i (by omega), e3]; omega), nI_i (by omega), e3]
    rw [em]
    refine ⟨vin hk (by omega), ?_⟩
    have q0 : ∀ r : Int32, ¬ r = 0 → r < 0 → S j c = r → P (nI k) f (nI N) r (nI j) (nI j + 1) (stC sB 37 c) := by
      intro r r0 r1 hr
      refine hP _ _ _ _ _ _ _ ?_
      try dsimp only
      unfold wX8_scan_77_b
      have z : ¬ S j c = 0 := by rw [hr]; exact r0
      try dsimp only
      rw [if_neg z, if_neg z, if_neg z, hr] at h1
      try dsimp only
      rw [if_neg r0, ite_self]
      exact h1 r0 r1
    by_cases hb : sbd f m j
    · have zi := zz_i hb
      have hz : zz f j + 3 ≤ 60 := by unfold sbd at hb; omega
      try dsimp only
      rw [bi_t (by unfold sbd at hb; omega), if_neg (by decide), y_zn (by omega) hm hb, ix60, show nI (60 * k + zz f j) + 1 = nI (60 * k + zz f j + 1) from nI_add _ _, show nI (60 * k + zz f j) + 2 = nI (60 * k + zz f j + 2) from nI_add _ _, gn (by omega), gn (by omega), gn (by omega)]
      refine ⟨vin (by omega) (by omega), vin (by omega) (by omega), vin (by omega) (by omega), ?_⟩
      show wX8_ask (sv (sB.2 48) k f 0 j) (sv (sB.2 48) k f 1 j) (sv (sB.2 48) k f 2 j) (stC sB 37 c) _
      try dsimp only
      unfold wX8_ask
      try dsimp only
      rw [e_couple (s := stC sB 37 c) n2 h16]
      show (if bi (Ask n (sB.2 31) (sv (sB.2 48) k f 0 j) (sv (sB.2 48) k f 1 j) (sv (sB.2 48) k f 2 j)) = 0 then _ else _)
      by_cases ha : Ask n (sB.2 31) (sv (sB.2 48) k f 0 j) (sv (sB.2 48) k f 1 j) (sv (sB.2 48) k f 2 j)
      · try dsimp only
        rw [bi_t ha, if_neg (by decide)]
        obtain ⟨g, l, d, hg, hl, hd, e1, e2, e3, Lg, Ll⟩ := ask_of ha h16
        have a1 : A j = g := by rw [hA]; unfold sN; rw [e1, cl (by omega)]
        have a2 : B j = l := by rw [hB]; unfold sN; rw [e2, cl (by omega)]
        have a3 : D j = d := by rw [hD]; unfold sN; rw [e3, cl (by omega)]
        have eS : S j c = if WC sB mk mf c g l d = 0 then 0 else -30 - WC sB mk mf c g l d := by
          rw [hS]; unfold sST; rw [if_pos hb, if_pos ha, e1, e2, e3, cl (by omega), cl (by omega), cl (by omega)]
        rw [e1, e2, e3]
        have wr := wc_range sB mk mf c g l d
        have wl : (WC sB mk mf c g l d ≤ 0) = (WC sB mk mf c g l d = 0) := why_le0
        obtain ⟨ww, hww⟩ : ∃ ww, WC sB mk mf c g l d = ww := ⟨_, rfl⟩
        refine y_whyE (s := stC sB 37 c) (mk := mk) (mf := mf) (by omega) (by omega) hd hI (m3 g l (by omega) (by omega)) (f3' g l (by omega) (by omega)) hww ?_
        rw [hww] at wr wl eS
        clear hww
        have sf := sub_facts wr
        by_cases w : ww = 0
        · try dsimp only
          rw [if_pos (wl.mpr w), e_couple2 (by omega) (by omega) hd, if_pos rfl]
          try dsimp only
          unfold wX8_scan_191
          try dsimp only
          rw [if_pos rfl, nI_1, st_CC]
          try dsimp only
          rw [if_pos w] at eS
          try dsimp only
          rw [if_pos eS, if_pos eS, a1, a2, a3] at h0
          try dsimp only
          rw [if_pos eS, if_pos eS, if_pos eS, a1, a2, a3] at h1
          exact ih (j + 1) _ (by omega) h0 h1 P hP
        · try dsimp only
          rw [if_neg (fun z => w (wl.mp z))]
          try dsimp only
          rw [if_neg w] at eS
          try dsimp only
          rw [if_neg sf.1, if_neg sf.2.1]
          try dsimp only
          unfold wX8_scan_191
          try dsimp only
          rw [if_neg sf.1, Int32.add_zero, sf.2.2.1]
          exact q0 _ sf.2.2.2.1 sf.2.2.2.2 eS
      · try dsimp only
        rw [bi_f ha, if_pos rfl, if_neg (by decide), if_pos rfl]
        try dsimp only
        unfold wX8_scan_191
        try dsimp only
        rw [if_neg (by decide), Int32.add_zero]
        exact q0 _ (by decide) (by decide) (by rw [hS]; unfold sST; rw [if_pos hb, if_neg ha])
    · try dsimp only
      rw [bi_f (fun z => hb (by unfold sbd; omega)), if_pos rfl]
      exact q0 _ (by decide) (by decide) (by rw [hS]; unfold sST; rw [if_neg hb])
theorem op_scan (a b c d : Int32) : Op (fun Q s => wX7_scan a b c d s Q) (fun Q s => wX8_scan a b c d s Q) := by
  intro s hI K hK
  obtain ⟨n, t, hN⟩ := id hI
  obtain ⟨h16, n1, n2, p1, p2, p3, p4, p5, p6⟩ := id hN.1
  obtain ⟨hP, hB, hF, hC, hT, hX, hZ, hQ⟩ := id hN
  obtain ⟨mk, m1, m2, m3, m4, m5⟩ := id hB
  obtain ⟨mf, f1, f2, f3', f4, f5⟩ := id hF
  show wX7_scan a b c d s _
  try dsimp only
  unfold wX7_scan
  try dsimp only
  rw [e_sheet4]
  -- the model where a word is out of range
  have bad : ¬ (vp_in a 4 ∧ vp_in b 3 ∧ vp_in d 21) → wX8_scan a b c d s (fun r' s2 => K (-1) r' s2) := by
    intro h
    try dsimp only
    unfold wX8_scan
    try dsimp only
    rw [e_in (m := 4) rfl (by decide) (by decide)]
    by_cases x : vp_in a 4
    · try dsimp only
      rw [bi_t x, if_neg (by decide), e_in (m := 3) rfl (by decide) (by decide)]
      by_cases y : vp_in b 3
      · try dsimp only
        rw [bi_t y, if_neg (by decide), e_in (m := 21) rfl (by decide) (by decide), bi_f (fun z => h ⟨x, y, z⟩), if_pos rfl]
        exact hK _ _ hI
      · try dsimp only
        rw [bi_f y, if_pos rfl]; exact hK _ _ hI
    · try dsimp only
      rw [bi_f x, if_pos rfl]; exact hK _ _ hI
  by_cases x : vp_in a 4
  · try dsimp only
    rw [bi_t x, if_neg (by decide), e_lane]
    by_cases y : vp_in b 3
    · try dsimp only
      rw [bi_t y, if_neg (by decide), e_within (m := 21) (by decide)]
      by_cases z : vp_in d 21
      · try dsimp only
        rw [bi_t z, if_neg (by decide)]
        obtain ⟨k, hk, rfl⟩ := vp_in_of x (by decide)
        obtain ⟨l, hl, rfl⟩ := vp_in_of y (by decide)
        obtain ⟨N, hN2, rfl⟩ := vp_in_of z (by decide)
        try dsimp only
        unfold wX4_isSomething
        try dsimp only
        rw [gn (by omega)]
        -- the model behind the ranges
        have mod : ∀ (r : Int32) (s1 : St), (if s1.2 46 k = nI l then wX8_scan_77 (nI k) c (nI N) 0 0 0 s1 (fun r' s2 => K r r' s2) else (if s1.2 46 k = -4 then K r (-21) s1 else K r (-23) s1)) → wX8_scan (nI k) (nI l) c (nI N) s1 (fun r' s2 => K r r' s2) := by
          intro r s1 hq
          try dsimp only
          unfold wX8_scan
          try dsimp only
          rw [e_in (m := 4) rfl (by decide) (by decide), bi_t x, if_neg (by decide), e_in (m := 3) rfl (by decide) (by decide), bi_t y, if_neg (by decide), e_in (m := 21) rfl (by decide) (by decide), bi_t z, if_neg (by decide), gn (by omega)]
          refine ⟨x, ?_⟩
          by_cases w : s1.2 46 k = nI l
          · try dsimp only
            rw [if_pos w] at hq ⊢; exact hq
          · try dsimp only
            rw [if_neg w] at hq ⊢; exact ⟨x, hq⟩
        refine ⟨x, ?_⟩
        rcases hZ.1 k hk with ⟨h19, h46⟩ | ⟨l', m, hl', hm, h18, h46, h19, h47⟩
        · try dsimp only
          rw [if_pos h19, if_pos rfl]
          refine mod _ _ ?_
          try dsimp only
          rw [if_neg (by rw [h46]; exact m4_ne (by omega)), if_pos h46]
          exact hK _ _ hI
        · try dsimp only
          rw [if_neg (by rw [h19]; exact m4_ne' (by omega)), if_neg (by decide), gn (by omega), h18]
          refine ⟨x, ?_⟩
          by_cases hll : l' = l
          · subst hll
            try dsimp only
            rw [if_pos rfl]
            generalize hA : sN (s.2 20) k c 0 = A
            generalize hB' : sN (s.2 20) k c 1 = B
            generalize hD : sN (s.2 20) k c 2 = D
            generalize hS : sST n k m c (s.2 20) (s.2 31) (WC s mk mf) = S
            have hok := sST_ok (n := n) (k := k) (m := m) (f := c) (v := s.2 20) (L := s.2 31) (W := WC s mk mf) h16 (fun _ _ _ _ => why_range) (fun _ _ _ _ h => why_free h)
            rw [hS, hA, hB', hD] at hok
            have hok2 := sST_ok2 (n := n) (k := k) (m := m) (f := c) (v := s.2 20) (L := s.2 31) (W := WC s mk mf)
            rw [hS] at hok2
            have go := x_scan (N := N) (f := c) hN m1 f1 hk h19 hm (by omega) (Q := fun r s1 => wX8_scan (nI k) (nI l') c (nI N) s1 (fun r' s2 => K r r' s2)) hA.symm hB'.symm hD.symm hS.symm N 0 (s.2 12) (s.2 37) (by omega) hC (Or.inl rfl)
            rw [st_self] at go
            have okJ : ∀ j, j < scJ S A B D N 0 (s.2 37) → sbd c m j ∧ Ask n (s.2 31) (sv (s.2 20) k c 0 j) (sv (s.2 20) k c 1 j) (sv (s.2 20) k c 2 j) := fun j hj => sc_ok (R := fun j => sbd c m j ∧ Ask n (s.2 31) (sv (s.2 20) k c 0 j) (sv (s.2 20) k c 1 j) (sv (s.2 20) k c 2 j)) hok2 N 0 (s.2 37) j (by omega) hj
            have okF : scJ S A B D N 0 (s.2 37) = 0 ∨ (0 ≤ c.toInt ∧ c.toInt ≤ 60) := by
              by_cases j0 : scJ S A B D N 0 (s.2 37) = 0
              · exact Or.inl j0
              · have := (okJ 0 (by omega)).1
                unfold sbd at this
                exact Or.inr (by omega)
            have jl := scJ_le (st := S) (A := A) (B := B) (D := D) N 0 (s.2 37)
            have my := fun (sB : St) (n2 : gF sB 3000 = nI n) (hb : ∀ x, 30 ≤ x → sB.2 x = s.2 x) (Q : Int32 → St → Prop) => y_scan (N := N) (f := c) (sB := sB) (mk := mk) (mf := mf) (m := m) (Q := Q) (A := A) (B := B) (D := D) (S := S) h16 n2 (by rw [hb 33 (by omega)]; exact p5) (by rw [hb 34 (by omega)]; exact m3) (by rw [hb 35 (by omega)]; exact f3') hk (by rw [hb 47 (by omega)]; exact h47) hm (by omega) (by rw [hb 48 (by omega), ← hZ.2]; exact hA.symm) (by rw [hb 48 (by omega), ← hZ.2]; exact hB'.symm) (by rw [hb 48 (by omega), ← hZ.2]; exact hD.symm) (by rw [hb 48 (by omega), hb 31 (by omega), ← hZ.2, ← hS]; unfold WC; rw [hb 33 (by omega), hb 32 (by omega), hb 39 (by omega)]) N 0
            refine go (fun h0 => ?_) (fun h0 => ?_)
            · refine mod _ _ ?_
              try dsimp only
              rw [if_pos (show (stC s 12 (scP S A B D N 0 (s.2 37) (s.2 12))).2 46 k = nI l' from h46)]
              have w := my (stC s 12 (scP S A B D N 0 (s.2 37) (s.2 12))) n2 (fun x hx => by rw [g_CA, if_neg (by omega)]) (fun r' s2 => K (nI N) r' s2) (s.2 37) (by omega) (fun _ => ?_) (fun hh => absurd h0 hh)
              · rw [show stC (stC s 12 (scP S A B D N 0 (s.2 37) (s.2 12))) 37 (s.2 37) = stC s 12 (scP S A B D N 0 (s.2 37) (s.2 12)) from st_self (s := stC s 12 (scP S A B D N 0 (s.2 37) (s.2 12))) (k := 37)] at w
                exact w
              · exact hK _ _ ⟨n, t, hP, hB, hF, scP_inv h16 hok N 0 (s.2 37) (s.2 12) hC, hT, hX, hZ, hQ⟩
            · try dsimp only
              unfold wX7_takeBack
              refine x_tb (n := n) (m := m) (i := scJ S A B D N 0 (s.2 37)) (L := s.2 31) h16 hk hm (by omega) okF okJ (scJ S A B D N 0 (s.2 37)) 0 _ (by omega) ?_
              rw [hA, hB', hD]
              have ub := fun e he => un_back (n := n) (st := S) (A := A) (B := B) (D := D) (fun j c h => by obtain ⟨h1, h2, h3, h4, h5, -⟩ := hok j c h; exact ⟨h1, h2, h3, h4, h5⟩) N 0 (s.2 37) e he
              rw [Nat.sub_zero] at ub
              rw [ub _ (fun p d hp hd => hC.1 p d hp hd), st_self]
              refine mod _ _ ?_
              try dsimp only
              rw [if_pos h46]
              have w := my s n2 (fun x hx => rfl) (fun r' s2 => K (scR S A B D N 0 (s.2 37)) r' s2) (s.2 37) (by omega) (fun hh => absurd hh h0) (fun _ hneg => ?_)
              · rw [st_self] at w
                exact w
              · refine y_unr (n := n) (m := m) (sB := s) (L := s.2 31) h16 hk hm (by omega) hneg okF (by rw [← hZ.2]; exact okJ) (scJ S A B D N 0 (s.2 37)) 0 _ (by omega) ?_
                rw [← hZ.2, hA, hB', hD, ub _ (fun p d hp hd => rfl), st_self]
                exact hK _ _ hI
          · try dsimp only
            rw [if_neg (by rw [nI_eq (by omega) (by omega)]; exact hll)]
            refine mod _ _ ?_
            try dsimp only
            rw [if_neg (by rw [h46, nI_eq (by omega) (by omega)]; exact hll), if_neg (by rw [h46]; exact m4_ne' (by omega))]
            exact hK _ _ hI
      · try dsimp only
        rw [bi_f z, if_pos rfl]
        exact bad (fun h => z h.2.2)
    · try dsimp only
      rw [bi_f y, if_pos rfl]
      exact bad (fun h => y h.2.1)
  · try dsimp only
    rw [bi_f x, if_pos rfl]
    exact bad (fun h => x h.1)
