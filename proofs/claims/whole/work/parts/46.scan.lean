/-! scan -/
def prJ (g l d : Nat) (f : Nat → Int32) : Nat → Int32 := upd (upd f (24 * g + d) (nI l)) (24 * l + d) (nI g)
def unJ (g l d : Nat) (f : Nat → Int32) : Nat → Int32 := upd (upd f (24 * g + d) (-4)) (24 * l + d) (-4)
def scR (st : Nat → (Nat → Int32) → Int32) (A B D : Nat → Nat) : Nat → Nat → (Nat → Int32) → Int32
  | 0, _, _ => 0
  | m + 1, j, c => if st j c = 0 then scR st A B D m (j + 1) (prJ (A j) (B j) (D j) c) else st j c
def scJ (st : Nat → (Nat → Int32) → Int32) (A B D : Nat → Nat) : Nat → Nat → (Nat → Int32) → Nat
  | 0, j, _ => j
  | m + 1, j, c => if st j c = 0 then scJ st A B D m (j + 1) (prJ (A j) (B j) (D j) c) else j
def scP (st : Nat → (Nat → Int32) → Int32) (A B D : Nat → Nat) : Nat → Nat → (Nat → Int32) → (Nat → Int32) → (Nat → Int32)
  | 0, _, _, e => e
  | m + 1, j, c, e => if st j c = 0 then scP st A B D m (j + 1) (prJ (A j) (B j) (D j) c) (prJ (A j) (B j) (D j) e) else e
def unr (A B D : Nat → Nat) : Nat → Nat → (Nat → Int32) → (Nat → Int32)
  | 0, _, f => f
  | m + 1, j, f => unr A B D m (j + 1) (unJ (A j) (B j) (D j) f)
theorem unJ_comm {g l d g' l' d' : Nat} {f : Nat → Int32} : unJ g l d (unJ g' l' d' f) = unJ g' l' d' (unJ g l d f) := by
  funext x
  unfold unJ upd
  repeat' split
  all_goals rfl
theorem unr_comm {A B D : Nat → Nat} {g l d : Nat} : ∀ m j f, unr A B D m j (unJ g l d f) = unJ g l d (unr A B D m j f) := by
  intro m
  induction m with
  | zero => intro j f; rfl
  | succ m ih => intro j f; show unr A B D m (j + 1) _ = unJ g l d (unr A B D m (j + 1) _); rw [unJ_comm, ih]
theorem un_pr {g l d : Nat} {f : Nat → Int32} (h1 : f (24 * g + d) = -4) (h2 : f (24 * l + d) = -4) : unJ g l d (prJ g l d f) = f := by
  funext x
  unfold unJ prJ upd
  split
  · rename_i h; rw [h, h2]
  · split
    · rename_i h; rw [h, h1]
    · rfl
theorem pr_agree {n g l d : Nat} {e c : Nat → Int32} (h : ∀ p d, p < n → d < 24 → e (24 * p + d) = c (24 * p + d)) : ∀ p d', p < n → d' < 24 → prJ g l d e (24 * p + d') = prJ g l d c (24 * p + d') := by
  intro p d' hp hd
  unfold prJ upd
  split
  · rfl
  · split
    · rfl
    · exact h p d' hp hd
theorem scJ_ge {st : Nat → (Nat → Int32) → Int32} {A B D : Nat → Nat} : ∀ m j c, j ≤ scJ st A B D m j c := by
  intro m
  induction m with
  | zero => intro j c; exact Nat.le_refl _
  | succ m ih =>
    intro j c
    unfold scJ
    split
    · exact Nat.le_trans (Nat.le_succ j) (ih (j + 1) _)
    · exact Nat.le_refl _
theorem scJ_le {st : Nat → (Nat → Int32) → Int32} {A B D : Nat → Nat} : ∀ m j c, scJ st A B D m j c ≤ j + m := by
  intro m
  induction m with
  | zero => intro j c; exact Nat.le_refl _
  | succ m ih =>
    intro j c
    unfold scJ
    split
    · have := ih (j + 1) (prJ (A j) (B j) (D j) c); omega
    · omega
theorem un_back {n : Nat} {st : Nat → (Nat → Int32) → Int32} {A B D : Nat → Nat} (h : ∀ j c, st j c = 0 → A j < n ∧ B j < n ∧ D j < 24 ∧ c (24 * A j + D j) = -4 ∧ c (24 * B j + D j) = -4) : ∀ m j c e, (∀ p d, p < n → d < 24 → e (24 * p + d) = c (24 * p + d)) → unr A B D (scJ st A B D m j c - j) j (scP st A B D m j c e) = e := by
  intro m
  induction m with
  | zero => intro j c e _; show unr A B D (j - j) j e = e; rw [Nat.sub_self]; rfl
  | succ m ih =>
    intro j c e hec
    unfold scJ scP
    by_cases z : st j c = 0
    · try dsimp only
      rw [if_pos z, if_pos z]
      obtain ⟨h1, h2, h3, h4, h5⟩ := h j c z
      have q := scJ_ge (st := st) (A := A) (B := B) (D := D) m (j + 1) (prJ (A j) (B j) (D j) c)
      obtain ⟨w, hw⟩ : ∃ w, scJ st A B D m (j + 1) (prJ (A j) (B j) (D j) c) - j = w + 1 := ⟨scJ st A B D m (j + 1) (prJ (A j) (B j) (D j) c) - j - 1, by omega⟩
      have hw2 : scJ st A B D m (j + 1) (prJ (A j) (B j) (D j) c) - (j + 1) = w := by omega
      have i := ih (j + 1) _ _ (pr_agree (g := A j) (l := B j) (d := D j) hec)
      rw [hw2] at i
      rw [hw]
      show unr A B D w (j + 1) (unJ (A j) (B j) (D j) _) = e
      rw [unr_comm, i]
      exact un_pr (by rw [hec _ _ h1 h3]; exact h4) (by rw [hec _ _ h2 h3]; exact h5)
    · try dsimp only
      rw [if_neg z, if_neg z, Nat.sub_self]; rfl
theorem sc_ok {st : Nat → (Nat → Int32) → Int32} {A B D : Nat → Nat} {R : Nat → Prop} (h : ∀ j c, st j c = 0 → R j) : ∀ m j c t, j ≤ t → t < scJ st A B D m j c → R t := by
  intro m
  induction m with
  | zero => intro j c t h1 h2; unfold scJ at h2; omega
  | succ m ih =>
    intro j c t h1 h2
    unfold scJ at h2
    by_cases z : st j c = 0
    · try dsimp only
      rw [if_pos z] at h2
      by_cases e : t = j
      · rw [e]; exact h j c z
      · exact ih (j + 1) _ t (by omega) h2
    · try dsimp only
      rw [if_neg z] at h2; omega
theorem scP_inv {n : Nat} {L : Nat → Int32} (h16 : n ≤ 16) {st : Nat → (Nat → Int32) → Int32} {A B D : Nat → Nat} (h : ∀ j c, st j c = 0 → A j < n ∧ B j < n ∧ D j < 24 ∧ c (24 * A j + D j) = -4 ∧ c (24 * B j + D j) = -4 ∧ L (A j) = 0 ∧ ¬ L (B j) = 0) : ∀ m j c e, InvC n L e c → InvC n L (scP st A B D m j c e) (scP st A B D m j c c) := by
  intro m
  induction m with
  | zero => intro j c e hc; exact hc
  | succ m ih =>
    intro j c e hc
    unfold scP
    by_cases z : st j c = 0
    · try dsimp only
      rw [if_pos z, if_pos z]
      obtain ⟨h1, h2, h3, h4, h5, h6, h7⟩ := h j c z
      exact ih (j + 1) _ _ (hc.pair h16 h1 h2 h3 h6 h7 h4 h5)
    · try dsimp only
      rw [if_neg z, if_neg z]; exact hc
/-- the place of the j-th asking, its three numbers, its answer -/
def zz (f : Int32) (j : Nat) : Nat := (f.toInt + 3 * (j : Int)).toNat
def sbd (f : Int32) (m j : Nat) : Prop := 0 ≤ f.toInt + 3 * (j : Int) ∧ f.toInt + 3 * (j : Int) + 3 ≤ (m : Int)
def sv (v : Nat → Int32) (k : Nat) (f : Int32) (o j : Nat) : Int32 := v (60 * k + zz f j + o)
open Classical in
noncomputable def sST (n k m : Nat) (f : Int32) (v L : Nat → Int32) (W : (Nat → Int32) → Nat → Nat → Nat → Int32) (j : Nat) (c : Nat → Int32) : Int32 :=
  if sbd f m j then (if Ask n L (sv v k f 0 j) (sv v k f 1 j) (sv v k f 2 j) then (if W c (sv v k f 0 j).toNatClampNeg (sv v k f 1 j).toNatClampNeg (sv v k f 2 j).toNatClampNeg = 0 then 0 else -30 - W c (sv v k f 0 j).toNatClampNeg (sv v k f 1 j).toNatClampNeg (sv v k f 2 j).toNatClampNeg) else -30) else -22
def sN (v : Nat → Int32) (k : Nat) (f : Int32) (o j : Nat) : Nat := (sv v k f o j).toNatClampNeg
theorem zz_i {f : Int32} {m j : Nat} (h : sbd f m j) : ((zz f j : Nat) : Int) = f.toInt + 3 * (j : Int) := by
  unfold zz; unfold sbd at h; omega
theorem f3 {f : Int32} {j : Nat} (hj : j ≤ 20) (h : j = 0 ∨ (0 ≤ f.toInt ∧ f.toInt ≤ 60)) : (f + (3 : Int32) * nI j).toInt = f.toInt + 3 * (j : Int) := by
  rw [l_n 3, pk_mul]
  rcases h with rfl | ⟨h1, h2⟩
  · show (f + 0).toInt = _
    rw [Int32.add_zero]; omega
  · rw [Int32.toInt_add, nI_i (by omega), fb_bm (by omega) (by omega)]; omega
