/-! placings of couples: f the set of each couple, q who quarrels with whom -/
def nct (f : Nat → Nat) (s i : Nat) : Nat := fb_ct (fun k => decide (f k = s)) i
def okc (q : Nat → Nat → Prop) (f : Nat → Nat) (i : Nat) : Prop := nct f (f i) i < 4 ∧ ∀ k, k < i → f k = f i → ¬ q k i
def vld (q : Nat → Nat → Prop) (n i : Nat) (f : Nat → Nat) : Prop := ∀ j, j < i → f j < n ∧ okc q f j
def LL (q : Nat → Nat → Prop) (n K i : Nat) (f g : Nat → Nat) : Prop := vld q n K g ∧ (∀ j, j < i → g j = f j) ∧ ∀ f', vld q n K f' → (∀ j, j < i → f' j = f j) → (∀ j, j < K → f' j = g j) ∨ ∃ j, j < K ∧ (∀ k, k < j → f' k = g k) ∧ g j < f' j
def NX (q : Nat → Nat → Prop) (n K i : Nat) (f : Nat → Nat) : Prop := ∀ f', vld q n K f' → ¬ ∀ j, j < i → f' j = f j
theorem nct_cong {f g : Nat → Nat} {s i : Nat} (h : ∀ k, k < i → f k = g k) : nct f s i = nct g s i := fb_ct_cong (fun k hk => by rw [h k hk])
theorem okc_cong {q : Nat → Nat → Prop} {f g : Nat → Nat} {i : Nat} (h : ∀ k, k ≤ i → f k = g k) (hf : okc q f i) : okc q g i := by
  obtain ⟨a, b⟩ := hf
  refine ⟨?_, fun k hk e => b k hk ?_⟩
  · rw [← h i (Nat.le_refl i), ← nct_cong (fun k hk => h k (by omega))]; exact a
  · rw [h k (by omega), h i (Nat.le_refl i)]; exact e
theorem vld_cong {q : Nat → Nat → Prop} {n i : Nat} {f g : Nat → Nat} (h : ∀ k, k < i → f k = g k) (hf : vld q n i f) : vld q n i g := fun j hj => ⟨by rw [← h j hj]; exact (hf j hj).1, okc_cong (fun k hk => h k (by omega)) (hf j hj).2⟩
theorem vld.le {q : Nat → Nat → Prop} {n i j : Nat} {f : Nat → Nat} (h : vld q n i f) (hj : j ≤ i) : vld q n j f := fun k hk => h k (by omega)
theorem LL.one {q : Nat → Nat → Prop} {n K : Nat} {f f' g g' : Nat → Nat} (h : LL q n K 0 f g) (h' : LL q n K 0 f' g') : ∀ j, j < K → g j = g' j := by
  rcases h.2.2 g' h'.1 (fun j hj => absurd hj (by omega)) with a | ⟨j, j1, j2, j3⟩
  · exact fun j hj => (a j hj).symm
  · rcases h'.2.2 g h.1 (fun j hj => absurd hj (by omega)) with b | ⟨k, k1, k2, k3⟩
    · exact b
    · by_cases c : j < k
      · have := k2 j c; omega
      · by_cases e : k < j
        · have := j2 k e; omega
        · have : k = j := by omega
          subst this; omega
def swp (a b x : Nat) : Nat := if x = a then b else if x = b then a else x
theorem swp_inj {a b x y : Nat} (h : swp a b x = swp a b y) : x = y := by
  unfold swp at h
  repeat' split at h
  all_goals omega
theorem swp_lt {a b x n : Nat} (ha : a < n) (hb : b < n) (hx : x < n) : swp a b x < n := by
  unfold swp
  repeat' split
  all_goals omega
theorem swp_l {a b : Nat} : swp a b a = b := if_pos rfl
theorem swp_r {a b : Nat} : swp a b b = a := by
  unfold swp
  by_cases h : b = a
  · try dsimp only
    rw [if_pos h]; exact h
  · try dsimp only
    rw [if_neg h, if_pos rfl]
theorem swp_o {a b x : Nat} (h1 : x ≠ a) (h2 : x ≠ b) : swp a b x = x := by unfold swp; rw [if_neg h1, if_neg h2]
theorem vld_inj {q : Nat → Nat → Prop} {n n' i : Nat} {f : Nat → Nat} {σ : Nat → Nat} (hs : ∀ x y, σ x = σ y → x = y) (hb : ∀ j, j < i → σ (f j) < n') (h : vld q n i f) : vld q n' i (fun j => σ (f j)) := by
  intro j hj
  obtain ⟨-, h2, h3⟩ := h j hj
  refine ⟨hb j hj, ?_, fun k hk e => h3 k hk (hs _ _ e)⟩
  have : nct (fun j => σ (f j)) (σ (f j)) j = nct f (f j) j := fb_ct_cong (fun k hk => by
    by_cases e : f k = f j
    · rw [decide_eq_true e]; exact decide_eq_true (show σ (f k) = σ (f j) by rw [e])
    · rw [decide_eq_false e]; exact decide_eq_false (fun z => e (hs _ _ z)))
  rw [this]; exact h2
/-- an empty set is as good as any behind it -/
theorem NX_swap {q : Nat → Nat → Prop} {n K i s s' : Nat} {f f' : Nat → Nat} (hs : s < n) (h1 : ∀ k, k < i → f k ≠ s) (h2 : ∀ k, k < i → f k ≠ s') (hv : vld q n K f') (he : ∀ j, j < i → f' j = f j) (hi : i < K) (h' : f' i = s') : ∃ f'', vld q n K f'' ∧ (∀ j, j < i → f'' j = f j) ∧ f'' i = s := by
  have hs' : s' < n := by rw [← h']; exact (hv i hi).1
  refine ⟨fun j => swp s s' (f' j), vld_inj (fun x y => swp_inj) (fun j hj => swp_lt hs hs' (hv j hj).1) hv, fun j hj => ?_, ?_⟩
  · show swp s s' (f' j) = f j
    rw [he j hj, swp_o (h1 j hj) (h2 j hj)]
  · show swp s s' (f' i) = s
    rw [h', swp_r]
/-- each couple for itself, where fewer sets won't do -/
theorem LL_id {q : Nat → Nat → Prop} {K : Nat} (hK : 0 < K) {f0 : Nat → Nat} (hn : ∀ f', ¬ vld q (K - 1) K f') : LL q K K 0 f0 (fun j => j) := by
  refine ⟨fun j hj => ⟨hj, ?_, fun k hk e => absurd (show k = j from e) (by omega)⟩, fun j hj => absurd hj (by omega), fun f' hv _ => ?_⟩
  · have : nct (fun j => j) j j = 0 := fb_ct_zero.mpr (fun k hk => decide_eq_false (show ¬ k = j by omega))
    show nct (fun j => j) j j < 4
    omega
  · by_cases h : ∀ j, j < K → f' j = j
    · exact Or.inl h
    · obtain ⟨j, j1, j2, j3⟩ : ∃ j, j < K ∧ (¬ f' j = j) ∧ ∀ k, k < j → f' k = k := by
        obtain ⟨j, a, b, c⟩ := fb_first (p := fun j => ¬ f' j = j) (n := K) (Classical.byContradiction (fun z => h (fun j hj => Classical.byContradiction (fun w => z ⟨j, hj, w⟩))))
        exact ⟨j, a, b, fun k hk => Classical.byContradiction (fun w => c k hk w)⟩
      by_cases c : j < f' j
      · exact Or.inr ⟨j, j1, j3, c⟩
      · exfalso
        have lt : f' j < j := by omega
        have dup : f' (f' j) = f' j := j3 _ lt
        -- some set is empty
        obtain ⟨v, hv1, hv2⟩ : ∃ v, v < K ∧ ∀ x, x < K → f' x ≠ v := by
          refine Classical.byContradiction (fun z => ?_)
          have ex : ∀ v, ∃ x, v < K → x < K ∧ f' x = v := by
            intro v
            by_cases hv : v < K
            · refine Classical.byContradiction (fun w => z ⟨v, hv, fun x hx e => w ⟨x, fun _ => ⟨hx, e⟩⟩⟩)
            · exact ⟨0, fun a => absurd a hv⟩
          obtain ⟨g, hg⟩ := Classical.axiomOfChoice ex
          have gi : ∀ a b, a < b → b < K → g a ≠ g b := fun a b ab hb e => by
            have x := (hg a (by omega)).2
            have y := (hg b hb).2
            rw [e] at x
            omega
          obtain ⟨a, a1, a2⟩ := fb_onto (n := K) (f := g) (fun i hi => (hg i hi).1) gi j1
          obtain ⟨b, b1, b2⟩ := fb_onto (n := K) (f := g) (fun i hi => (hg i hi).1) gi (y := f' j) (by omega)
          have x := (hg a a1).2
          have y := (hg b b1).2
          rw [a2] at x
          rw [b2, dup] at y
          have : a = b := by omega
          subst this
          omega
        refine hn (fun j => swp v (K - 1) (f' j)) (vld_inj (n := K) (fun x y => swp_inj) (fun x hx => ?_) hv)
        have a := hv2 x hx
        have b := (hv x hx).1
        show swp v (K - 1) (f' x) < K - 1
        unfold swp
        try dsimp only
        rw [if_neg a]
        split <;> omega
theorem nct_s (f : Nat → Nat) (s i : Nat) : nct f s (i + 1) = nct f s i + (if f i = s then 1 else 0) := by
  unfold nct
  rw [fb_ct_succ]
  by_cases h : f i = s
  · try dsimp only
    rw [if_pos h, if_pos (decide_eq_true h)]
  · try dsimp only
    rw [if_neg h, if_neg (by rw [decide_eq_true_iff]; exact h)]
theorem nct_pos {f : Nat → Nat} {s i : Nat} : nct f s i = 0 ↔ ∀ k, k < i → f k ≠ s := by
  unfold nct
  rw [fb_ct_zero]
  exact ⟨fun h k hk => of_decide_eq_false (h k hk), fun h k hk => decide_eq_false (h k hk)⟩
/-- upd for Nat -/
def updN (f : Nat → Nat) (i v : Nat) : Nat → Nat := fun k => if k = i then v else f k
theorem updN_s {f : Nat → Nat} {i v : Nat} : updN f i v i = v := if_pos rfl
theorem updN_n {f : Nat → Nat} {i v k : Nat} (h : k ≠ i) : updN f i v k = f k := if_neg h
/-- the lexicographic step: s for couple i, nothing below s will do -/
theorem LL_step {q : Nat → Nat → Prop} {n K i s : Nat} {f g : Nat → Nat} (hi : i < K) (hlow : ∀ f', vld q n K f' → (∀ j, j < i → f' j = f j) → s ≤ f' i) (h : LL q n K (i + 1) (updN f i s) g) : LL q n K i f g := by
  obtain ⟨a, b, c⟩ := h
  refine ⟨a, fun j hj => by rw [b j (by omega), updN_n (by omega)], fun f' hv he => ?_⟩
  have gi : g i = s := by rw [b i (by omega), updN_s]
  have hl := hlow f' hv he
  by_cases e : f' i = s
  · exact c f' hv (fun j hj => by
      by_cases z : j = i
      · rw [z, updN_s]; exact e
      · rw [updN_n z]; exact he j (by omega))
  · refine Or.inr ⟨i, hi, fun k hk => ?_, by omega⟩
    rw [he k hk, b k (by omega), updN_n (by omega)]
