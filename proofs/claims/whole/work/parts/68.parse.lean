/-! the customs' text -/
def bq (k : Nat) (x : Int32) : Prop := (c_LEAST k).toInt ≤ x.toInt ∧ x.toInt ≤ (c_MOST k).toInt
def St1 (v : Nat → Nat) (t p1 : Nat) (dr : Nat → Int32) (F : Int32) : Prop := (tK v t p1 = 0 ∧ F = 0) ∨ (tK v t p1 = 4 ∧ F = 1) ∨ (¬ tK v t p1 = 0 ∧ ¬ tK v t p1 = 4 ∧ ¬ tK v t p1 = 1 ∧ F = 2) ∨ (∃ k, k < 4 ∧ tK v t p1 = 1 ∧ tV v t p1 = nI k ∧ ¬ dr k = -4 ∧ F = 4)
def St2 (v : Nat → Nat) (t p2 k : Nat) (F : Int32) : Prop := (tK v t p2 = 4 ∧ F = 1) ∨ (¬ tK v t p2 = 4 ∧ ¬ tK v t p2 = 2 ∧ F = 2) ∨ (tK v t p2 = 2 ∧ ¬ bq k (tV v t p2) ∧ F = 3)
def St3 (v : Nat → Nat) (t p3 : Nat) (F : Int32) : Prop := (tK v t p3 = 4 ∧ F = 1) ∨ (¬ tK v t p3 = 4 ∧ ¬ tK v t p3 = 3 ∧ F = 2)
/-- a custom's name, first told here -/
def Nm (v : Nat → Nat) (t p1 k : Nat) (dr : Nat → Int32) : Prop := k < 4 ∧ tK v t p1 = 1 ∧ tV v t p1 = nI k ∧ dr k = -4
def StpC (v : Nat → Nat) (t : Nat) (dr : Nat → Int32) (i : Nat) (F : Int32) (P : Nat) (dr' : Nat → Int32) : Prop := (P = tP v t i ∧ dr' = dr ∧ St1 v t P dr F) ∨ (∃ p1 k, p1 = tP v t i ∧ Nm v t p1 k dr ∧ P = tP v t (tE v t p1) ∧ dr' = dr ∧ St2 v t P k F) ∨ ∃ p1 k p2, p1 = tP v t i ∧ Nm v t p1 k dr ∧ p2 = tP v t (tE v t p1) ∧ tK v t p2 = 2 ∧ bq k (tV v t p2) ∧ P = tP v t (tE v t p2) ∧ dr' = upd dr k (tV v t p2) ∧ St3 v t P F
def Go (v : Nat → Nat) (t : Nat) (dr : Nat → Int32) (i : Nat) (dr1 : Nat → Int32) (i1 : Nat) : Prop := ∃ p1 k p2 p3, p1 = tP v t i ∧ Nm v t p1 k dr ∧ p2 = tP v t (tE v t p1) ∧ tK v t p2 = 2 ∧ bq k (tV v t p2) ∧ p3 = tP v t (tE v t p2) ∧ tK v t p3 = 3 ∧ dr1 = upd dr k (tV v t p2) ∧ i1 = tE v t p3
def Res (v : Nat → Nat) (t : Nat) : Nat → (Nat → Int32) → Nat → Int32 → Nat → (Nat → Int32) → Prop
  | 0, _, _, _, _, _ => False
  | m + 1, dr, i, F, P, dr' => StpC v t dr i F P dr' ∨ ∃ dr1 i1, Go v t dr i dr1 i1 ∧ Res v t m dr1 i1 F P dr'
theorem Res_s {v : Nat → Nat} {t m : Nat} {dr : Nat → Int32} {i : Nat} {F : Int32} {P : Nat} {dr' : Nat → Int32} : Res v t (m + 1) dr i F P dr' = (StpC v t dr i F P dr' ∨ ∃ dr1 i1, Go v t dr i dr1 i1 ∧ Res v t m dr1 i1 F P dr') := rfl
theorem nmU_in {v : Nat → Nat} {p e : Nat} : ∀ N, nmU v p e N = -4 ∨ ∃ k, k < N ∧ nmU v p e N = nI k := by
  intro N
  induction N with
  | zero => exact Or.inl rfl
  | succ N ih =>
    rw [nmU_s]
    by_cases z : nmIs v p e N
    · rw [pick_t z]; exact Or.inr ⟨N, by omega, rfl⟩
    · rw [pick_f z]
      rcases ih with a | ⟨k, k1, k2⟩
      · exact Or.inl a
      · exact Or.inr ⟨k, by omega, k2⟩
theorem tK_1 {v : Nat → Nat} {t j : Nat} (h : tK v t j = 1) : ∃ k, k < 4 ∧ tV v t j = nI k := by
  unfold tK at h
  by_cases z : j = t
  · try dsimp only
    rw [if_pos z] at h; exact absurd h (by decide)
  · try dsimp only
    rw [if_neg z] at h
    by_cases y : isL v j = true
    · try dsimp only
      rw [if_pos y] at h
      by_cases x : nmV v j (tE v t j) = -4
      · try dsimp only
        rw [if_pos x] at h; exact absurd h (by decide)
      · unfold tV
        try dsimp only
        rw [if_pos y]
        have nv : nmV v j (tE v t j) = -4 ∨ ∃ k, k < 4 ∧ nmV v j (tE v t j) = nI k := nmU_in 4
        exact nv.resolve_left x
    · try dsimp only
      rw [if_neg y] at h
      by_cases x : isF v j = true
      · try dsimp only
        rw [if_pos x] at h
        split at h <;> exact absurd h (by decide)
      · try dsimp only
        rw [if_neg x] at h
        split at h <;> exact absurd h (by decide)
theorem tK_c {v : Nat → Nat} {t j : Nat} : tK v t j = 0 ∨ tK v t j = 1 ∨ tK v t j = 2 ∨ tK v t j = 3 ∨ tK v t j = 4 := by
  unfold tK
  repeat' split
  all_goals first | exact Or.inl rfl | exact Or.inr (Or.inl rfl) | exact Or.inr (Or.inr (Or.inl rfl)) | exact Or.inr (Or.inr (Or.inr (Or.inl rfl))) | exact Or.inr (Or.inr (Or.inr (Or.inr rfl)))
theorem e_withinR {a lo hi : Int32} {s : St} {Q : Int32 → St → Prop} : wX7_isWithin a lo hi s Q = Q (bi (lo.toInt ≤ a.toInt ∧ a.toInt ≤ hi.toInt)) s := by
  try dsimp only
  unfold wX7_isWithin
  by_cases h1 : a < lo
  · try dsimp only
    rw [if_pos h1, bi_f]
    rintro ⟨x, y⟩
    rw [Int32.lt_iff_toInt_lt] at h1
    omega
  · try dsimp only
    rw [if_neg h1]
    rw [Int32.lt_iff_toInt_lt] at h1
    by_cases h2 : hi < a
    · try dsimp only
      rw [if_pos h2, bi_f]
      rintro ⟨x, y⟩
      rw [Int32.lt_iff_toInt_lt] at h2
      omega
    · try dsimp only
      rw [if_neg h2, bi_t]
      rw [Int32.lt_iff_toInt_lt] at h2
      omega
theorem tEt {v : Nat → Nat} {t j : Nat} : (if j = t then t else tE v t j) = tE v t j := by
  by_cases z : j = t
  · try dsimp only
    rw [if_pos z]; unfold tE; rw [if_pos z, z]
  · try dsimp only
    rw [if_neg z]
theorem x_fault {s : St} {i p : Nat} {k w c : Int32} {Q : Int32 → St → Prop} (h4 : k = 4 → Q 1 (tk s i k p w)) (h0 : k = c → ¬ k = 4 → Q 0 (tk s i k p w)) (h2 : ¬ k = 4 → ¬ k = c → Q 2 (tk s i k p w)) : wX5_faultUnless c (tk s i k p w) Q := by
  try dsimp only
  unfold wX5_faultUnless
  rw [tk6]
  by_cases z : k = 4
  · try dsimp only
    rw [if_pos z]; exact h4 z
  · try dsimp only
    rw [if_neg z]
    by_cases y : k = c
    · try dsimp only
      rw [if_pos y]; exact h0 y z
    · try dsimp only
      rw [if_neg y]; exact h2 z y
theorem tk_10 {s : St} {i p : Nat} {k w a b : Int32} {dr : Nat → Int32} : stA (tk (stC s 10 dr) i k p w) 10 a b = tk (stC s 10 (upd dr a.toNatClampNeg b)) i k p w := by
  refine st_ext (fun j => rfl) (fun j x => ?_)
  unfold tk
  simp only [g_AA, g_FA, g_CA]
  by_cases h : j = 10
  · subst h; rfl
  · simp only [if_neg h]
theorem x_custC {s : St} {t i : Nat} {v : Nat → Nat} {dr : Nat → Int32} (hB : Byt s t v) (hi : i ≤ t) {p1 : Nat} (hp1 : p1 = tP v t i) (hK0 : ¬ tK v t p1 = 0) {w1 : Int32} (hw1 : tK v t p1 = 1 ∨ tK v t p1 = 2 → w1 = tV v t p1) {Q : Int32 → St → Prop} (hs : ∀ F P dr' e k w, ¬ F = 0 → StpC v t dr i F P dr' → Q F (tk (stC s 10 dr') e k P w)) (hg : ∀ dr1 i1 k p w, i1 ≤ t → Go v t dr i dr1 i1 → Q 0 (tk (stC s 10 dr1) i1 k p w)) : wX5_readCustom (tk (stC s 10 dr) (tE v t p1) (tK v t p1) p1 w1) Q := by
  have hBd : ∀ dr, Byt (stC s 10 dr) t v := fun dr => hB
  obtain ⟨a1, a2⟩ := tP_le (v := v) hi
  rw [← hp1] at a1 a2
  obtain ⟨b1, b2⟩ := tE_le (v := v) a2
  try dsimp only
  unfold wX5_readCustom
  refine x_fault (fun h => ?_) (fun h _ => ?_) (fun h h' => ?_)
  · try dsimp only
    rw [if_neg (by decide)]
    exact hs 1 p1 dr _ _ _ (by decide) (Or.inl ⟨hp1, rfl, Or.inr (Or.inl ⟨h, rfl⟩)⟩)
  · try dsimp only
    rw [if_pos rfl]
    obtain ⟨k, hk, ek⟩ := tK_1 h
    have ew : w1 = nI k := (hw1 (Or.inl h)).trans ek
    subst ew
    have e10 : gA (tk (stC s 10 dr) (tE v t p1) (tK v t p1) p1 (nI k)) 10 (nI k) = dr k := by rw [gn (by omega)]; rfl
    rw [tk8, e10]
    refine ⟨vin hk (by omega), ?_⟩
    by_cases d0 : dr k = -4
    · try dsimp only
      rw [if_pos d0]
      have hNm : Nm v t p1 k dr := ⟨hk, h, ek, d0⟩
      refine x_tok (hBd dr) b2 (fun w2 hw2 => ?_)
      rw [tEt]
      obtain ⟨p2, hp2⟩ : ∃ p2, p2 = tP v t (tE v t p1) := ⟨_, rfl⟩
      rw [← hp2] at hw2 ⊢
      obtain ⟨c1, c2⟩ := tP_le (v := v) b2
      rw [← hp2] at c1 c2
      obtain ⟨d1, d2⟩ := tE_le (v := v) c2
      refine x_fault (fun h => ?_) (fun h _ => ?_) (fun h h' => ?_)
      · try dsimp only
        rw [if_neg (by decide)]
        exact hs 1 p2 dr _ _ _ (by decide) (Or.inr (Or.inl ⟨p1, k, hp1, hNm, hp2, rfl, Or.inl ⟨h, rfl⟩⟩))
      · try dsimp only
        rw [if_pos rfl, tk8, e_withinR, cl (by omega)]
        refine ⟨vin hk (by omega), vin hk (by omega), ?_⟩
        have ew2 := hw2 (Or.inr h)
        rw [ew2]
        by_cases hb : bq k (tV v t p2)
        · have hb' : (c_LEAST k).toInt ≤ (tV v t p2).toInt ∧ (tV v t p2).toInt ≤ (c_MOST k).toInt := hb
          try dsimp only
          rw [bi_t hb', if_neg (by decide), tk8, tk_10, cl (by omega)]
          refine ⟨vin hk (by omega), ?_⟩
          refine x_tok (hBd _) d2 (fun w3 hw3 => ?_)
          rw [tEt]
          obtain ⟨p3, hp3⟩ : ∃ p3, p3 = tP v t (tE v t p2) := ⟨_, rfl⟩
          rw [← hp3] at hw3 ⊢
          obtain ⟨f1, f2⟩ := tP_le (v := v) d2
          rw [← hp3] at f1 f2
          refine x_fault (fun h3 => ?_) (fun h3 _ => ?_) (fun h3 h3' => ?_)
          · exact hs 1 p3 _ _ _ _ (by decide) (Or.inr (Or.inr ⟨p1, k, p2, hp1, hNm, hp2, h, hb, hp3, rfl, Or.inl ⟨h3, rfl⟩⟩))
          · exact hg _ _ _ _ _ (tE_le f2).2 ⟨p1, k, p2, p3, hp1, hNm, hp2, h, hb, hp3, h3, rfl, rfl⟩
          · exact hs 2 p3 _ _ _ _ (by decide) (Or.inr (Or.inr ⟨p1, k, p2, hp1, hNm, hp2, h, hb, hp3, rfl, Or.inr ⟨h3, h3', rfl⟩⟩))
        · have hb' : ¬ ((c_LEAST k).toInt ≤ (tV v t p2).toInt ∧ (tV v t p2).toInt ≤ (c_MOST k).toInt) := hb
          try dsimp only
          rw [bi_f hb', if_pos rfl]
          exact hs 3 p2 dr _ _ _ (by decide) (Or.inr (Or.inl ⟨p1, k, hp1, hNm, hp2, rfl, Or.inr (Or.inr ⟨h, hb, rfl⟩)⟩))
      · try dsimp only
        rw [if_neg (by decide)]
        exact hs 2 p2 dr _ _ _ (by decide) (Or.inr (Or.inl ⟨p1, k, hp1, hNm, hp2, rfl, Or.inr (Or.inl ⟨h, h', rfl⟩)⟩))
    · try dsimp only
      rw [if_neg d0]
      exact hs 4 p1 dr _ _ _ (by decide) (Or.inl ⟨hp1, rfl, Or.inr (Or.inr (Or.inr ⟨k, hk, h, ek, d0, rfl⟩))⟩)
  · try dsimp only
    rw [if_neg (by decide)]
    exact hs 2 p1 dr _ _ _ (by decide) (Or.inl ⟨hp1, rfl, Or.inr (Or.inr (Or.inl ⟨hK0, h, h', rfl⟩))⟩)
def nset (dr : Nat → Int32) : Nat := fb_ct (n4 dr) 4
theorem nset_upd {dr : Nat → Int32} {k : Nat} {x : Int32} (hk : k < 4) (h0 : dr k = -4) (hx : ¬ x = -4) : nset (upd dr k x) = nset dr + 1 := by
  have h := fb_ct_upd (n4 dr) true hk
  have e0 : n4 dr k = false := by unfold n4; exact decide_eq_false (fun z => z h0)
  have e : n4 (upd dr k x) = (fun j => if j = k then true else n4 dr j) := by
    funext j
    unfold n4 upd
    by_cases z : j = k
    · try dsimp only
      rw [if_pos z]; simp only [if_pos z]; exact decide_eq_true hx
    · try dsimp only
      rw [if_neg z]; simp only [if_neg z]
  unfold nset
  rw [e]
  rw [e0] at h
  simpa using h
theorem bq_ne {k : Nat} {x : Int32} (hk : k < 4) (h : bq k x) : ¬ x = -4 := by
  intro e
  have a := h.1
  rw [e] at a
  have : ∀ k : Fin 4, ¬ (c_LEAST k.val).toInt ≤ (-4 : Int32).toInt := by decide
  exact this ⟨k, hk⟩ a
theorem Go.set {v : Nat → Nat} {t : Nat} {dr : Nat → Int32} {i : Nat} {dr1 : Nat → Int32} {i1 : Nat} (h : Go v t dr i dr1 i1) : nset dr1 = nset dr + 1 := by
  obtain ⟨p1, k, p2, p3, -, ⟨hk, -, -, d0⟩, -, -, hb, -, -, rfl, -⟩ := h
  exact nset_upd hk d0 (bq_ne hk hb)
theorem nset_le (dr : Nat → Int32) : nset dr ≤ 4 := fb_ct_le _ 4
theorem x_rt {s : St} {t : Nat} {v : Nat → Nat} (hB : Byt s t v) {Q : Int32 → St → Prop} : ∀ m i0 dr i k p w, i0 + m = 5 → nset dr = i0 → i ≤ t → (∀ F P dr' e k w, Res v t m dr i F P dr' → Q F (tk (stC s 10 dr') e k P w)) → wX5_readText_2 (nI i0) (tk (stC s 10 dr) i k p w) Q := by
  have hBd : ∀ dr, Byt (stC s 10 dr) t v := fun dr => hB
  intro m i0 dr i k p w hm hn hi hq P hP
  induction m generalizing i0 dr i k p w with
  | zero => have := nset_le dr; omega
  | succ m ih =>
    have nl := nset_le dr
    refine hP _ _ ?_
    try dsimp only
    unfold wX5_readText_2_b
    try dsimp only
    rw [if_neg (show ¬ (4 : Int32) < nI i0 from nI_nlt (a := 4) (by omega) (by omega)), nI_1]
    refine x_tok (hBd dr) hi (fun w1 hw1 => ?_)
    rw [tEt]
    obtain ⟨p1, hp1⟩ : ∃ p1, p1 = tP v t i := ⟨_, rfl⟩
    rw [← hp1] at hw1 ⊢
    rw [tk6]
    by_cases z : tK v t p1 = 0
    · try dsimp only
      rw [if_pos z]
      exact hq 0 p1 dr _ _ _ (Or.inl (Or.inl ⟨hp1, rfl, Or.inl ⟨z, rfl⟩⟩))
    · try dsimp only
      rw [if_neg z]
      refine x_custC hB hi hp1 z hw1 (fun F P' dr' e k w F0 st => ?_) (fun dr1 i1 k p w i1t go => ?_)
      · try dsimp only
        rw [if_neg F0]
        exact hq F P' dr' e k w (Or.inl st)
      · try dsimp only
        rw [if_pos rfl]
        exact ih (i0 + 1) dr1 i1 k p w (by omega) (by rw [go.set, hn]) i1t (fun F P' dr' e k w r => hq F P' dr' e k w (Or.inr ⟨dr1, i1, go, r⟩))
