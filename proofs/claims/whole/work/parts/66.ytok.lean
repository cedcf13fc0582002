/-! the model reads a token -/
def tm (s : St) (i p : Nat) (k w x y : Int32) : St := stF (stF (stF (stF (stF (stF s 3013 (nI i)) 3014 (nI p)) 3015 k) 3016 w) 3017 x) 3018 y
theorem tm_3 {s : St} {i p : Nat} {k w x y : Int32} {i' : Nat} : stF (tm s i p k w x y) 3013 (nI i') = tm s i' p k w x y := by
  unfold tm
  refine st_ext (fun q => ?_) (fun _ _ => rfl)
  simp only [g_FF]
  by_cases h : q = 3013
  · subst h; rfl
  · simp only [if_neg h]
theorem tm3 {s : St} {i p : Nat} {k w x y : Int32} : gF (tm s i p k w x y) 3013 = nI i := rfl
theorem tm_4 {s : St} {i p : Nat} {k w x y : Int32} {p' : Nat} : stF (tm s i p k w x y) 3014 (nI p') = tm s i p' k w x y := by
  unfold tm
  refine st_ext (fun q => ?_) (fun _ _ => rfl)
  simp only [g_FF]
  by_cases h : q = 3014
  · subst h; rfl
  · simp only [if_neg h]
theorem tm4 {s : St} {i p : Nat} {k w x y : Int32} : gF (tm s i p k w x y) 3014 = nI p := rfl
theorem tm_5 {s : St} {i p : Nat} {k w x y : Int32} {k' : Int32} : stF (tm s i p k w x y) 3015 k' = tm s i p k' w x y := by
  unfold tm
  refine st_ext (fun q => ?_) (fun _ _ => rfl)
  simp only [g_FF]
  by_cases h : q = 3015
  · subst h; rfl
  · simp only [if_neg h]
theorem tm5 {s : St} {i p : Nat} {k w x y : Int32} : gF (tm s i p k w x y) 3015 = k := rfl
theorem tm_6 {s : St} {i p : Nat} {k w x y : Int32} {w' : Int32} : stF (tm s i p k w x y) 3016 w' = tm s i p k w' x y := by
  unfold tm
  refine st_ext (fun q => ?_) (fun _ _ => rfl)
  simp only [g_FF]
  by_cases h : q = 3016
  · subst h; rfl
  · simp only [if_neg h]
theorem tm6 {s : St} {i p : Nat} {k w x y : Int32} : gF (tm s i p k w x y) 3016 = w := rfl
theorem tm_7 {s : St} {i p : Nat} {k w x y : Int32} {x' : Int32} : stF (tm s i p k w x y) 3017 x' = tm s i p k w x' y := by
  unfold tm
  refine st_ext (fun q => ?_) (fun _ _ => rfl)
  simp only [g_FF]
  by_cases h : q = 3017
  · subst h; rfl
  · simp only [if_neg h]
theorem tm7 {s : St} {i p : Nat} {k w x y : Int32} : gF (tm s i p k w x y) 3017 = x := rfl
theorem tm_8 {s : St} {i p : Nat} {k w x y : Int32} {y' : Int32} : stF (tm s i p k w x y) 3018 y' = tm s i p k w x y' := by
  unfold tm
  refine st_ext (fun q => ?_) (fun _ _ => rfl)
  simp only [g_FF]
  by_cases h : q = 3018
  · subst h; rfl
  · simp only [if_neg h]
theorem tm8 {s : St} {i p : Nat} {k w x y : Int32} : gF (tm s i p k w x y) 3018 = y := rfl
def Byt8 (s : St) (t : Nat) (v : Nat → Nat) : Prop := t ≤ 100 ∧ gF s 3009 = nI t ∧ ∀ i, i < t → v i < 256 ∧ s.2 38 i = nI (v i)
theorem e_byte {s : St} {t i i' p : Nat} {v : Nat → Nat} {k w x y : Int32} (hB : Byt8 s t v) (hi : i ≤ t) {Q : Int32 → St → Prop} : wX8_byteAt (nI i) (tm s i' p k w x y) Q = Q (if i < t then nI (v i) else -4) (tm s i' p k w x y) := by
  obtain ⟨t1, t2, t3⟩ := hB
  try dsimp only
  unfold wX8_byteAt
  have e9 : gF (tm s i' p k w x y) 3009 = nI t := t2
  rw [e9]
  by_cases z : i < t
  · have e38 : gA (tm s i' p k w x y) 38 (nI i) = nI (v i) := by rw [gn (by omega)]; exact (t3 i z).2
    try dsimp only
    rw [if_neg (by rw [nI_leI (by omega) (by omega)]; omega), if_pos z, e38]
    exact propext ⟨fun q => q.2, fun q => ⟨vin (by omega) (by omega), q⟩⟩
  · try dsimp only
    rw [if_pos (by rw [nI_leI (by omega) (by omega)]; omega), if_neg z]
theorem e_inR {a : Int32} {lo hi : Int64} {s : St} {Q : Int32 → St → Prop} : wX8_in a.toInt64 lo hi s Q = Q (bi (lo.toInt ≤ a.toInt ∧ a.toInt ≤ hi.toInt)) s := by
  try dsimp only
  unfold wX8_in
  simp only [lg_lt, lg_gt]
  by_cases h1 : a.toInt64 < lo
  · try dsimp only
    rw [if_pos h1, bi_f]
    rintro ⟨x, y⟩
    rw [Int64.lt_iff_toInt_lt, Int32.toInt_toInt64] at h1
    omega
  · try dsimp only
    rw [if_neg h1]
    rw [Int64.lt_iff_toInt_lt, Int32.toInt_toInt64] at h1
    by_cases h2 : hi < a.toInt64
    · try dsimp only
      rw [if_pos h2, bi_f]
      rintro ⟨x, y⟩
      rw [Int64.lt_iff_toInt_lt, Int32.toInt_toInt64] at h2
      omega
    · try dsimp only
      rw [if_neg h2, bi_t]
      rw [Int64.lt_iff_toInt_lt, Int32.toInt_toInt64] at h2
      omega
/-- a byte, or none -/
def byI (v : Nat → Nat) (t i : Nat) : Int32 := if i < t then nI (v i) else -4
theorem byI_i {v : Nat → Nat} {t i : Nat} (hv : i < t → v i < 256) : (byI v t i).toInt = if i < t then (v i : Int) else -4 := by
  unfold byI
  by_cases z : i < t
  · try dsimp only
    rw [if_pos z, if_pos z, nI_i (by have := hv z; omega)]
  · try dsimp only
    rw [if_neg z, if_neg z]; decide
theorem e_inL2 {v : Nat → Nat} {t i : Nat} (hv : i < t → v i < 256) {s : St} {Q : Int32 → St → Prop} : wX8_in (byI v t i).toInt64 97 122 s Q = Q (bi (i < t ∧ isL v i = true)) s := by
  try dsimp only
  rw [e_inR, byI_i hv]
  have e1 : (97 : Int64).toInt = 97 := by decide
  have e2 : (122 : Int64).toInt = 122 := by decide
  rw [e1, e2]
  congr 2
  apply propext
  rw [isL_iff]
  by_cases z : i < t
  · try dsimp only
    rw [if_pos z]; omega
  · try dsimp only
    rw [if_neg z]; omega
theorem e_inF2 {v : Nat → Nat} {t i : Nat} (hv : i < t → v i < 256) {s : St} {Q : Int32 → St → Prop} : wX8_in (byI v t i).toInt64 48 57 s Q = Q (bi (i < t ∧ isF v i = true)) s := by
  try dsimp only
  rw [e_inR, byI_i hv]
  have e1 : (48 : Int64).toInt = 48 := by decide
  have e2 : (57 : Int64).toInt = 57 := by decide
  rw [e1, e2]
  congr 2
  apply propext
  rw [isF_iff]
  by_cases z : i < t
  · try dsimp only
    rw [if_pos z]; omega
  · try dsimp only
    rw [if_neg z]; omega
theorem byI_eq {v : Nat → Nat} {t i c : Nat} (hv : i < t → v i < 256) (hc : c < 256) : byI v t i = nI c ↔ (i < t ∧ v i = c) := by
  rw [fa_eq, byI_i hv, nI_i (by omega)]
  by_cases z : i < t
  · try dsimp only
    rw [if_pos z]; omega
  · try dsimp only
    rw [if_neg z]; omega
theorem byI_no {v : Nat → Nat} {t i : Nat} (hv : i < t → v i < 256) : byI v t i = -4 ↔ ¬ i < t := by
  have e4 : (-4 : Int32).toInt = -4 := by decide
  rw [fa_eq, byI_i hv, e4]
  by_cases z : i < t
  · try dsimp only
    rw [if_pos z]; omega
  · try dsimp only
    rw [if_neg z]; omega
/-- letters -/
def lv (v : Nat → Nat) (p : Nat) : Nat → Nat
  | 0 => 0
  | k + 1 => lv v p k * 256 + v (p + k)
theorem lv_s {v : Nat → Nat} {p k : Nat} : lv v p (k + 1) = lv v p k * 256 + v (p + k) := rfl
theorem lvv_lt {v : Nat → Nat} {p : Nat} : ∀ k, (∀ j, j < k → v (p + j) < 256) → lv v p k < 256 ^ k := by
  intro k
  induction k with
  | zero => intro _; exact Nat.zero_lt_one
  | succ k ih =>
    intro h
    have a := ih (fun j hj => h j (by omega))
    have b := h k (by omega)
    rw [lv_s, Nat.pow_succ]
    omega
theorem lg_0 (a b : Int64) : (lg_cmp a b = 0) = (a = b) := by
  apply propext
  unfold lg_cmp
  by_cases h1 : a > b
  · try dsimp only
    rw [if_pos h1]
    refine ⟨fun h => absurd h (by decide), fun h => ?_⟩
    rw [gt_iff_lt, Int64.lt_iff_toInt_lt, h] at h1
    omega
  · try dsimp only
    rw [if_neg h1]
    by_cases h2 : a = b
    · try dsimp only
      rw [if_pos h2]; exact ⟨fun _ => h2, fun _ => rfl⟩
    · try dsimp only
      rw [if_neg h2]; exact ⟨fun h => absurd h (by decide), fun h => absurd h h2⟩
theorem i64_lN {b : Nat} (h : b < 256) : (nI b).toInt64 = lN b := by
  have : ∀ b : Fin 256, (nI b.val).toInt64 = lN b.val := by decide +kernel
  exact this ⟨b, h⟩
def cd (k : Nat) : Nat := [1885432178, 1918987883, 7499639, 126948234782066].getD k 0
theorem nm_iff {v : Nat → Nat} {p m k : Nat} (hk : k < 4) (hm : m ≤ 7) (h : ∀ j, j < m → 97 ≤ v (p + j) ∧ v (p + j) ≤ 122) : lv v p m = cd k ↔ nmIs v p (p + m) k := by
  have hm' : m = 0 ∨ m = 1 ∨ m = 2 ∨ m = 3 ∨ m = 4 ∨ m = 5 ∨ m = 6 ∨ m = 7 := by omega
  have hk' : k = 0 ∨ k = 1 ∨ k = 2 ∨ k = 3 := by omega
  have l0 : ln 0 = 4 := rfl
  have l1 : ln 1 = 4 := rfl
  have l2 : ln 2 = 3 := rfl
  have l3 : ln 3 = 6 := rfl
  have c0 : cd 0 = 1885432178 := rfl
  have c1 : cd 1 = 1918987883 := rfl
  have c2 : cd 2 = 7499639 := rfl
  have c3 : cd 3 = 126948234782066 := rfl
  unfold nmIs
  constructor
  · intro e
    have hb : ∀ j, j < m → 97 ≤ v (p + j) ∧ v (p + j) ≤ 122 := h
    rcases hk' with rfl | rfl | rfl | rfl
    · rw [c0] at e
      rw [l0]
      rcases hm' with rfl | rfl | rfl | rfl | rfl | rfl | rfl | rfl
      all_goals simp only [lv_s, lv] at e
      · omega
      · have := h 0 (by omega); omega
      · have := h 0 (by omega); have := h 1 (by omega); omega
      · have := h 0 (by omega); have := h 1 (by omega); have := h 2 (by omega); omega
      · have a0 := h 0 (by omega); have a1 := h 1 (by omega); have a2 := h 2 (by omega); have a3 := h 3 (by omega)
        refine ⟨rfl, fun i hi => ?_⟩
        have : i = 0 ∨ i = 1 ∨ i = 2 ∨ i = 3 := by omega
        rcases this with rfl | rfl | rfl | rfl
        · show v (p + 0) = 112; omega
        · show v (p + 1) = 97; omega
        · show v (p + 2) = 105; omega
        · show v (p + 3) = 114; omega
      · have a0 := h 0 (by omega); have a1 := h 1 (by omega); omega
      · have a0 := h 0 (by omega); have a1 := h 1 (by omega); omega
      · have a0 := h 0 (by omega); have a1 := h 1 (by omega); omega
    · rw [c1] at e
      rw [l1]
      rcases hm' with rfl | rfl | rfl | rfl | rfl | rfl | rfl | rfl
      all_goals simp only [lv_s, lv] at e
      · omega
      · have := h 0 (by omega); omega
      · have := h 0 (by omega); have := h 1 (by omega); omega
      · have := h 0 (by omega); have := h 1 (by omega); have := h 2 (by omega); omega
      · have a0 := h 0 (by omega); have a1 := h 1 (by omega); have a2 := h 2 (by omega); have a3 := h 3 (by omega)
        refine ⟨rfl, fun i hi => ?_⟩
        have : i = 0 ∨ i = 1 ∨ i = 2 ∨ i = 3 := by omega
        rcases this with rfl | rfl | rfl | rfl
        · show v (p + 0) = 114; omega
        · show v (p + 1) = 97; omega
        · show v (p + 2) = 110; omega
        · show v (p + 3) = 107; omega
      · have a0 := h 0 (by omega); have a1 := h 1 (by omega); omega
      · have a0 := h 0 (by omega); have a1 := h 1 (by omega); omega
      · have a0 := h 0 (by omega); have a1 := h 1 (by omega); omega
    · rw [c2] at e
      rw [l2]
      rcases hm' with rfl | rfl | rfl | rfl | rfl | rfl | rfl | rfl
      all_goals simp only [lv_s, lv] at e
      · omega
      · have := h 0 (by omega); omega
      · have := h 0 (by omega); have := h 1 (by omega); omega
      · have a0 := h 0 (by omega); have a1 := h 1 (by omega); have a2 := h 2 (by omega)
        refine ⟨rfl, fun i hi => ?_⟩
        have : i = 0 ∨ i = 1 ∨ i = 2 := by omega
        rcases this with rfl | rfl | rfl
        · show v (p + 0) = 114; omega
        · show v (p + 1) = 111; omega
        · show v (p + 2) = 119; omega
      · have a0 := h 0 (by omega); have a1 := h 1 (by omega); omega
      · have a0 := h 0 (by omega); have a1 := h 1 (by omega); omega
      · have a0 := h 0 (by omega); have a1 := h 1 (by omega); omega
      · have a0 := h 0 (by omega); have a1 := h 1 (by omega); omega
    · rw [c3] at e
      rw [l3]
      rcases hm' with rfl | rfl | rfl | rfl | rfl | rfl | rfl | rfl
      all_goals simp only [lv_s, lv] at e
      · omega
      · have := h 0 (by omega); omega
      · have := h 0 (by omega); have := h 1 (by omega); omega
      · have := h 0 (by omega); have := h 1 (by omega); have := h 2 (by omega); omega
      · have := h 0 (by omega); have := h 1 (by omega); have := h 2 (by omega); have := h 3 (by omega); omega
      · have := h 0 (by omega); have := h 1 (by omega); have := h 2 (by omega); have := h 3 (by omega); have := h 4 (by omega); omega
      · have a0 := h 0 (by omega); have a1 := h 1 (by omega); have a2 := h 2 (by omega); have a3 := h 3 (by omega); have a4 := h 4 (by omega); have a5 := h 5 (by omega)
        refine ⟨rfl, fun i hi => ?_⟩
        have : i = 0 ∨ i = 1 ∨ i = 2 ∨ i = 3 ∨ i = 4 ∨ i = 5 := by omega
        rcases this with rfl | rfl | rfl | rfl | rfl | rfl
        · show v (p + 0) = 115; omega
        · show v (p + 1) = 117; omega
        · show v (p + 2) = 112; omega
        · show v (p + 3) = 112; omega
        · show v (p + 4) = 101; omega
        · show v (p + 5) = 114; omega
      · have a0 := h 0 (by omega); have a1 := h 1 (by omega); omega
  · rintro ⟨e, hv⟩
    rcases hk' with rfl | rfl | rfl | rfl
    · rw [l0] at e hv
      have : m = 4 := by omega
      subst this
      have b0 : v (p + 0) = 112 := hv 0 (by omega)
      have b1 : v (p + 1) = 97 := hv 1 (by omega)
      have b2 : v (p + 2) = 105 := hv 2 (by omega)
      have b3 : v (p + 3) = 114 := hv 3 (by omega)
      rw [c0]; simp only [lv_s, lv]; omega
    · rw [l1] at e hv
      have : m = 4 := by omega
      subst this
      have b0 : v (p + 0) = 114 := hv 0 (by omega)
      have b1 : v (p + 1) = 97 := hv 1 (by omega)
      have b2 : v (p + 2) = 110 := hv 2 (by omega)
      have b3 : v (p + 3) = 107 := hv 3 (by omega)
      rw [c1]; simp only [lv_s, lv]; omega
    · rw [l2] at e hv
      have : m = 3 := by omega
      subst this
      have b0 : v (p + 0) = 114 := hv 0 (by omega)
      have b1 : v (p + 1) = 111 := hv 1 (by omega)
      have b2 : v (p + 2) = 119 := hv 2 (by omega)
      rw [c2]; simp only [lv_s, lv]; omega
    · rw [l3] at e hv
      have : m = 6 := by omega
      subst this
      have b0 : v (p + 0) = 115 := hv 0 (by omega)
      have b1 : v (p + 1) = 117 := hv 1 (by omega)
      have b2 : v (p + 2) = 112 := hv 2 (by omega)
      have b3 : v (p + 3) = 112 := hv 3 (by omega)
      have b4 : v (p + 4) = 101 := hv 4 (by omega)
      have b5 : v (p + 5) = 114 := hv 5 (by omega)
      rw [c3]; simp only [lv_s, lv]; omega
