/-! tokens; the class's reading of one -/
def rn (p : Nat → Bool) : Nat → Nat → Nat
  | 0, i => i
  | m + 1, i => if p i then rn p m (i + 1) else i
theorem rn_y {p : Nat → Bool} {m i : Nat} (h : p i = true) : rn p (m + 1) i = rn p m (i + 1) := by rw [rn, if_pos h]
theorem rn_n {p : Nat → Bool} {m i : Nat} (h : p i = false) : rn p (m + 1) i = i := by rw [rn, h]; rfl
theorem rn_ok (p : Nat → Bool) : ∀ m i, i ≤ rn p m i ∧ rn p m i ≤ i + m ∧ (∀ k, i ≤ k → k < rn p m i → p k = true) ∧ (rn p m i < i + m → p (rn p m i) = false) := by
  intro m
  induction m with
  | zero => intro i; exact ⟨Nat.le_refl i, Nat.le_refl i, fun k h1 h2 => absurd h2 (by show ¬ k < i; omega), fun h => absurd h (by show ¬ i < i + 0; omega)⟩
  | succ m ih =>
    intro i
    cases h : p i with
    | true =>
      rw [rn_y h]
      obtain ⟨a, b, c, d⟩ := ih (i + 1)
      refine ⟨by omega, by omega, fun k h1 h2 => ?_, fun h => d (by omega)⟩
      by_cases e : k = i
      · rw [e]; exact h
      · exact c k (by omega) h2
    | false =>
      rw [rn_n h]
      exact ⟨Nat.le_refl i, by omega, fun k h1 h2 => absurd h2 (by omega), fun _ => h⟩
def sb (v : Nat) : Int32 := (nI v).toInt8.toInt32
theorem sb_all : ∀ v : Fin 256, (sb v.val).toInt = if v.val < 128 then (v.val : Int) else (v.val : Int) - 256 := by decide +kernel
theorem sb_i {v : Nat} (h : v < 256) : (sb v).toInt = if v < 128 then (v : Int) else (v : Int) - 256 := sb_all ⟨v, h⟩
theorem sb_eq {v c : Nat} (h : v < 256) (hc : c < 128) : sb v = nI c ↔ v = c := by
  rw [fa_eq, sb_i h, nI_i (by omega)]
  split <;> omega
theorem sb_lt {v c : Nat} (h : v < 256) (hc : c < 128) : sb v < nI c ↔ (v < c ∨ 128 ≤ v) := by
  rw [fa_lt, sb_i h, nI_i (by omega)]
  split <;> omega
theorem sb_gt {v c : Nat} (h : v < 256) (hc : c < 128) : nI c < sb v ↔ (c < v ∧ v < 128) := by
  rw [fa_lt, sb_i h, nI_i (by omega)]
  split <;> omega
def isS (v : Nat → Nat) (i : Nat) : Bool := decide (v i = 32)
def isL (v : Nat → Nat) (i : Nat) : Bool := decide (97 ≤ v i ∧ v i ≤ 122)
def isF (v : Nat → Nat) (i : Nat) : Bool := decide (48 ≤ v i ∧ v i ≤ 57)
theorem isS_iff {v : Nat → Nat} {i : Nat} : isS v i = true ↔ v i = 32 := by unfold isS; exact decide_eq_true_iff
theorem isL_iff {v : Nat → Nat} {i : Nat} : isL v i = true ↔ (97 ≤ v i ∧ v i ≤ 122) := by unfold isL; exact decide_eq_true_iff
theorem isF_iff {v : Nat → Nat} {i : Nat} : isF v i = true ↔ (48 ≤ v i ∧ v i ≤ 57) := by unfold isF; exact decide_eq_true_iff
theorem bfalse {b : Bool} (h : ¬ b = true) : b = false := by cases b <;> simp_all
theorem e_letter {s : St} {v : Nat → Nat} {i : Nat} (hi : i < 100) (hv : v i < 256) (h : s.2 8 i = sb (v i)) {Q : Int32 → St → Prop} : wX5_isLetter (nI i) s Q = Q (bi (isL v i = true)) s := by
  try dsimp only
  unfold wX5_isLetter
  have e : gA s 8 (nI i) = sb (v i) := by rw [gn (by omega)]; exact h
  have a := sb_lt (c := 97) hv (by omega)
  have b := sb_gt (c := 122) hv (by omega)
  have vv : vp_in (nI i) 100 := vin hi (by omega)
  rw [e]
  by_cases z : sb (v i) < (97 : Int32)
  · try dsimp only
    rw [if_pos z, bi_f (fun w => by rw [isL_iff] at w; have := a.mp z; omega)]
    exact propext ⟨fun q => q.2, fun q => ⟨vv, q⟩⟩
  · try dsimp only
    rw [if_neg z]
    by_cases y : (122 : Int32) < sb (v i)
    · try dsimp only
      rw [if_pos y, bi_f (fun w => by rw [isL_iff] at w; have := b.mp y; omega)]
      exact propext ⟨fun q => q.2.2, fun q => ⟨vv, vv, q⟩⟩
    · try dsimp only
      rw [if_neg y, bi_t (by
        rw [isL_iff]
        have n1 : ¬ (v i < 97 ∨ 128 ≤ v i) := fun q => z (a.mpr q)
        have n2 : ¬ (122 < v i ∧ v i < 128) := fun q => y (b.mpr q)
        omega)]
      exact propext ⟨fun q => q.2.2, fun q => ⟨vv, vv, q⟩⟩
theorem e_figure {s : St} {v : Nat → Nat} {i : Nat} (hi : i < 100) (hv : v i < 256) (h : s.2 8 i = sb (v i)) {Q : Int32 → St → Prop} : wX5_isFigure (nI i) s Q = Q (bi (isF v i = true)) s := by
  try dsimp only
  unfold wX5_isFigure
  have e : gA s 8 (nI i) = sb (v i) := by rw [gn (by omega)]; exact h
  have a := sb_lt (c := 48) hv (by omega)
  have b := sb_gt (c := 57) hv (by omega)
  have vv : vp_in (nI i) 100 := vin hi (by omega)
  rw [e]
  by_cases z : sb (v i) < (48 : Int32)
  · try dsimp only
    rw [if_pos z, bi_f (fun w => by rw [isF_iff] at w; have := a.mp z; omega)]
    exact propext ⟨fun q => q.2, fun q => ⟨vv, q⟩⟩
  · try dsimp only
    rw [if_neg z]
    by_cases y : (57 : Int32) < sb (v i)
    · try dsimp only
      rw [if_pos y, bi_f (fun w => by rw [isF_iff] at w; have := b.mp y; omega)]
      exact propext ⟨fun q => q.2.2, fun q => ⟨vv, vv, q⟩⟩
    · try dsimp only
      rw [if_neg y, bi_t (by
        rw [isF_iff]
        have n1 : ¬ (v i < 48 ∨ 128 ≤ v i) := fun q => z (a.mpr q)
        have n2 : ¬ (57 < v i ∧ v i < 128) := fun q => y (b.mpr q)
        omega)]
      exact propext ⟨fun q => q.2.2, fun q => ⟨vv, vv, q⟩⟩
/-- the class's fields of a token: next, kind, place, value -/
def tk (s : St) (i : Nat) (k : Int32) (p : Nat) (w : Int32) : St := stF (stF (stF (stF s 705 (nI i)) 706 k) 707 (nI p)) 708 w
theorem tk_5 {s : St} {i j p : Nat} {k w : Int32} : stF (tk s i k p w) 705 (nI j) = tk s j k p w := by
  unfold tk
  refine st_ext (fun x => ?_) (fun _ _ => rfl)
  simp only [g_FF]
  by_cases h : x = 705
  · subst h; rfl
  · simp only [if_neg h]
theorem tk_6 {s : St} {i p : Nat} {k k' w : Int32} : stF (tk s i k p w) 706 k' = tk s i k' p w := by
  unfold tk
  refine st_ext (fun x => ?_) (fun _ _ => rfl)
  simp only [g_FF]
  by_cases h : x = 706
  · subst h; rfl
  · simp only [if_neg h]
theorem tk_7 {s : St} {i p p' : Nat} {k w : Int32} : stF (tk s i k p w) 707 (nI p') = tk s i k p' w := by
  unfold tk
  refine st_ext (fun x => ?_) (fun _ _ => rfl)
  simp only [g_FF]
  by_cases h : x = 707
  · subst h; rfl
  · simp only [if_neg h]
theorem tk_8 {s : St} {i p : Nat} {k w w' : Int32} : stF (tk s i k p w) 708 w' = tk s i k p w' := by
  unfold tk
  refine st_ext (fun x => ?_) (fun _ _ => rfl)
  simp only [g_FF]
  by_cases h : x = 708
  · subst h; rfl
  · simp only [if_neg h]
theorem tk5 {s : St} {i p : Nat} {k w : Int32} : gF (tk s i k p w) 705 = nI i := rfl
theorem tk6 {s : St} {i p : Nat} {k w : Int32} : gF (tk s i k p w) 706 = k := rfl
theorem tk7 {s : St} {i p : Nat} {k w : Int32} : gF (tk s i k p w) 707 = nI p := rfl
theorem tk8 {s : St} {i p : Nat} {k w : Int32} : gF (tk s i k p w) 708 = w := rfl
/-- the tape: t bytes v -/
def Byt (s : St) (t : Nat) (v : Nat → Nat) : Prop := t ≤ 100 ∧ gF s 701 = nI t ∧ ∀ i, i < t → v i < 256 ∧ s.2 8 i = sb (v i)
theorem tk1 {s : St} {i p t : Nat} {k w : Int32} (h : gF s 701 = nI t) : gF (tk s i k p w) 701 = nI t := h
/-- names -/
def ln (k : Nat) : Nat := s_len.getD k 0
def ch (k i : Nat) : Nat := ([[112, 97, 105, 114], [114, 97, 110, 107], [114, 111, 119], [115, 117, 112, 112, 101, 114]].getD k []).getD i 0
def nmIs (v : Nat → Nat) (p e k : Nat) : Prop := e = p + ln k ∧ ∀ i, i < ln k → v (p + i) = ch k i
theorem chr_all : ∀ (k : Fin 4) (i : Fin 6), i.val < ln k.val → ((((s_byt.getD k.val []).getD i.val 0) &&& (255 : Int32)).toUInt32 % 65536).toInt32 = nI (ch k.val i.val) ∧ ch k.val i.val < 128 := by decide +kernel
theorem ln_le : ∀ k : Fin 4, ln k.val ≤ 6 := by decide
theorem nchar {c : Nat} (h : c < 128) : narrow .char (.int (nI c)) = .int (nI c) := by
  have : ∀ c : Fin 128, narrow .char (.int (nI c.val)) = .int (nI c.val) := by decide +kernel
  exact this ⟨c, h⟩
theorem x_len {k : Nat} (hk : k < 4) {s : St} {Q : Int32 → St → Prop} (hq : Q (nI (ln k)) s) : wJ0_length_8abf5 k s Q := by
  unfold wJ0_length_8abf5 wJ0_coder_7d493
  try dsimp only
  rw [if_neg (by decide)]
  refine ⟨hk, hk, hk, hk, ?_⟩
  have e : (Int32.ofNat (s_len.getD k 0)) >>> ((0 : Int32) &&& 31) = nI (ln k) := by
    have : ∀ k : Fin 4, (Int32.ofNat (s_len.getD k.val 0)) >>> ((0 : Int32) &&& 31) = nI (ln k.val) := by decide
    exact this ⟨k, hk⟩
  rw [e]; exact hq
theorem x_char {k i : Nat} (hk : k < 4) (hi : i < ln k) {s : St} {Q : Int32 → St → Prop} (hq : Q (nI (ch k i)) s) : wJ0_charAt_5068e k (nI i) s Q := by
  have l6 := ln_le ⟨k, hk⟩
  have l6' : ln k ≤ 6 := l6
  obtain ⟨e, c128⟩ := chr_all ⟨k, hk⟩ ⟨i, by omega⟩ hi
  unfold wJ0_charAt_5068e wJ0_isLatin1_aae02
  try dsimp only
  rw [if_neg (by decide), if_pos rfl, if_neg (by decide)]
  refine ⟨hk, hk, hk, ?_⟩
  unfold wJ1_charAt_3b067_s wJ0_checkIndex_df160 wJ3_checkIndex_8e157_n wJ3_checkIndex_8e157_q
  have el : Int32.ofNat (s_len.getD k 0) = nI (ln k) := rfl
  have e' : ((((s_byt.getD k []).getD (nI i).toNatClampNeg 0) &&& (255 : Int32)).toUInt32 % 65536).toInt32 = nI (ch k i) := by rw [cl (by omega)]; exact e
  have fin : k < 4 ∧ vp_in (nI i) (s_len.getD k 0) ∧ narrow .char (.int (nI (ch k i))) = .int (nI (ch k i)) ∧ (narrow .char (.int (nI (ch k i))) = .int (nI (ch k i)) ∧ Q (nI (ch k i)) s) := ⟨hk, vin hi (by show ln k < _; omega), nchar c128, nchar c128, hq⟩
  rw [el, if_neg (nI_n0 (by omega)), if_pos (nI_lt hi (by omega)), e']
  refine ⟨hk, fin, fun v3 => ?_⟩
  try dsimp only
  rw [if_neg (nI_n0 (by omega)), if_pos (nI_lt hi (by omega))]
  exact fin
theorem x_text {s : St} {t e p k : Nat} {v : Nat → Nat} {kk w : Int32} (hB : Byt s t v) (hk : k < 4) (hp : p ≤ e) (he : e ≤ t) {Q : Int32 → St → Prop} (hq : Q (bi (nmIs v p e k)) (tk s e kk p w)) : wX5_isTokenText k (tk s e kk p w) Q := by
  obtain ⟨t1, t2, t3⟩ := hB
  have l6 : ln k ≤ 6 := ln_le ⟨k, hk⟩
  try dsimp only
  unfold wX5_isTokenText
  refine ⟨hk, x_len hk ?_⟩
  rw [tk5, tk7, pk_sub hp]
  by_cases z : e = p + ln k
  · try dsimp only
    rw [if_pos (by rw [show e - p = ln k by omega])]
    have lp : ∀ r i, i + r = ln k → (∀ j, j < i → v (p + j) = ch k j) → wX5_isTokenText_20 k (nI i) (tk s e kk p w) Q := by
      intro r i hr hm P hP
      induction r generalizing i with
      | zero =>
        refine hP _ _ _ ?_
        try dsimp only
        unfold wX5_isTokenText_20_b
        refine ⟨hk, x_len hk ?_⟩
        try dsimp only
        rw [if_pos (by rw [nI_leI (by omega) (by omega)]; omega)]
        try dsimp only
        rw [bi_t ⟨z, fun i hi => hm i (by omega)⟩] at hq
        exact hq
      | succ r ih =>
        refine hP _ _ _ ?_
        try dsimp only
        unfold wX5_isTokenText_20_b
        refine ⟨hk, x_len hk ?_⟩
        obtain ⟨v256, v8⟩ := t3 (p + i) (by omega)
        have e8 : gA (tk s e kk p w) 8 (nI (p + i)) = sb (v (p + i)) := by rw [gn (by omega)]; exact v8
        try dsimp only
        rw [if_neg (by rw [nI_leI (by omega) (by omega)]; omega), tk7, nI_add, e8]
        refine ⟨vin (by omega) (by omega), hk, x_char hk (by omega) ?_⟩
        have c128 := (chr_all ⟨k, hk⟩ ⟨i, by omega⟩ (show i < ln k by omega)).2
        by_cases y : v (p + i) = ch k i
        · try dsimp only
          rw [if_pos ((sb_eq v256 c128).mpr y), nI_1]
          refine ih (i + 1) (by omega) (fun j hj => ?_)
          by_cases q : j = i
          · rw [q]; exact y
          · exact hm j (by omega)
        · try dsimp only
          rw [if_neg (fun q => y ((sb_eq v256 c128).mp q))]
          try dsimp only
          rw [bi_f (fun q => y (q.2 i (by omega)))] at hq
          exact hq
    exact lp (ln k) 0 (by omega) (fun j hj => absurd hj (by omega))
  · try dsimp only
    rw [if_neg (by rw [nI_eq (by omega) (by omega)]; omega)]
    try dsimp only
    rw [bi_f (fun q => z q.1)] at hq
    exact hq
/-- the number of a name -/
noncomputable def pick (c : Prop) (a b : Int32) : Int32 := @ite _ c (Classical.propDecidable c) a b
theorem pick_t {c : Prop} {a b : Int32} (h : c) : pick c a b = a := if_pos h
theorem pick_f {c : Prop} {a b : Int32} (h : ¬ c) : pick c a b = b := if_neg h
noncomputable def nmU (v : Nat → Nat) (p e : Nat) : Nat → Int32
  | 0 => -4
  | k + 1 => pick (nmIs v p e k) (nI k) (nmU v p e k)
theorem nmU_s {v : Nat → Nat} {p e k : Nat} : nmU v p e (k + 1) = pick (nmIs v p e k) (nI k) (nmU v p e k) := rfl
noncomputable def nmV (v : Nat → Nat) (p e : Nat) : Int32 := nmU v p e 4
theorem x_name43 {s : St} {t e p : Nat} {v : Nat → Nat} {kk : Int32} (hB : Byt s t v) (hp : p ≤ e) (he : e ≤ t) {Q : St → Prop} {N : Nat} (hN : N = 4) (hq : Q (tk s e (if nmU v p e N = -4 then 4 else 1) p (nmU v p e N))) : ∀ r k, k + r = 4 → wX5_readName_43 (nI k) (tk s e kk p (nmU v p e k)) Q := by
  intro r k hr P hP
  induction r generalizing k with
  | zero =>
    have e4 : k = N := by omega
    subst e4
    refine hP _ _ ?_
    try dsimp only
    unfold wX5_readName_43_b
    try dsimp only
    rw [if_pos (show (4 : Int32) ≤ nI k from nI_le (a := 4) (b := k) (by omega) (by omega)), tk8, tk_6, tk_6]
    by_cases z : nmU v p e k = -4
    · try dsimp only
      rw [if_pos z] at hq ⊢; exact hq
    · try dsimp only
      rw [if_neg z] at hq ⊢; exact hq
  | succ r ih =>
    refine hP _ _ ?_
    try dsimp only
    unfold wX5_readName_43_b
    try dsimp only
    rw [if_neg (show ¬ (4 : Int32) ≤ nI k from nI_ge (a := k) (b := 4) (by omega) (by omega)), nI_1]
    intro r1 hr1
    have ek : r1 = k := by
      rw [hr1]
      have : k = 0 ∨ k = 1 ∨ k = 2 ∨ k = 3 := by omega
      rcases this with rfl | rfl | rfl | rfl <;> decide
    subst ek
    refine x_text hB (by omega) hp he ?_
    have nx := ih (r1 + 1) (by omega)
    rw [nmU_s] at nx
    by_cases z : nmIs v p e r1
    · try dsimp only
      rw [bi_t z, if_neg (by decide), tk_8]
      rw [pick_t z] at nx; exact nx
    · try dsimp only
      rw [bi_f z, if_pos rfl]
      rw [pick_f z] at nx; exact nx
