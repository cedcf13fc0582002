/-! laid: one wish, on both sides -/
def PlE (f F : Nat → Int32) : Prop := ∀ p d, p < 16 → d < 64 → f (64 * p + d) = F (64 * p + d)
theorem PlE.upd {f F : Nat → Int32} (h : PlE f F) (i : Nat) (v : Int32) : PlE (upd f i v) (upd F i v) := fun p d hp hd => by
  by_cases e : 64 * p + d = i
  · rw [e, upd_s, upd_s]
  · rw [upd_n e, upd_n e]; exact h p d hp hd
theorem PlE.cf {f F : Nat → Int32} (h : PlE f F) {p x y : Nat} (hp : p < 16) (hx : x < 64) (hy : y < 64) : PlE (chF f p x y) (chF F p x y) := by
  unfold chF
  rw [h p x hp hx, h p y hp hy]
  exact (h.upd _ _).upd _ _
theorem chF_swap {f : Nat → Int32} {p x y : Nat} (hxy : x ≠ y) : chF f p x y = chF f p y x := by
  unfold chF
  exact fa_upd_swap _ (by omega) _ _
theorem chF_col {f : Nat → Int32} {p a b i : Nat} (hab : a ≠ b) : chF f p a b = chF f p (col a b i) (col a b (i + 1)) := by
  by_cases z : i % 2 = 0
  · rw [col_0 z, col_1 (by omega)]
  · rw [col_1 z, col_0 (by omega)]; exact chF_swap hab
theorem x_lf {s : St} {f F : Nat → Int32} {p a : Nat} (hf : PlE f F) (hp : p < 16) (ha : a < 64) (h1 : F (64 * p + a) = -4) (h2 : ∀ d, d < a → ¬ F (64 * p + d) = -4) {Q : Int32 → St → Prop} (hq : Q (nI a) (stC s 23 f)) : wX6_leastFree (nI p) (stC s 23 f) Q := by
  have lp : ∀ r d, d + r = a → wX6_leastFree_2 (nI p) (nI d) (stC s 23 f) Q := by
    intro r d hr P hP
    induction r generalizing d with
    | zero =>
      have e : d = a := by omega
      subst e
      refine hP _ _ _ ?_
      try dsimp only
      unfold wX6_leastFree_2_b wX6_planned
      have e23 : gA (stC s 23 f) 23 (nI (64 * p + d)) = -4 := by rw [gC (by omega), hf p d hp ha]; exact h1
      try dsimp only
      rw [if_neg (show ¬ (64 : Int32) ≤ nI d from nI_ge (a := d) (b := 64) (by omega) (by omega)), ix64', e23, if_pos rfl]
      exact ⟨vin (by omega) (by omega), hq⟩
    | succ r ih =>
      refine hP _ _ _ ?_
      try dsimp only
      unfold wX6_leastFree_2_b wX6_planned
      have e23 : gA (stC s 23 f) 23 (nI (64 * p + d)) = F (64 * p + d) := by rw [gC (by omega), hf p d hp (by omega)]
      try dsimp only
      rw [if_neg (show ¬ (64 : Int32) ≤ nI d from nI_ge (a := d) (b := 64) (by omega) (by omega)), ix64', e23, if_neg (h2 d (by omega)), nI_1]
      exact ⟨vin (by omega) (by omega), ih (d + 1) (by omega)⟩
  exact lp a 0 (by omega)
theorem y_lf {s : St} {f F : Nat → Int32} {p a : Nat} (hf : PlE f F) (hp : p < 16) (ha : a < 64) (h1 : F (64 * p + a) = -4) (h2 : ∀ d, d < a → ¬ F (64 * p + d) = -4) {Q : Int32 → St → Prop} (hq : Q (nI a) (stC s 49 f)) : wX8_freeOf (nI p) (stC s 49 f) Q := by
  have lp : ∀ r d, d + r = a → wX8_freeOf_2 (nI p) (nI d) (stC s 49 f) Q := by
    intro r d hr P hP
    induction r generalizing d with
    | zero =>
      have e : d = a := by omega
      subst e
      refine hP _ _ _ ?_
      try dsimp only
      unfold wX8_freeOf_2_b
      have e23 : gA (stC s 49 f) 49 (nI (64 * p + d)) = -4 := by rw [gC (by omega), hf p d hp ha]; exact h1
      try dsimp only
      rw [ix64, e23, if_pos rfl]
      exact ⟨vin (by omega) (by omega), hq⟩
    | succ r ih =>
      refine hP _ _ _ ?_
      try dsimp only
      unfold wX8_freeOf_2_b
      have e23 : gA (stC s 49 f) 49 (nI (64 * p + d)) = F (64 * p + d) := by rw [gC (by omega), hf p d hp (by omega)]
      try dsimp only
      rw [ix64, e23, if_neg (h2 d (by omega)), nI_1]
      exact ⟨vin (by omega) (by omega), ih (d + 1) (by omega)⟩
  exact lp a 0 (by omega)
theorem x_chain {L F : Nat → Int32} {g a b : Nat} {s : St} (hS : SY L F) (ha : a < 64) (hb : b < 64) (hab : a ≠ b) (hg : F (64 * g + b) = -4) {Q : St → Prop} : ∀ k i v F' f, ChI L F g a b i v F' → i + k = 16 → PlE f F' → (∀ f', PlE f' (chn k F' (nI (v i)) (col a b i) (col a b (i + 1))) → Q (stC s 23 f')) → wX6_changeRow_6 (nI a) (nI b) (nI (v i)) (nI i) (stC s 23 f) Q := by
  intro k i v F' f hI hk hf hq P hP
  induction k generalizing i v F' f with
  | zero => have := hI.lt; omega
  | succ k ih =>
    have hp := (hI.2.1 i (Nat.le_refl i)).1
    have cA := col_lt (i := i) ha hb
    have cB := col_lt (i := i + 1) ha hb
    obtain ⟨e1, e2, st⟩ := ch_step hS ha hb hab hg hI
    refine hP _ _ _ _ _ ?_
    try dsimp only
    unfold wX6_changeRow_6_b wX6_planned wX6_enter
    have ra : gA (stC s 23 f) 23 (nI (64 * v i + a)) = f (64 * v i + a) := gC (by omega)
    have rb : gA (stC s 23 f) 23 (nI (64 * v i + b)) = f (64 * v i + b) := gC (by omega)
    have em : nI i - nI i / 2 * 2 = nI (i % 2) := fa_rem (a := i) (k := 1) (by omega) (by omega)
    try dsimp only
    rw [if_neg (show ¬ (16 : Int32) ≤ nI i from nI_ge (a := i) (b := 16) (by omega) (by omega)), if_neg (m4_ne' (by omega)), ix64', ix64', ra, rb, st_CA, cl (by omega), st_CA, cl (by omega), em, nI_1]
    refine ⟨vin (by omega) (by omega), vin (by omega) (by omega), vin (by omega) (by omega), vin (by omega) (by omega), by decide, ?_⟩
    have f1 : upd (upd f (64 * v i + a) (f (64 * v i + b))) (64 * v i + b) (f (64 * v i + a)) = chF f (v i) (col a b i) (col a b (i + 1)) := chF_col hab
    rw [f1]
    have hf1 := hf.cf hp cA cB
    have nx : (if nI (i % 2) = 0 then P (nI a) (nI b) (f (64 * v i + a)) (nI (i + 1)) (stC s 23 (chF f (v i) (col a b i) (col a b (i + 1)))) else P (nI a) (nI b) (f (64 * v i + b)) (nI (i + 1)) (stC s 23 (chF f (v i) (col a b i) (col a b (i + 1))))) = P (nI a) (nI b) (F (64 * v i + col a b i)) (nI (i + 1)) (stC s 23 (chF f (v i) (col a b i) (col a b (i + 1)))) := by
      by_cases z : i % 2 = 0
      · try dsimp only
        rw [if_pos (by rw [z]; rfl), ← e1, ← hf _ _ hp cA, col_0 z]
      · try dsimp only
        rw [if_neg (show ¬ nI (i % 2) = 0 from fun w => z ((nI_eq (b := 0) (by omega) (by omega)).mp w)), ← e1, ← hf _ _ hp cA, col_1 z]
    rw [nx]
    rw [chn_s hp, e1] at hq
    rcases st with ⟨z, d⟩ | ⟨q, q1, q2, c⟩
    · rw [z]
      rw [z, chn_n] at hq
      refine hP _ _ _ _ _ ?_
      try dsimp only
      unfold wX6_changeRow_6_b
      try dsimp only
      rw [if_pos rfl, ite_self]
      exact hq _ hf1
    · rw [q2]
      rw [q2] at hq
      have w := ih (i + 1) (updN v (i + 1) q) _ _ c (by omega) hf1
      rw [updN_s, col_2] at w
      exact w hq
theorem y_chain {L F : Nat → Int32} {l g a b : Nat} {s : St} (hS : SY L F) (ha : a < 64) (hb : b < 64) (hab : a ≠ b) (hg : F (64 * g + b) = -4) {Q : St → Prop} : ∀ k i v F' f, ChI L F g a b i v F' → i + k = 16 → PlE f F' → (∀ f', PlE f' (chn k F' (nI (v i)) (col a b i) (col a b (i + 1))) → wX8_lays_121 (nI l) (nI g) (nI a) (stC s 49 f') Q) → wX8_lays_25 (nI l) (nI g) (nI a) (nI b) (nI (v i)) (nI (col a b i)) (stC s 49 f) Q := by
  intro k i v F' f hI hk hf hq P hP
  induction k generalizing i v F' f with
  | zero => have := hI.lt; omega
  | succ k ih =>
    have hp := (hI.2.1 i (Nat.le_refl i)).1
    have cA := col_lt (i := i) ha hb
    have cB := col_lt (i := i + 1) ha hb
    obtain ⟨e1, e2, st⟩ := ch_step hS ha hb hab hg hI
    refine hP _ _ _ _ _ _ _ ?_
    try dsimp only
    unfold wX8_lays_25_b wX8_lays_74
    have ra : gA (stC s 49 f) 49 (nI (64 * v i + a)) = f (64 * v i + a) := gC (by omega)
    have rb : gA (stC s 49 f) 49 (nI (64 * v i + b)) = f (64 * v i + b) := gC (by omega)
    have ew : nI a + nI b - nI (col a b i) = nI (col a b (i + 1)) := by
      by_cases z : i % 2 = 0
      · rw [col_0 z, col_1 (show ¬ (i + 1) % 2 = 0 by omega), nI_add, pk_sub (by omega), show a + b - a = b by omega]
      · rw [col_1 z, col_0 (show (i + 1) % 2 = 0 by omega), nI_add, pk_sub (by omega), show a + b - b = a by omega]
    try dsimp only
    rw [if_neg (m4_ne' (by omega)), ix64, ix64, ra, rb, st_CA, cl (by omega), st_CA, cl (by omega), ew]
    have v1 : vp_in (nI (64 * v i + a)) 1024 := vin (by omega) (by omega)
    have v2 : vp_in (nI (64 * v i + b)) 1024 := vin (by omega) (by omega)
    refine ⟨v1, v2, ?_⟩
    have f1 : upd (upd f (64 * v i + a) (f (64 * v i + b))) (64 * v i + b) (f (64 * v i + a)) = chF f (v i) (col a b i) (col a b (i + 1)) := chF_col hab
    rw [f1]
    have hf1 := hf.cf hp cA cB
    have go : P (nI l) (nI g) (nI a) (nI b) (F (64 * v i + col a b i)) (nI (col a b (i + 1))) (stC s 49 (chF f (v i) (col a b i) (col a b (i + 1)))) := by
      rw [chn_s hp, e1] at hq
      rcases st with ⟨z, d⟩ | ⟨q, q1, q2, c⟩
      · rw [z]
        rw [z, chn_n] at hq
        refine hP _ _ _ _ _ _ _ ?_
        try dsimp only
        unfold wX8_lays_25_b
        try dsimp only
        rw [if_pos rfl]
        exact hq _ hf1
      · rw [q2]
        rw [q2] at hq
        have w := ih (i + 1) (updN v (i + 1) q) _ _ c (by omega) hf1
        rw [updN_s, col_2] at w
        exact w hq
    by_cases z : i % 2 = 0
    · try dsimp only
      rw [if_pos (by rw [col_0 z])]
      rw [← e1, ← hf _ _ hp cA] at go
      have ez : f (64 * v i + col a b i) = f (64 * v i + a) := by rw [col_0 z]
      rw [ez] at go
      exact ⟨v1, v2, go⟩
    · try dsimp only
      rw [if_neg (by rw [col_1 z, nI_eq (by omega) (by omega)]; exact fun e => hab e.symm)]
      rw [← e1, ← hf _ _ hp cA] at go
      have ez : f (64 * v i + col a b i) = f (64 * v i + b) := by rw [col_1 z]
      rw [ez] at go
      exact ⟨v1, v2, go⟩
theorem x_plan1 {L F f : Nat → Int32} {l g : Nat} {s : St} (hS : SY L F) (hl : l < 16) (hg : g < 16) (Lg : L g = 0) (fl : ∃ d, d < 64 ∧ F (64 * l + d) = -4) (fg : ∃ d, d < 64 ∧ F (64 * g + d) = -4) (hf : PlE f F) {Q : St → Prop} (hq : ∀ f', PlE f' (plan1 l g F) → Q (stC s 23 f')) : wX6_planOne (nI l) (nI g) (stC s 23 f) Q := by
  obtain ⟨a, ea, a1, a2, a3⟩ := lf_ok fl
  obtain ⟨b, eb, b1, b2, b3⟩ := lf_ok fg
  unfold plan1 at hq
  rw [ea, eb] at hq
  try dsimp only
  unfold wX6_planOne
  refine x_lf hf hl a1 a2 a3 ?_
  refine x_lf hf hg b1 b2 b3 ?_
  try dsimp only
  rw [if_neg (m4_ne' (by omega)), if_neg (m4_ne' (by omega))]
  have fin : ∀ f1 F1, PlE f1 F1 → (∀ f', PlE f' (upd (upd F1 (64 * l + a) (nI g)) (64 * g + a) (nI l)) → Q (stC s 23 f')) → wX6_planOne_41 (nI l) (nI g) (nI a) (stC s 23 f1) Q := by
    intro f1 F1 h1 h2
    try dsimp only
    unfold wX6_planOne_41 wX6_enter
    try dsimp only
    rw [ix64', ix64', st_CA, cl (by omega), st_CA, cl (by omega)]
    exact ⟨vin (by omega) (by omega), vin (by omega) (by omega), h2 _ ((h1.upd _ _).upd _ _)⟩
  by_cases e : a = b
  · try dsimp only
    rw [if_pos e] at hq
    try dsimp only
    rw [if_pos (by rw [e])]
    exact fin f F hf hq
  · try dsimp only
    rw [if_neg e] at hq
    try dsimp only
    rw [if_neg (by rw [nI_eq (by omega) (by omega)]; exact e)]
    try dsimp only
    unfold wX6_changeRow
    refine x_chain (L := L) (F := F) (g := g) (Q := fun s10 => wX6_planOne_41 (nI l) (nI g) (nI a) s10 Q) hS a1 b1 e b2 16 0 (fun _ => g) F f (ch_0 hg Lg) (by omega) hf (fun f' h' => ?_)
    rw [show col a b 0 = a from col_0 (by decide), show col a b (0 + 1) = b from col_1 (by decide)] at h'
    exact fin f' _ h' hq
theorem y_plan1 {L F f : Nat → Int32} {l g : Nat} {s : St} (hS : SY L F) (hl : l < 16) (hg : g < 16) (Lg : L g = 0) (fl : ∃ d, d < 64 ∧ F (64 * l + d) = -4) (fg : ∃ d, d < 64 ∧ F (64 * g + d) = -4) (hf : PlE f F) {Q : St → Prop} (hq : ∀ f', PlE f' (plan1 l g F) → Q (stC s 49 f')) : wX8_lays (nI l) (nI g) (stC s 49 f) Q := by
  obtain ⟨a, ea, a1, a2, a3⟩ := lf_ok fl
  obtain ⟨b, eb, b1, b2, b3⟩ := lf_ok fg
  unfold plan1 at hq
  rw [ea, eb] at hq
  try dsimp only
  unfold wX8_lays
  refine y_lf hf hl a1 a2 a3 ?_
  refine y_lf hf hg b1 b2 b3 ?_
  have fin : ∀ f1 F1, PlE f1 F1 → (∀ f', PlE f' (upd (upd F1 (64 * l + a) (nI g)) (64 * g + a) (nI l)) → Q (stC s 49 f')) → wX8_lays_121 (nI l) (nI g) (nI a) (stC s 49 f1) Q := by
    intro f1 F1 h1 h2
    try dsimp only
    unfold wX8_lays_121
    try dsimp only
    rw [ix64, ix64, st_CA, cl (by omega), st_CA, cl (by omega)]
    exact ⟨vin (by omega) (by omega), vin (by omega) (by omega), h2 _ ((h1.upd _ _).upd _ _)⟩
  by_cases e : a = b
  · try dsimp only
    rw [if_pos e] at hq
    try dsimp only
    rw [if_pos (by rw [e])]
    exact fin f F hf hq
  · try dsimp only
    rw [if_neg e] at hq
    try dsimp only
    rw [if_neg (by rw [nI_eq (by omega) (by omega)]; exact e)]
    have c0 : nI a = nI (col a b 0) := by rw [col_0 (by decide)]
    have w := y_chain (L := L) (F := F) (l := l) (g := g) (s := s) (Q := Q) hS a1 b1 e b2 16 0 (fun _ => g) F f (ch_0 hg Lg) (by omega) hf (fun f' h' => ?_)
    · rw [← c0] at w
      exact w
    · rw [show col a b 0 = a from col_0 (by decide), show col a b (0 + 1) = b from col_1 (by decide)] at h'
      exact fin f' _ h' hq
