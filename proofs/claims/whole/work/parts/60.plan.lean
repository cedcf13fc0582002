/-! rows of dances: the change of a row of partners -/
def SY (L F : Nat → Int32) : Prop := ∀ p d, p < 16 → d < 64 → F (64 * p + d) = -4 ∨ ∃ q, q < 16 ∧ F (64 * p + d) = nI q ∧ (L p = 0 ↔ ¬ L q = 0) ∧ F (64 * q + d) = nI p
def cv (N : Nat) (F : Nat → Int32) (p : Nat) (x : Int32) : Nat := fb_ct (fun d => decide (F (64 * p + d) = x)) N
def col (a b i : Nat) : Nat := if i % 2 = 0 then a else b
theorem col_0 {a b i : Nat} (h : i % 2 = 0) : col a b i = a := if_pos h
theorem col_1 {a b i : Nat} (h : ¬ i % 2 = 0) : col a b i = b := if_neg h
theorem col_lt {a b i : Nat} (ha : a < 64) (hb : b < 64) : col a b i < 64 := by unfold col; split <;> assumption
theorem col_2 {a b i : Nat} : col a b (i + 1 + 1) = col a b i := by unfold col; rw [show (i + 1 + 1) % 2 = i % 2 by omega]
theorem col_ne {a b i : Nat} (h : a ≠ b) : col a b i ≠ col a b (i + 1) := by
  by_cases z : i % 2 = 0
  · rw [col_0 z, col_1 (by omega)]; exact h
  · rw [col_1 z, col_0 (by omega)]; exact fun e => h e.symm
theorem col_or {a b i c : Nat} (h : c = a ∨ c = b) : c = col a b i ∨ c = col a b (i + 1) := by
  by_cases z : i % 2 = 0
  · rw [col_0 z, col_1 (by omega)]; exact h
  · rw [col_1 z, col_0 (by omega)]; exact h.symm
/-- a row with a and b changed -/
def sw (F : Nat → Int32) (a b p d : Nat) : Int32 := if d = a then F (64 * p + b) else if d = b then F (64 * p + a) else F (64 * p + d)
theorem ix_inj {p q d e : Nat} (hd : d < 64) (he : e < 64) (h : 64 * p + d = 64 * q + e) : p = q ∧ d = e := by omega
theorem SY.sym {L F : Nat → Int32} (h : SY L F) {p q d : Nat} (hp : p < 16) (hq : q < 16) (hd : d < 64) (e : F (64 * p + d) = nI q) : (L p = 0 ↔ ¬ L q = 0) ∧ F (64 * q + d) = nI p := by
  rcases h p d hp hd with z | ⟨r, r1, r2, r3, r4⟩
  · exact absurd (z.symm.trans e) (m4_ne (by omega))
  · have : r = q := (nI_eq (by omega) (by omega)).mp (r2.symm.trans e)
    subst this
    exact ⟨r3, r4⟩
/-- the way of the row: v j met, v i next -/
def ChI (L F : Nat → Int32) (g a b i : Nat) (v : Nat → Nat) (f : Nat → Int32) : Prop := v 0 = g ∧ (∀ j, j ≤ i → v j < 16 ∧ (L (v j) = 0 ↔ j % 2 = 0)) ∧ (∀ j k, j < k → k ≤ i → v j ≠ v k) ∧ (∀ j, j < i → F (64 * v j + col a b j) = nI (v (j + 1))) ∧ (∀ p d, p < 16 → d < 64 → (∀ j, j < i → v j ≠ p) → f (64 * p + d) = F (64 * p + d)) ∧ ∀ j d, j < i → d < 64 → f (64 * v j + d) = sw F a b (v j) d
def ChD (L F : Nat → Int32) (g a b i : Nat) (v : Nat → Nat) (f : Nat → Int32) : Prop := v 0 = g ∧ (∀ j, j ≤ i → v j < 16 ∧ (L (v j) = 0 ↔ j % 2 = 0)) ∧ (∀ j, j < i → F (64 * v j + col a b j) = nI (v (j + 1))) ∧ F (64 * v i + col a b i) = -4 ∧ (∀ p d, p < 16 → d < 64 → (∀ j, j ≤ i → v j ≠ p) → f (64 * p + d) = F (64 * p + d)) ∧ ∀ j d, j ≤ i → d < 64 → f (64 * v j + d) = sw F a b (v j) d
theorem ChI.lt {L F : Nat → Int32} {g a b i : Nat} {v : Nat → Nat} {f : Nat → Int32} (h : ChI L F g a b i v f) : i < 16 := by
  have := fb_holes 16 (i + 1) v (fun j hj => (h.2.1 j (by omega)).1) (fun j k hjk hk => h.2.2.1 j k hjk (by omega))
  omega
/-- one step: the rows of v i are changed; the next is none, or one not met -/
def chF (f : Nat → Int32) (p x y : Nat) : Nat → Int32 := upd (upd f (64 * p + x) (f (64 * p + y))) (64 * p + y) (f (64 * p + x))
theorem ch_step {L F : Nat → Int32} {g a b i : Nat} {v : Nat → Nat} {f : Nat → Int32} (hS : SY L F) (ha : a < 64) (hb : b < 64) (hab : a ≠ b) (hg : F (64 * g + b) = -4) (h : ChI L F g a b i v f) : f (64 * v i + col a b i) = F (64 * v i + col a b i) ∧ f (64 * v i + col a b (i + 1)) = F (64 * v i + col a b (i + 1)) ∧ ((F (64 * v i + col a b i) = -4 ∧ ChD L F g a b i v (chF f (v i) (col a b i) (col a b (i + 1)))) ∨ ∃ q, q < 16 ∧ F (64 * v i + col a b i) = nI q ∧ ChI L F g a b (i + 1) (updN v (i + 1) q) (chF f (v i) (col a b i) (col a b (i + 1)))) := by
  have hlt := h.lt
  obtain ⟨h1, h2, h3, h4, h5, h6⟩ := h
  obtain ⟨hi16, hiL⟩ := h2 i (Nat.le_refl i)
  have cA := col_lt (i := i) ha hb
  have cB := col_lt (i := i + 1) ha hb
  have cne := col_ne (i := i) hab
  have fr : ∀ d, d < 64 → f (64 * v i + d) = F (64 * v i + d) := fun d hd => h5 (v i) d hi16 hd (fun j hj => h3 j i hj (Nat.le_refl i))
  have fA := fr _ cA
  have fB := fr _ cB
  -- the new rows
  have n1 : ∀ p d, p < 16 → d < 64 → (∀ j, j ≤ i → v j ≠ p) → chF f (v i) (col a b i) (col a b (i + 1)) (64 * p + d) = F (64 * p + d) := by
    intro p d hp hd hv
    have ne : ∀ c, c < 64 → 64 * p + d ≠ 64 * v i + c := fun c hc e => hv i (Nat.le_refl i) (ix_inj hd hc e).1.symm
    unfold chF
    rw [upd_n (ne _ cB), upd_n (ne _ cA)]
    exact h5 p d hp hd (fun j hj => hv j (by omega))
  have n2 : ∀ j d, j ≤ i → d < 64 → chF f (v i) (col a b i) (col a b (i + 1)) (64 * v j + d) = sw F a b (v j) d := by
    intro j d hj hd
    unfold chF
    by_cases e : j = i
    · subst e
      rw [fA, fB]
      unfold sw
      by_cases z : j % 2 = 0
      · rw [col_0 z, col_1 (show ¬ (j + 1) % 2 = 0 by omega)]
        by_cases d1 : d = b
        · subst d1; rw [upd_s, if_neg (fun e => hab e.symm), if_pos rfl]
        · rw [upd_n (by omega)]
          by_cases d2 : d = a
          · subst d2; rw [upd_s, if_pos rfl]
          · rw [upd_n (by omega), if_neg d2, if_neg d1]; exact fr d hd
      · rw [col_1 z, col_0 (show (j + 1) % 2 = 0 by omega)]
        by_cases d1 : d = a
        · subst d1; rw [upd_s, if_pos rfl]
        · rw [upd_n (by omega), if_neg d1]
          by_cases d2 : d = b
          · subst d2; rw [upd_s, if_pos rfl]
          · rw [upd_n (by omega), if_neg d2]; exact fr d hd
    · have ne : ∀ c, c < 64 → 64 * v j + d ≠ 64 * v i + c := fun c hc q => h3 j i (by omega) (Nat.le_refl i) (ix_inj hd hc q).1
      rw [upd_n (ne _ cB), upd_n (ne _ cA)]
      exact h6 j d (by omega) hd
  refine ⟨fA, fB, ?_⟩
  rcases hS (v i) (col a b i) hi16 cA with z | ⟨q, q1, q2, q3, q4⟩
  · exact Or.inl ⟨z, h1, h2, h4, z, n1, n2⟩
  · refine Or.inr ⟨q, q1, q2, ?_, fun j hj => ?_, fun j k hjk hk => ?_, fun j hj => ?_, fun p d hp hd hv => ?_, fun j d hj hd => ?_⟩
    · rw [updN_n (by omega)]; exact h1
    · by_cases e : j = i + 1
      · rw [e, updN_s]
        refine ⟨q1, ?_⟩
        constructor
        · intro lq
          have : ¬ L (v i) = 0 := fun z => (q3.mp z) lq
          have : ¬ i % 2 = 0 := fun z => this (hiL.mpr z)
          omega
        · intro par
          have : ¬ i % 2 = 0 := by omega
          exact Classical.byContradiction (fun z => this (hiL.mp (q3.mpr z)))
      · rw [updN_n e]; exact h2 j (by omega)
    · rw [updN_n (show j ≠ i + 1 by omega)]
      by_cases e : k = i + 1
      · rw [e, updN_s]
        intro ej
        -- q is v j: met before
        have jle : j ≤ i := by omega
        have pj : j % 2 = (i + 1) % 2 := by
          have a1 := (h2 j jle).2
          rw [ej] at a1
          by_cases z : i % 2 = 0
          · have : ¬ j % 2 = 0 := fun w => (q3.mp (hiL.mpr z)) (a1.mpr w)
            omega
          · have : L q = 0 := Classical.byContradiction (fun w => z (hiL.mp (q3.mpr w)))
            have := a1.mp this
            omega
        by_cases j0 : j = 0
        · subst j0
          rw [h1] at ej
          have : col a b i = b := col_1 (by omega)
          rw [this, ← ej, hg] at q4
          exact m4_ne (by omega) q4
        · obtain ⟨j', rfl⟩ : ∃ j', j = j' + 1 := ⟨j - 1, by omega⟩
          have e1 := h4 j' (by omega)
          have cj : col a b j' = col a b i := by unfold col; rw [show j' % 2 = i % 2 by omega]
          rw [cj, ej] at e1
          have e2 := (hS.sym (h2 j' (by omega)).1 q1 cA e1).2
          have := (nI_eq (by omega) (by have := (h2 j' (by omega)).1; omega)).mp (q4.symm.trans e2)
          exact h3 j' i (by omega) (Nat.le_refl i) this.symm
      · rw [updN_n e]; exact h3 j k hjk (by omega)
    · by_cases e : j = i
      · subst e; rw [updN_n (by omega), updN_s]; exact q2
      · rw [updN_n (by omega), updN_n (by omega)]; exact h4 j (by omega)
    · exact n1 p d hp hd (fun j hj => by have := hv j (by omega); rw [updN_n (by omega)] at this; exact this)
    · rw [updN_n (by omega)]; exact n2 j d (by omega) hd
theorem chn_n (k : Nat) (f : Nat → Int32) (x y : Nat) : chn k f (-4) x y = f := by
  cases k with
  | zero => rfl
  | succ k => unfold chn; rw [if_pos rfl]
theorem chn_s {k p : Nat} {f : Nat → Int32} {x y : Nat} (hp : p < 16) : chn (k + 1) f (nI p) x y = chn k (chF f p x y) (f (64 * p + x)) y x := by
  rw [chn, if_neg (m4_ne' (by omega)), cl (by omega)]
  rfl
theorem ch_done {L F : Nat → Int32} {g a b : Nat} (hS : SY L F) (ha : a < 64) (hb : b < 64) (hab : a ≠ b) (hg : F (64 * g + b) = -4) : ∀ k i v f, ChI L F g a b i v f → 16 ≤ i + k → ∃ i' v', ChD L F g a b i' v' (chn k f (nI (v i)) (col a b i) (col a b (i + 1))) := by
  intro k
  induction k with
  | zero => intro i v f h hk; have := h.lt; omega
  | succ k ih =>
    intro i v f h hk
    have hi := (h.2.1 i (Nat.le_refl i)).1
    obtain ⟨e1, e2, st⟩ := ch_step hS ha hb hab hg h
    rw [chn_s hi, e1]
    rcases st with ⟨z, d⟩ | ⟨q, q1, q2, c⟩
    · rw [z, chn_n]; exact ⟨i, v, d⟩
    · rw [q2]
      have w := ih (i + 1) (updN v (i + 1) q) _ c (by omega)
      rw [updN_s, col_2] at w
      exact w
theorem ChD.in_ {L F : Nat → Int32} {g a b i : Nat} {v : Nat → Nat} {f : Nat → Int32} (hS : SY L F) (ha : a < 64) (hb : b < 64) (hg : F (64 * g + b) = -4) (h : ChD L F g a b i v f) {j c q : Nat} (hj : j ≤ i) (hc : c = a ∨ c = b) (hq : q < 16) (e : F (64 * v j + c) = nI q) : ∃ k, k ≤ i ∧ v k = q := by
  obtain ⟨h1, h2, h3, h4, h5, h6⟩ := h
  have c64 : c < 64 := by rcases hc with rfl | rfl <;> assumption
  rcases col_or (i := j) hc with z | z
  · by_cases ji : j = i
    · subst ji; rw [z, h4] at e; exact absurd e (m4_ne (by omega))
    · have := h3 j (by omega)
      rw [← z, e] at this
      have w := (h2 (j + 1) (by omega)).1
      exact ⟨j + 1, by omega, ((nI_eq (by omega) (by omega)).mp this).symm⟩
  · by_cases j0 : j = 0
    · subst j0
      have : c = b := z.trans (col_1 (by decide))
      rw [h1, this, hg] at e
      exact absurd e (m4_ne (by omega))
    · obtain ⟨j', rfl⟩ : ∃ j', j = j' + 1 := ⟨j - 1, by omega⟩
      rw [col_2] at z
      have e1 := h3 j' (by omega)
      rw [← z] at e1
      have e2 := (hS.sym (h2 j' (by omega)).1 (h2 (j' + 1) hj).1 c64 e1).2
      have w := (h2 j' (by omega)).1
      exact ⟨j', by omega, (nI_eq (by omega) (by omega)).mp (e2.symm.trans e)⟩
theorem ChD.sy {L F : Nat → Int32} {g a b i : Nat} {v : Nat → Nat} {f : Nat → Int32} (hS : SY L F) (ha : a < 64) (hb : b < 64) (hg : F (64 * g + b) = -4) (h : ChD L F g a b i v f) : SY L f := by
  have hin := fun {j c q : Nat} => h.in_ (j := j) (c := c) (q := q) hS ha hb hg
  obtain ⟨h1, h2, h3, h4, h5, h6⟩ := h
  intro p d hp hd
  by_cases pv : ∃ j, j ≤ i ∧ v j = p
  · obtain ⟨j, j1, rfl⟩ := pv
    rw [h6 j d j1 hd]
    -- the dance that comes to stand at d
    obtain ⟨c, hc, hc64, key⟩ : ∃ c, (d = a ∨ d = b → c = a ∨ c = b) ∧ c < 64 ∧ ∀ r, sw F a b r d = F (64 * r + c) := by
      unfold sw
      by_cases d1 : d = a
      · exact ⟨b, fun _ => Or.inr rfl, hb, fun r => if_pos d1⟩
      · by_cases d2 : d = b
        · exact ⟨a, fun _ => Or.inl rfl, ha, fun r => by rw [if_neg d1, if_pos d2]⟩
        · exact ⟨d, fun z => z, hd, fun r => by rw [if_neg d1, if_neg d2]⟩
    rw [key]
    rcases hS (v j) c hp hc64 with z | ⟨q, q1, q2, q3, q4⟩
    · exact Or.inl z
    · refine Or.inr ⟨q, q1, q2, q3, ?_⟩
      by_cases dd : d = a ∨ d = b
      · obtain ⟨k, k1, rfl⟩ := hin j1 (hc dd) q1 q2
        rw [h6 k d k1 hd, key]; exact q4
      · have ck : ∀ r, F (64 * r + c) = F (64 * r + d) := fun r => by
          rw [← key r]
          unfold sw
          try dsimp only
          rw [if_neg (fun z => dd (Or.inl z)), if_neg (fun z => dd (Or.inr z))]
        by_cases qv : ∃ k, k ≤ i ∧ v k = q
        · obtain ⟨k, k1, rfl⟩ := qv
          rw [h6 k d k1 hd, key]; exact q4
        · rw [h5 q d q1 hd (fun k hk e => qv ⟨k, hk, e⟩), ← ck]; exact q4
  · rw [h5 p d hp hd (fun j hj e => pv ⟨j, hj, e⟩)]
    rcases hS p d hp hd with z | ⟨q, q1, q2, q3, q4⟩
    · exact Or.inl z
    · refine Or.inr ⟨q, q1, q2, q3, ?_⟩
      by_cases qv : ∃ k, k ≤ i ∧ v k = q
      · obtain ⟨k, k1, rfl⟩ := qv
        by_cases dd : d = a ∨ d = b
        · exact absurd (hin k1 dd hp q4) pv
        · rw [h6 k d k1 hd]
          unfold sw
          try dsimp only
          rw [if_neg (fun z => dd (Or.inl z)), if_neg (fun z => dd (Or.inr z))]
          exact q4
      · rw [h5 q d q1 hd (fun k hk e => qv ⟨k, hk, e⟩)]; exact q4
theorem ct_sw {N a b : Nat} (p : Nat → Bool) (ha : a < N) (hb : b < N) : fb_ct (fun d => if d = a then p b else if d = b then p a else p d) N = fb_ct p N := by
  by_cases e : a = b
  · subst e
    apply fb_ct_cong
    intro k hk
    by_cases z : k = a
    · try dsimp only
      rw [if_pos z, z]
    · try dsimp only
      rw [if_neg z, if_neg z]
  · have k1 := fb_ct_upd p (p a) hb
    have k2 := fb_ct_upd (fun d => if d = b then p a else p d) (p b) ha
    try dsimp only
    rw [if_neg e] at k2
    omega
theorem ChD_cv {N : Nat} (hN : N = 64) {L F : Nat → Int32} {g a b i : Nat} {v : Nat → Nat} {f : Nat → Int32} (ha : a < 64) (hb : b < 64) (h : ChD L F g a b i v f) {p : Nat} (hp : p < 16) (x : Int32) : cv N f p x = cv N F p x := by
  obtain ⟨h1, h2, h3, h4, h5, h6⟩ := h
  unfold cv
  by_cases pv : ∃ j, j ≤ i ∧ v j = p
  · obtain ⟨j, j1, rfl⟩ := pv
    have e : fb_ct (fun d => decide (f (64 * v j + d) = x)) N = fb_ct (fun d => if d = a then decide (F (64 * v j + b) = x) else if d = b then decide (F (64 * v j + a) = x) else decide (F (64 * v j + d) = x)) N := by
      apply fb_ct_cong
      intro d hd
      rw [h6 j d j1 (by omega)]
      unfold sw
      by_cases d1 : d = a
      · simp only [if_pos d1]
      · simp only [if_neg d1]
        by_cases d2 : d = b
        · simp only [if_pos d2]
        · simp only [if_neg d2]
    rw [e]
    exact ct_sw (fun d => decide (F (64 * v j + d) = x)) (by omega) (by omega)
  · apply fb_ct_cong
    intro d hd
    rw [h5 p d hp (by omega) (fun j hj e => pv ⟨j, hj, e⟩)]
