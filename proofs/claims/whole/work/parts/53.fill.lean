/-! fill: the choice, and the class's side -/
noncomputable def cb (c : Prop) : Bool := @decide c (Classical.propDecidable c)
theorem cb_iff {c : Prop} : cb c = true ↔ c := @decide_eq_true_iff c (Classical.propDecidable c)
theorem cb_f {c : Prop} (h : ¬ c) : cb c = false := by
  cases e : cb c with
  | false => rfl
  | true => exact absurd (cb_iff.mp e) h
theorem exN (p : Nat → Prop) : ∀ N : Nat, ∃ g, g ≤ N ∧ (g < N → p g) ∧ ∀ k, k < g → ¬ p k := by
  intro N
  induction N with
  | zero => exact ⟨0, Nat.le_refl 0, fun h => absurd h (by omega), fun k h => absurd h (by omega)⟩
  | succ N ih =>
    obtain ⟨g, g1, g2, g3⟩ := ih
    by_cases h : g < N
    · exact ⟨g, by omega, fun _ => g2 h, g3⟩
    · have e : g = N := by omega
      subst e
      by_cases c : p g
      · exact ⟨g, by omega, fun _ => c, g3⟩
      · refine ⟨g + 1, Nat.le_refl _, fun h => absurd h (by omega), fun k hk => ?_⟩
        by_cases z : k = g
        · rw [z]; exact c
        · exact g3 k (by omega)
noncomputable def f16 (p : Nat → Prop) : Nat := Classical.choose (exN p 16)
theorem f16_yes (p : Nat → Prop) (h : f16 p < 16) : p (f16 p) := (Classical.choose_spec (exN p 16)).2.1 h
theorem f16_no (p : Nat → Prop) : ∀ k, k < f16 p → ¬ p k := (Classical.choose_spec (exN p 16)).2.2
theorem f16_le (p : Nat → Prop) : f16 p ≤ 16 := (Classical.choose_spec (exN p 16)).1
theorem f16_none {p : Nat → Prop} (h : ∀ k, k < 16 → ¬ p k) : f16 p = 16 := by
  have a := f16_le p
  by_cases b : f16 p < 16
  · exact absurd (f16_yes p b) (h _ b)
  · omega
theorem f16_at {p : Nat → Prop} {g : Nat} (hg : g < 16) (hp : p g) (h : ∀ k, k < g → ¬ p k) : f16 p = g := by
  by_cases a : f16 p < g
  · exact absurd (f16_yes p (by omega)) (h _ a)
  · by_cases b : g < f16 p
    · exact absurd hp (f16_no p g b)
    · omega
def Er (E : Nat → Nat → Prop) (F : Nat) (x g : Nat) : Prop := E x g ∧ F.testBit g = true
/-- g is right for l: free are F, missing are m -/
def okG (E : Nat → Nat → Prop) (l F m g : Nat) : Prop := F.testBit g = true ∧ E l g ∧ 1 + nu (Er E (clr F g)) (l + 1) = m
noncomputable def cg (E : Nat → Nat → Prop) (l F m : Nat) : Nat := f16 (okG E l F m)
noncomputable def cS (E : Nat → Nat → Prop) (M : Nat) : Nat → Nat × Nat
  | 0 => (65535, M)
  | l + 1 => if cg E l (cS E M l).1 (cS E M l).2 < 16 then (clr (cS E M l).1 (cg E l (cS E M l).1 (cS E M l).2), (cS E M l).2 - 1) else cS E M l
noncomputable def cl_ (E : Nat → Nat → Prop) (M l : Nat) : Nat := cg E l (cS E M l).1 (cS E M l).2
theorem cS_s (E : Nat → Nat → Prop) (M l : Nat) : cS E M (l + 1) = if cl_ E M l < 16 then (clr (cS E M l).1 (cl_ E M l), (cS E M l).2 - 1) else cS E M l := by rw [cS, cl_]
theorem cS_y {E : Nat → Nat → Prop} {M l : Nat} (h : cl_ E M l < 16) : cS E M (l + 1) = (clr (cS E M l).1 (cl_ E M l), (cS E M l).2 - 1) := by rw [cS_s, if_pos h]
theorem cS_n {E : Nat → Nat → Prop} {M l : Nat} (h : ¬ cl_ E M l < 16) : cS E M (l + 1) = cS E M l := by rw [cS_s, if_neg h]
theorem cS_lt (E : Nat → Nat → Prop) (M : Nat) : ∀ l, (cS E M l).1 < 65536 := by
  intro l
  induction l with
  | zero => show 65535 < 65536; decide
  | succ l ih =>
    by_cases h : cl_ E M l < 16
    · rw [cS_y h]; exact clr_lt ih
    · rw [cS_n h]; exact ih
theorem cl_ok {E : Nat → Nat → Prop} {M l : Nat} (h : cl_ E M l < 16) : okG E l (cS E M l).1 (cS E M l).2 (cl_ E M l) := by
  unfold cl_ cg at h ⊢
  exact f16_yes (okG E l (cS E M l).1 (cS E M l).2) h
theorem cl_at {E : Nat → Nat → Prop} {M l g : Nat} (hg : g < 16) (h : okG E l (cS E M l).1 (cS E M l).2 g) (h2 : ∀ k, k < g → ¬ okG E l (cS E M l).1 (cS E M l).2 k) : cl_ E M l = g := by
  unfold cl_ cg
  exact f16_at hg h h2
theorem cl_no {E : Nat → Nat → Prop} {M l : Nat} (h2 : ∀ k, k < 16 → ¬ okG E l (cS E M l).1 (cS E M l).2 k) : cl_ E M l = 16 := by
  unfold cl_ cg
  exact f16_none h2
theorem cl_le (E : Nat → Nat → Prop) (M l : Nat) : cl_ E M l ≤ 16 := by unfold cl_ cg; exact f16_le _
noncomputable def chI (E : Nat → Nat → Prop) (M l : Nat) : Int32 := if cl_ E M l < 16 then nI (cl_ E M l) else -4
noncomputable def fP (E : Nat → Nat → Prop) (M d : Nat) : Nat → (Nat → Int32) → (Nat → Int32)
  | 0, e => e
  | l + 1, e => if cl_ E M l < 16 then prJ (cl_ E M l) l d (fP E M d l e) else fP E M d l e
noncomputable def fN (E : Nat → Nat → Prop) (M l : Nat) : Nat := fb_ct (fun l => decide (cl_ E M l < 16)) l
theorem fN_y {E : Nat → Nat → Prop} {M l : Nat} (h : cl_ E M l < 16) : fN E M (l + 1) = fN E M l + 1 := by unfold fN; rw [fb_ct_succ, if_pos (decide_eq_true h)]
theorem fN_n {E : Nat → Nat → Prop} {M l : Nat} (h : ¬ cl_ E M l < 16) : fN E M (l + 1) = fN E M l := by unfold fN; rw [fb_ct_succ, if_neg (by rw [decide_eq_true_iff]; exact h)]; rfl
theorem fP_y {E : Nat → Nat → Prop} {M d l : Nat} {e : Nat → Int32} (h : cl_ E M l < 16) : fP E M d (l + 1) e = prJ (cl_ E M l) l d (fP E M d l e) := by rw [fP, if_pos h]
theorem fP_n {E : Nat → Nat → Prop} {M d l : Nat} {e : Nat → Int32} (h : ¬ cl_ E M l < 16) : fP E M d (l + 1) e = fP E M d l e := by rw [fP, if_neg h]
theorem cS_mono {E : Nat → Nat → Prop} {M : Nat} {g : Nat} : ∀ k l, (cS E M (l + k)).1.testBit g = true → (cS E M l).1.testBit g = true := by
  intro k
  induction k with
  | zero => intro l h; exact h
  | succ k ih =>
    intro l h
    refine ih l ?_
    rw [← Nat.add_assoc] at h
    by_cases z : cl_ E M (l + k) < 16
    · rw [cS_y z, clr_bit (cS_lt E M _) z] at h
      simp at h
      exact h.1
    · rw [cS_n z] at h; exact h
theorem cS_gone {E : Nat → Nat → Prop} {M l k : Nat} (hl : l < k) (h : cl_ E M l < 16) : (cS E M k).1.testBit (cl_ E M l) = false := by
  cases e : (cS E M k).1.testBit (cl_ E M l) with
  | false => rfl
  | true =>
    have : (cS E M (l + 1)).1.testBit (cl_ E M l) = true := cS_mono (k - (l + 1)) (l + 1) (by rw [show l + 1 + (k - (l + 1)) = k by omega]; exact e)
    rw [cS_y h, clr_bit (cS_lt E M _) h] at this
    simp at this
/-- the cards at the dance d -/
theorem fP_at {E : Nat → Nat → Prop} {M d p d' : Nat} {e : Nat → Int32} (hd : d < 24) (hd' : d' < 24) : ∀ k, (d' = d → ∀ l, l < k → cl_ E M l < 16 → p ≠ l ∧ p ≠ cl_ E M l) → fP E M d k e (24 * p + d') = e (24 * p + d') := by
  intro k
  induction k with
  | zero => intro _; rfl
  | succ k ih =>
    intro h
    by_cases z : cl_ E M k < 16
    · rw [fP_y z]
      unfold prJ
      rw [upd_n, upd_n]
      · exact ih (fun hd l hl => h hd l (by omega))
      · intro q
        obtain ⟨a, b⟩ := ixi hd' hd q
        exact (h b k (by omega) z).2 a
      · intro q
        obtain ⟨a, b⟩ := ixi hd' hd q
        exact (h b k (by omega) z).1 a
    · rw [fP_n z]; exact ih (fun hd l hl => h hd l (by omega))
theorem fP_inv {n d M : Nat} {E : Nat → Nat → Prop} {L c e : Nat → Int32} (h16 : n ≤ 16) (hd : d < 24) (hE : ∀ l g, E l g → (g < n ∧ L g = 0) ∧ (l < n ∧ ¬ L l = 0) ∧ c (24 * g + d) = -4 ∧ c (24 * l + d) = -4) (hC : InvC n L e c) : ∀ k, InvC n L (fP E M d k e) (fP E M d k c) := by
  intro k
  induction k with
  | zero => exact hC
  | succ k ih =>
    by_cases z : cl_ E M k < 16
    · rw [fP_y z, fP_y z]
      obtain ⟨o1, o2, o3⟩ := cl_ok z
      obtain ⟨e1, e2, e3, e4⟩ := hE _ _ o2
      refine ih.pair h16 e1.1 e2.1 hd e1.2 e2.2 ?_ ?_
      · rw [fP_at hd hd k]
        · exact e3
        · intro _ l hl zl
          refine ⟨fun q => ?_, fun q => ?_⟩
          · exact (hE _ _ (cl_ok zl).2.1).2.1.2 (q ▸ e1.2)
          · have := cS_gone hl zl
            rw [← q, o1] at this
            exact absurd this (by decide)
      · rw [fP_at hd hd k]
        · exact e4
        · intro _ l hl zl
          refine ⟨fun q => by omega, fun q => ?_⟩
          exact e2.2 (q ▸ (hE _ _ (cl_ok zl).2.1).1.2)
    · rw [fP_n z, fP_n z]; exact ih
/-- the class's rows: allowed, chosen, holder, untried -/
def c4 (s : St) (a b H : Nat → Int32) (u : Int32) : St := stF (stC (stC (stC s 14 a) 15 b) 16 H) 1303 u
theorem c4_nrm {s : St} {a b H H' : Nat → Int32} {u u' : Int32} : stF (stC (c4 s a b H u) 16 H') 1303 u' = c4 s a b H' u' := by
  unfold c4
  refine st_ext (fun j => ?_) (fun j x => ?_)
  · rw [g_FF, g_FF, g_CF, g_FF, g_CF, g_CF]
    by_cases h : j = 1303
    · try dsimp only
      rw [if_pos h, if_pos h]
    · try dsimp only
      rw [if_neg h, if_neg h, if_neg h]; rfl
  · simp only [g_FA, g_CA]
    by_cases h : j = 16
    · simp only [if_pos h]
    · simp only [if_neg h]
theorem c4_15 {s : St} {a b H : Nat → Int32} {u i v : Int32} : stA (c4 s a b H u) 15 i v = c4 s a (upd b i.toNatClampNeg v) H u := by
  refine st_ext (fun k => rfl) (fun k j => ?_)
  unfold c4
  simp only [g_AA, g_FA, g_CA]
  by_cases h : k = 15
  · subst h; rfl
  · simp only [if_neg h]
theorem c4_self (s : St) : c4 s (s.2 14) (s.2 15) (s.2 16) (gF s 1303) = s := by
  unfold c4
  refine st_ext (fun k => ?_) (fun k j => ?_)
  · rw [g_FF]
    by_cases h : k = 1303
    · try dsimp only
      rw [if_pos h, h]
    · try dsimp only
      rw [if_neg h]; rfl
  · simp only [g_FA, g_CA]
    repeat' split
    all_goals first | rfl | (rename_i h; rw [h])
theorem c4_sim (s : St) (a b H : Nat → Int32) (u : Int32) : sim s (c4 s a b H u) := ((((sim.rf s).tr (sim.C (by decide))).tr (sim.C (by decide))).tr (sim.C (by decide))).tr (sim.F (by decide))
theorem x_least {E : Nat → Nat → Prop} {al : Nat → Nat} {s : St} {fa fb : Nat → Int32} {l F m : Nat} (hal : ∀ l, l < 16 → fa l = nI (al l)) (hE : ∀ x g, x < 16 → g < 16 → ((al x).testBit g = true ↔ E x g)) (hl : l < 16) (hF : F < 65536) (hm : m ≤ 16) {Q : Int32 → St → Prop} (hq : ∀ H u, Q (if cg E l F m < 16 then nI (cg E l F m) else -4) (c4 s fa fb H u)) : ∀ H u, wX3_leastFor (nI l) (nI F) (nI m) (c4 s fa fb H u) Q := by
  have lp : ∀ r g H u, g + r = 16 → (∀ k, k < g → ¬ okG E l F m k) → wX3_leastFor_3 (nI l) (nI F) (nI m) (nI g) (c4 s fa fb H u) Q := by
    intro r g H u hr hn P hP
    induction r generalizing g H u with
    | zero =>
      have e : g = 16 := by omega
      subst e
      refine hP _ _ _ _ _ ?_
      try dsimp only
      unfold wX3_leastFor_3_b
      try dsimp only
      rw [if_pos (show (16 : Int32) ≤ nI 16 from nI_le (a := 16) (b := 16) (by omega) (by omega))]
      have c : cg E l F m = 16 := by unfold cg; exact f16_none hn
      have := hq H u
      rw [c, if_neg (by omega)] at this
      exact this
    | succ r ih =>
      have hg : g < 16 := by omega
      refine hP _ _ _ _ _ ?_
      try dsimp only
      unfold wX3_leastFor_3_b
      try dsimp only
      rw [if_neg (show ¬ (16 : Int32) ≤ nI g from nI_ge (a := g) (b := 16) (by omega) (by omega)), nI_1 g, nI_1 l]
      have e14 : gA (c4 s fa fb H u) 14 (nI l) = nI (al l) := by rw [gn (by omega)]; exact hal l hl
      rw [e14, fa_and]
      refine ⟨vin hl (by omega), ?_⟩
      have eb : (nI (al l &&& F) &&& (1 : Int32) <<< (nI g &&& 31) = 0) = (((al l).testBit g && F.testBit g) = false) := by rw [bit0 hg, Nat.testBit_and]
      by_cases hb : ((al l).testBit g && F.testBit g) = false
      · try dsimp only
        rw [if_pos (eb.mpr hb)]
        refine ih (g + 1) H u (by omega) (fun k hk => ?_)
        by_cases e : k = g
        · rw [e]
          rintro ⟨o1, o2, -⟩
          rw [o1, (hE l g hl hg).mpr o2] at hb
          exact absurd hb (by decide)
        · exact hn k (by omega)
      · try dsimp only
        rw [if_neg (fun z => hb (eb.mp z)), bit_clr hg]
        have hb2 : (al l).testBit g = true ∧ F.testBit g = true := by simpa using hb
        refine x_behind (al := al) (F := clr F g) (a := l + 1) (s0 := c4 s fa fb H u) (fun l hl => hal l hl) (clr_lt hF) (by omega) (fun H' u' k hk k16 => ?_)
        rw [c4_nrm]
        have ek : nu (Er E (clr F g)) (l + 1) = k := nu_eq (hk.cong (fun x g' _ h1 h2 => by unfold Ed Er; rw [hE x g' h1 h2]))
        rw [show (1 : Int32) + nI k = nI (1 + k) from nI_add 1 k]
        by_cases e : 1 + k = m
        · try dsimp only
          rw [if_pos (by rw [e])]
          have c : cg E l F m = g := by unfold cg; exact f16_at hg ⟨hb2.2, (hE l g hl hg).mp hb2.1, by rw [ek]; exact e⟩ hn
          have := hq H' u'
          rw [c, if_pos hg] at this
          exact this
        · try dsimp only
          rw [if_neg (by rw [nI_eq (by omega) (by omega)]; exact e)]
          refine ih (g + 1) H' u' (by omega) (fun k' hk' => ?_)
          by_cases e' : k' = g
          · rw [e']
            rintro ⟨-, -, o3⟩
            rw [ek] at o3
            exact e o3
          · exact hn k' (by omega)
  intro H u
  exact lp 16 0 H u (by omega) (fun k hk => absurd hk (by omega))
theorem x_choose {E : Nat → Nat → Prop} {al : Nat → Nat} {s : St} {fa : Nat → Int32} (hal : ∀ l, l < 16 → fa l = nI (al l)) (hE : ∀ x g, x < 16 → g < 16 → ((al x).testBit g = true ↔ E x g)) {M : Nat} (hM : M ≤ 16) {Q : St → Prop} (hq : ∀ fb H u, (∀ l, l < 16 → fb l = chI E M l) → Q (c4 s fa fb H u)) : ∀ r l fb H u, l + r = 16 → (∀ k, k < l → fb k = chI E M k) → (cS E M l).2 ≤ 16 → wX3_chooseAll_10 (nI (cS E M l).1) (nI (cS E M l).2) (nI l) (c4 s fa fb H u) Q := by
  intro r l fb H u hr hfb hm P hP
  induction r generalizing l fb H u with
  | zero =>
    have e : l = 16 := by omega
    subst e
    refine hP _ _ _ _ ?_
    try dsimp only
    unfold wX3_chooseAll_10_b
    try dsimp only
    rw [if_pos (show (16 : Int32) ≤ nI 16 from nI_le (a := 16) (b := 16) (by omega) (by omega))]
    exact hq fb H u hfb
  | succ r ih =>
    have hl : l < 16 := by omega
    refine hP _ _ _ _ ?_
    try dsimp only
    unfold wX3_chooseAll_10_b
    try dsimp only
    rw [if_neg (show ¬ (16 : Int32) ≤ nI l from nI_ge (a := l) (b := 16) (by omega) (by omega)), nI_1 l]
    refine x_least (E := E) hal hE hl (cS_lt E M l) hm (fun H' u' => ?_) H u
    rw [c4_15, cl (by omega)]
    refine ⟨vin hl (by omega), vin hl (by omega), ?_⟩
    have fb' : ∀ v, v = chI E M l → ∀ k, k < l + 1 → upd fb l v k = chI E M k := by
      intro v hv k hk
      by_cases e : k = l
      · rw [e, upd_s]; exact hv
      · rw [upd_n e]; exact hfb k (by omega)
    have ec : (if cg E l (cS E M l).1 (cS E M l).2 < 16 then nI (cg E l (cS E M l).1 (cS E M l).2) else -4) = chI E M l := by unfold chI cl_; rfl
    rw [ec]
    have e15 : gA (c4 s fa (upd fb l (chI E M l)) H' u') 15 (nI l) = chI E M l := by rw [gn (by omega)]; exact upd_s
    rw [e15]
    by_cases z : cl_ E M l < 16
    · have e1 : chI E M l = nI (cl_ E M l) := by unfold chI; exact if_pos z
      rw [e1, if_neg (m4_ne' (by omega)), bit_clr z]
      have o := (cl_ok z).2.2
      have w := ih (l + 1) (upd fb l (nI (cl_ E M l))) H' u' (by omega) (fb' _ e1.symm) (by rw [cS_y z]; show _ - 1 ≤ 16; omega)
      rw [cS_y z] at w
      refine ⟨vin hl (by omega), ?_⟩
      have e2 : nI (cS E M l).2 + (-1) = nI ((cS E M l).2 - 1) := by
        obtain ⟨j, hj⟩ : ∃ j, (cS E M l).2 = j + 1 := ⟨(cS E M l).2 - 1, by omega⟩
        rw [hj, show nI (j + 1) + (-1) = nI (j + 1) - 1 from by rw [Int32.sub_eq_add_neg], nI_pred]
        rfl
      rw [e2]
      exact w
    · have e1 : chI E M l = -4 := by unfold chI; exact if_neg z
      rw [e1, if_pos rfl]
      have w := ih (l + 1) (upd fb l (-4)) H' u' (by omega) (fb' _ e1.symm) (by rw [cS_n z]; exact hm)
      rw [cS_n z] at w
      exact w
theorem x_fill {E : Nat → Nat → Prop} {M d N : Nat} (hN : N = 16) (hd : d < 24) {Q : Int32 → St → Prop} : ∀ r l s e, l + r = 16 → (∀ k, k < 16 → s.2 15 k = chI E M k) → Q (nI (fN E M N)) (stC s 12 (fP E M d N e)) → wX7_fill_25 (nI d) (nI (fN E M l)) (nI l) (stC s 12 (fP E M d l e)) Q := by
  intro r l s e hr hc hq P hP
  induction r generalizing l with
  | zero =>
    have e : l = N := by omega
    subst e
    refine hP _ _ _ _ ?_
    try dsimp only
    unfold wX7_fill_25_b
    try dsimp only
    rw [if_pos (show (16 : Int32) ≤ nI l from nI_le (a := 16) (b := l) (by omega) (by omega))]
    exact hq
  | succ r ih =>
    have hl : l < 16 := by omega
    refine hP _ _ _ _ ?_
    try dsimp only
    unfold wX7_fill_25_b
    have e15 : gA (stC s 12 (fP E M d l e)) 15 (nI l) = chI E M l := by rw [gn (by omega)]; exact hc l hl
    try dsimp only
    rw [if_neg (show ¬ (16 : Int32) ≤ nI l from nI_ge (a := l) (b := 16) (by omega) (by omega)), nI_1 l, e15]
    refine ⟨vin hl (by omega), ?_⟩
    by_cases z : cl_ E M l < 16
    · have e1 : chI E M l = nI (cl_ E M l) := by unfold chI; exact if_pos z
      rw [e1, if_neg (m4_ne' (by omega)), e_join z hl hd, st_CC, nI_1]
      have w := ih (l + 1) (by omega)
      rw [fN_y z, fP_y z] at w
      exact w
    · have e1 : chI E M l = -4 := by unfold chI; exact if_neg z
      rw [e1, if_pos rfl]
      have w := ih (l + 1) (by omega)
      rw [fN_n z, fP_n z] at w
      exact w
