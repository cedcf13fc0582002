/-! fill, the model's side -/
def lsn (x : Nat → Int32) (i : Nat) (w : Nat → Int32) (p : Nat) : Int32 := if i ≤ p ∧ p < 16 ∧ x p = 0 then -4 else w p
theorem y_loosen {s : St} {m x q f : Nat → Int32} {Q : St → Prop} : ∀ r i w, i + r = 16 → Q (m5 s m (lsn x i w) x q f) → wX8_loosen_2 (nI i) (m5 s m w x q f) Q := by
  intro r i w hr hq P hP
  induction r generalizing i w with
  | zero =>
    have e : i = 16 := by omega
    subst e
    refine hP _ _ ?_
    try dsimp only
    unfold wX8_loosen_2_b
    try dsimp only
    rw [if_pos (show (16 : Int32) ≤ nI 16 from nI_le (a := 16) (b := 16) (by omega) (by omega))]
    have e : lsn x 16 w = w := by funext p; unfold lsn; rw [if_neg (by omega)]
    rw [e] at hq
    exact hq
  | succ r ih =>
    have hi : i < 16 := by omega
    refine hP _ _ ?_
    try dsimp only
    unfold wX8_loosen_2_b
    have e43 : gA (m5 s m w x q f) 43 (nI i) = x i := by rw [gn (by omega)]; rfl
    have e42 : gA (m5 s m w x q f) 42 (nI i) = w i := by rw [gn (by omega)]; rfl
    try dsimp only
    rw [if_neg (show ¬ (16 : Int32) ≤ nI i from nI_ge (a := i) (b := 16) (by omega) (by omega)), e43, e42, nI_1, m5_42, m5_42, cl (by omega)]
    refine ⟨vin hi (by omega), ?_⟩
    by_cases h : x i = 0
    · try dsimp only
      rw [if_pos h]
      refine ⟨vin hi (by omega), ih (i + 1) _ (by omega) ?_⟩
      have e : lsn x (i + 1) (upd w i (-4)) = lsn x i w := by
        funext p
        unfold lsn upd
        by_cases c : p = i
        · rw [c, if_neg (by omega), if_pos rfl, if_pos ⟨by omega, hi, h⟩]
        · try dsimp only
          rw [if_neg c]
          by_cases z : i + 1 ≤ p ∧ p < 16 ∧ x p = 0
          · try dsimp only
            rw [if_pos z, if_pos ⟨by omega, z.2⟩]
          · try dsimp only
            rw [if_neg z, if_neg (fun y => z ⟨by omega, y.2⟩)]
      rw [e]; exact hq
    · try dsimp only
      rw [if_neg h]
      refine ⟨vin hi (by omega), vin hi (by omega), ih (i + 1) _ (by omega) ?_⟩
      have e : lsn x (i + 1) (upd w i (w i)) = lsn x i w := by
        rw [fa_upd_same rfl]
        funext p
        unfold lsn
        by_cases c : p = i
        · rw [c, if_neg (by omega), if_neg (fun y => h y.2.2)]
        · by_cases z : i + 1 ≤ p ∧ p < 16 ∧ x p = 0
          · try dsimp only
            rw [if_pos z, if_pos ⟨by omega, z.2⟩]
          · try dsimp only
            rw [if_neg z, if_neg (fun y => z ⟨by omega, y.2⟩)]
      rw [e]; exact hq
theorem y_fix1 {s : St} {m w x q f : Nat → Int32} {l g : Nat} (hl : l < 16) (hg : g < 16) {Q : St → Prop} (hq : Q (m5 s m (upd (upd w l (nI g)) g (nI l)) (upd (upd x l 1) g 1) q f)) : wX8_fix (nI l) (nI g) 1 (m5 s m w x q f) Q := by
  try dsimp only
  unfold wX8_fix wX8_fix_29
  rw [vb_01 (Or.inr rfl), if_neg (by decide), if_neg (by decide), m5_43, m5_43, m5_42, m5_42, cl (by omega), cl (by omega)]
  exact ⟨vin hl (by omega), vin hg (by omega), vin hl (by omega), vin hg (by omega), hq⟩
theorem y_fix0 {s : St} {m w x q f : Nat → Int32} {l g : Nat} (hl : l < 16) (hg : g < 16) {Q : St → Prop} (hq : Q (m5 s m (upd (upd w l (-4)) g (-4)) (upd (upd x l 0) g 0) q f)) : wX8_fix (nI l) (nI g) 0 (m5 s m w x q f) Q := by
  try dsimp only
  unfold wX8_fix wX8_fix_29
  rw [vb_01 (Or.inl rfl), if_pos rfl, if_pos rfl, m5_43, m5_43, m5_42, m5_42, cl (by omega), cl (by omega)]
  exact ⟨vin hl (by omega), vin hg (by omega), vin hl (by omega), vin hg (by omega), hq⟩
theorem all16 {g : Nat} (hg : g < 16) : (65535 : Nat).testBit g = true := by
  have : g = 0 ∨ g = 1 ∨ g = 2 ∨ g = 3 ∨ g = 4 ∨ g = 5 ∨ g = 6 ∨ g = 7 ∨ g = 8 ∨ g = 9 ∨ g = 10 ∨ g = 11 ∨ g = 12 ∨ g = 13 ∨ g = 14 ∨ g = 15 := by omega
  rcases this with rfl | rfl | rfl | rfl | rfl | rfl | rfl | rfl | rfl | rfl | rfl | rfl | rfl | rfl | rfl | rfl <;> decide
theorem cS_bit {E : Nat → Nat → Prop} {M g : Nat} (hg : g < 16) : ∀ l, (cS E M l).1.testBit g = true ↔ ∀ l', l' < l → cl_ E M l' < 16 → g ≠ cl_ E M l' := by
  intro l
  induction l with
  | zero => exact ⟨fun _ l' h => absurd h (by omega), fun _ => all16 hg⟩
  | succ l ih =>
    by_cases z : cl_ E M l < 16
    · rw [cS_y z, clr_bit (cS_lt E M l) z]
      constructor
      · intro h l' hl' z'
        simp at h
        by_cases e : l' = l
        · rw [e]; exact h.2
        · exact ih.mp h.1 l' (by omega) z'
      · intro h
        have a := ih.mpr (fun l' hl' z' => h l' (by omega) z')
        have b := h l (by omega) z
        simp [a, b]
    · rw [cS_n z, ih]
      refine ⟨fun h l' hl' z' => ?_, fun h l' hl' z' => h l' (by omega) z'⟩
      by_cases e : l' = l
      · rw [e] at z'; exact absurd z' z
      · exact h l' (by omega) z'
theorem cS_sum {E : Nat → Nat → Prop} {M : Nat} : ∀ l, (cS E M l).2 + fN E M l = M := by
  intro l
  induction l with
  | zero => show M + 0 = M; rfl
  | succ l ih =>
    by_cases z : cl_ E M l < 16
    · rw [cS_y z, fN_y z]
      have := (cl_ok z).2.2
      show (cS E M l).2 - 1 + _ = M
      omega
    · rw [cS_n z, fN_n z]; exact ih
/-- who is fixed before the lady l -/
def FxI (E : Nat → Nat → Prop) (M l : Nat) (x w : Nat → Int32) : Prop := (∀ p, p < 16 → (¬ x p = 0 ↔ ∃ l', l' < l ∧ cl_ E M l' < 16 ∧ (p = l' ∨ p = cl_ E M l'))) ∧ ∀ l', l' < l → cl_ E M l' < 16 → w l' = nI (cl_ E M l')
theorem FxI.skip {E : Nat → Nat → Prop} {M l : Nat} {x w : Nat → Int32} (h : FxI E M l x w) (z : ¬ cl_ E M l < 16) : FxI E M (l + 1) x w := by
  refine ⟨fun p hp => (h.1 p hp).trans ⟨fun ⟨l', a, b, c⟩ => ⟨l', by omega, b, c⟩, fun ⟨l', a, b, c⟩ => ⟨l', ?_, b, c⟩⟩, fun l' a b => h.2 l' ?_ b⟩
  · have : l' ≠ l := fun e => z (e ▸ b)
    omega
  · have : l' ≠ l := fun e => z (e ▸ b)
    omega
theorem y_fill {s : St} {n d M : Nat} {m : Nat → Int32} {E : Nat → Nat → Prop} (h16 : n ≤ 16) (hd : d < 24) (hM : M ≤ 16) (n2 : gF s 3000 = nI n) (hE : ∀ y g, y < 16 → g < 16 → (¬ m (16 * y + g) = 0 ↔ E y g)) (hE2 : ∀ y g, E y g → (g < n ∧ s.2 31 g = 0) ∧ (y < n ∧ ¬ s.2 31 y = 0)) {Q : Int32 → St → Prop}
    (hq : ∀ w x q f, Q (nI (fN E M n)) (stC (m5 s m w x q f) 37 (fP E M d n (s.2 37)))) : ∀ r l w x q f, l + r = n → FxI E M l x w → wX8_fill_30 (nI d) (nI M) (nI (fN E M l)) (nI l) (m5 s m w x q f) Q := by
  have hE3 : ∀ y g, y < 16 → g < 16 → ¬ m (16 * y + g) = 0 → (g < n ∧ s.2 31 g = 0) ∧ (y < n ∧ ¬ s.2 31 y = 0) := fun y g h1 h2 h3 => hE2 y g ((hE y g h1 h2).mp h3)
  have lad : ∀ l, cl_ E M l < 16 → (cl_ E M l < n ∧ s.2 31 (cl_ E M l) = 0) ∧ (l < n ∧ ¬ s.2 31 l = 0) := fun l z => hE2 _ _ (cl_ok z).2.1
  have fNle : ∀ l, fN E M l ≤ 16 := fun l => by have := cS_sum (E := E) (M := M) l; omega
  intro r l w x q f hr hI P hP
  induction r generalizing l w x q f with
  | zero =>
    have e : l = n := by omega
    subst e
    refine hP _ _ _ _ _ ?_
    try dsimp only
    unfold wX8_fill_30_b
    have en : gF (m5 s m w x q f) 3000 = nI l := n2
    rw [en, if_pos (by rw [nI_leI (by omega) (by omega)]; omega)]
    show wX8_loosen_2 _ _ _
    refine y_loosen 16 0 w (by omega) ?_
    have hw : ∀ k, k < l → ¬ s.2 31 k = 0 → lsn x 0 w k = chI E M k := by
      intro k hk hL
      unfold lsn chI
      by_cases z : cl_ E M k < 16
      · try dsimp only
        rw [if_pos z, if_neg (fun y => (hI.1 k (by omega)).mpr ⟨k, hk, z, Or.inl rfl⟩ y.2.2)]
        exact hI.2 k hk z
      · have x0 : x k = 0 := by
          refine Classical.byContradiction (fun c => ?_)
          obtain ⟨l', a, b, e⟩ := (hI.1 k (by omega)).mp c
          rcases e with e | e
          · exact z (e ▸ b)
          · exact hL (e ▸ (lad l' b).1.2)
        try dsimp only
        rw [if_neg z, if_pos ⟨by omega, by omega, x0⟩]
    have lp : ∀ r k, k + r = l → wX8_fill_174 (nI d) (nI (fN E M l)) (nI k) (stC (m5 s m (lsn x 0 w) x q f) 37 (fP E M d k (s.2 37))) Q := by
      intro r k hr P hP
      induction r generalizing k with
      | zero =>
        have e : k = l := by omega
        subst e
        refine hP _ _ _ _ ?_
        try dsimp only
        unfold wX8_fill_174_b
        have en : gF (stC (m5 s m (lsn x 0 w) x q f) 37 (fP E M d k (s.2 37))) 3000 = nI k := n2
        rw [en, if_pos (by rw [nI_leI (by omega) (by omega)]; omega)]
        exact hq _ _ _ _
      | succ r ih =>
        have hk : k < 16 := by omega
        refine hP _ _ _ _ ?_
        try dsimp only
        unfold wX8_fill_174_b
        have en : gF (stC (m5 s m (lsn x 0 w) x q f) 37 (fP E M d k (s.2 37))) 3000 = nI l := n2
        have e31 : gA (stC (m5 s m (lsn x 0 w) x q f) 37 (fP E M d k (s.2 37))) 31 (nI k) = s.2 31 k := by rw [gn (by omega)]; rfl
        have e42 : gA (stC (m5 s m (lsn x 0 w) x q f) 37 (fP E M d k (s.2 37))) 42 (nI k) = lsn x 0 w k := by rw [gn (by omega)]; rfl
        rw [en, if_neg (by rw [nI_leI (by omega) (by omega)]; omega), e31, e42, nI_1]
        refine ⟨vin hk (by omega), ?_⟩
        by_cases hL : s.2 31 k = 0
        · try dsimp only
          rw [if_pos hL]
          have z : ¬ cl_ E M k < 16 := fun z => (lad k z).2.2 hL
          have w := ih (k + 1) (by omega)
          rw [fP_n z] at w
          exact w
        · try dsimp only
          rw [if_neg hL, hw k (by omega) hL]
          refine ⟨vin hk (by omega), ?_⟩
          by_cases z : cl_ E M k < 16
          · have e1 : chI E M k = nI (cl_ E M k) := by unfold chI; exact if_pos z
            rw [e1, if_neg (m4_ne' (by omega)), e_couple2 z hk hd, st_CC]
            have w := ih (k + 1) (by omega)
            rw [fP_y z] at w
            exact ⟨vin hk (by omega), w⟩
          · have e1 : chI E M k = -4 := by unfold chI; exact if_neg z
            rw [e1, if_pos rfl]
            have w := ih (k + 1) (by omega)
            rw [fP_n z] at w
            exact w
    have go := lp l 0 (by omega)
    have e0 : stC (m5 s m (lsn x 0 w) x q f) 37 (fP E M d 0 (s.2 37)) = m5 s m (lsn x 0 w) x q f := st_self (s := m5 s m (lsn x 0 w) x q f) (k := 37)
    rw [e0] at go
    exact go
  | succ r ih =>
    have hl : l < 16 := by omega
    refine hP _ _ _ _ _ ?_
    try dsimp only
    unfold wX8_fill_30_b
    have en : gF (m5 s m w x q f) 3000 = nI n := n2
    have e31 : gA (m5 s m w x q f) 31 (nI l) = s.2 31 l := by rw [gn (by omega)]; rfl
    rw [en, if_neg (by rw [nI_leI (by omega) (by omega)]; omega), e31]
    refine ⟨vin hl (by omega), ?_⟩
    by_cases hL : s.2 31 l = 0
    · try dsimp only
      rw [if_pos hL]
      have z : ¬ cl_ E M l < 16 := fun z => (lad l z).2.2 hL
      have go := ih (l + 1) w x q f (by omega) (hI.skip z)
      rw [fN_n z] at go
      intro P2 hP2
      refine hP2 _ _ _ _ _ _ _ ?_
      try dsimp only
      unfold wX8_fill_59_b
      try dsimp only
      rw [if_neg (show ¬ (1 : Int32) = 0 by decide), nI_1, ite_self]
      exact go
    · try dsimp only
      rw [if_neg hL]
      -- the gentlemen
      have lp : ∀ k g w x q f, g + k = n → FxI E M l x w → (∀ j, j < g → ¬ okG E l (cS E M l).1 (cS E M l).2 j) → wX8_fill_59 P (nI d) (nI M) (nI (fN E M l)) (nI l) 0 (nI g) (m5 s m w x q f) Q := by
        intro k g w x q f hk hI hno P2 hP2
        induction k generalizing g w x q f with
        | zero =>
          refine hP2 _ _ _ _ _ _ _ ?_
          try dsimp only
          unfold wX8_fill_59_b
          have en : gF (m5 s m w x q f) 3000 = nI n := n2
          rw [en, if_pos (by rw [nI_leI (by omega) (by omega)]; omega), nI_1]
          have c16 : cl_ E M l = 16 := cl_no (fun j hj o => by
            by_cases jg : j < g
            · exact hno j jg o
            · have := (hE2 _ _ o.2.1).1.1
              omega)
          have z : ¬ cl_ E M l < 16 := by omega
          have go := ih (l + 1) w x q f (by omega) (hI.skip z)
          rw [fN_n z] at go
          exact go
        | succ k ihk =>
          have hg : g < 16 := by omega
          refine hP2 _ _ _ _ _ _ _ ?_
          try dsimp only
          unfold wX8_fill_59_b
          have en : gF (m5 s m w x q f) 3000 = nI n := n2
          have e41 : gA (m5 s m w x q f) 41 (nI (16 * l + g)) = m (16 * l + g) := by rw [gn (by omega)]; rfl
          have e43 : gA (m5 s m w x q f) 43 (nI g) = x g := by rw [gn (by omega)]; rfl
          rw [en, if_neg (by rw [nI_leI (by omega) (by omega)]; omega), if_pos rfl, ix16, e41, e43, nI_1 g, nI_1 l]
          refine ⟨vin (by omega) (by omega), ?_⟩
          have nxt : ¬ okG E l (cS E M l).1 (cS E M l).2 g → ∀ w x q f, FxI E M l x w → P2 (nI d) (nI M) (nI (fN E M l)) (nI l) 0 (nI (g + 1)) (m5 s m w x q f) := fun hn w x q f hI => ihk (g + 1) w x q f (by omega) hI (fun j hj => by
            by_cases e : j = g
            · rw [e]; exact hn
            · exact hno j (by omega))
          by_cases hm : m (16 * l + g) = 0
          · try dsimp only
            rw [if_pos hm]
            exact nxt (fun o => (hE l g hl hg).mpr o.2.1 hm) w x q f hI
          · try dsimp only
            rw [if_neg hm]
            refine ⟨vin hg (by omega), ?_⟩
            have Elg := (hE l g hl hg).mp hm
            obtain ⟨⟨gn', Lg⟩, -⟩ := hE2 _ _ Elg
            have gl : g ≠ l := fun e => hL (e ▸ Lg)
            -- free is what isn't fixed
            have fr : ∀ g', g' < 16 → s.2 31 g' = 0 → ((cS E M l).1.testBit g' = true ↔ x g' = 0) := by
              intro g' hg' Lg'
              rw [cS_bit hg']
              constructor
              · intro h
                refine Classical.byContradiction (fun c => ?_)
                obtain ⟨l', a, b, e⟩ := (hI.1 g' hg').mp c
                rcases e with e | e
                · exact (lad l' b).2.2 (e ▸ Lg')
                · exact h l' a b e
              · intro h l' a b e
                exact (hI.1 g' hg').mpr ⟨l', a, b, Or.inr e⟩ h
            by_cases hx : x g = 0
            · try dsimp only
              rw [if_pos hx]
              have xl0 : x l = 0 := by
                refine Classical.byContradiction (fun c => ?_)
                obtain ⟨l', a, b, e⟩ := (hI.1 l hl).mp c
                rcases e with e | e
                · omega
                · exact hL (e ▸ (lad l' b).1.2)
              show wX8_loosen_2 _ _ _
              refine y_loosen 16 0 w (by omega) ?_
              refine y_fix1 hl hg ?_
              refine y_most (s := s) (n := n) (a := l + 1) (m := m) h16 (by omega) n2 hE3 (fun y h1 h2 h3 => ?_) (fun p hp xp => ?_) (fun k' w' q' f' hk' k16 keep => ?_) q f
              · rw [upd_n (fun e : y = g => h2 (e ▸ Lg)), upd_n (by omega)]
                refine Classical.byContradiction (fun c => ?_)
                obtain ⟨l', a, b, e⟩ := (hI.1 y h1).mp c
                rcases e with e | e
                · omega
                · exact h2 (e ▸ (lad l' b).1.2)
              · by_cases e1 : p = g
                · rw [e1, upd_s] at xp; exact absurd xp (by decide)
                · rw [upd_n e1] at xp
                  by_cases e2 : p = l
                  · rw [e2, upd_s] at xp; exact absurd xp (by decide)
                  · rw [upd_n e2] at xp
                    rw [upd_n e1, upd_n e2]
                    unfold lsn
                    try dsimp only
                    rw [if_pos ⟨by omega, hp, xp⟩]
              · have ek : nu (Er E (clr (cS E M l).1 g)) (l + 1) = k' := nu_eq (hk'.cong (fun y g' _ h1 h2 => by
                  unfold Em Er
                  rw [hE y g' h1 h2]
                  refine ⟨fun ⟨a, b⟩ => ⟨a, ?_⟩, fun ⟨a, b⟩ => ⟨a, ?_⟩⟩
                  · have Lg' := (hE2 _ _ a).1.2
                    by_cases e1 : g' = g
                    · rw [e1, upd_s] at b; exact absurd b (by decide)
                    · rw [upd_n e1, upd_n (fun e : g' = l => hL (e ▸ Lg'))] at b
                      rw [clr_bit (cS_lt E M l) hg, (fr g' h2 Lg').mpr b]
                      simp [e1]
                  · have Lg' := (hE2 _ _ a).1.2
                    rw [clr_bit (cS_lt E M l) hg] at b
                    simp at b
                    rw [upd_n b.2, upd_n (fun e : g' = l => hL (e ▸ Lg'))]
                    exact (fr g' h2 Lg').mp b.1))
                have sm := cS_sum (E := E) (M := M) l
                have fl := fNle l
                have keepw : ∀ l', l' < l → cl_ E M l' < 16 → w' l' = nI (cl_ E M l') := by
                  intro l' a b
                  have ne1 : l' ≠ g := fun e => (lad l' b).2.2 (e ▸ Lg)
                  have ne2 : l' ≠ l := by omega
                  have xl' := (hI.1 l' (by omega)).mpr ⟨l', a, b, Or.inl rfl⟩
                  rw [keep l' (by omega) (by rw [upd_n ne1, upd_n ne2]; exact xl'), upd_n ne1, upd_n ne2]
                  unfold lsn
                  try dsimp only
                  rw [if_neg (fun y => xl' y.2.2)]
                  exact hI.2 l' a b
                rw [nI_1, show nI (fN E M l + 1) + nI k' = nI (fN E M l + 1 + k') from nI_add _ _]
                by_cases dn : fN E M l + 1 + k' = M
                · try dsimp only
                  rw [if_pos (by rw [dn])]
                  have ce : cl_ E M l = g := cl_at hg ⟨(fr g hg Lg).mpr hx, Elg, by rw [ek]; omega⟩ hno
                  have z : cl_ E M l < 16 := by omega
                  try dsimp only
                  unfold wX8_fill_133
                  try dsimp only
                  rw [if_neg (by decide), nI_1]
                  refine hP2 _ _ _ _ _ _ _ ?_
                  try dsimp only
                  unfold wX8_fill_59_b
                  try dsimp only
                  rw [if_neg (show ¬ (1 : Int32) = 0 by decide), nI_1, ite_self]
                  have go := ih (l + 1) w' (upd (upd x l 1) g 1) q' f' (by omega) ⟨fun p hp => ?_, fun l' a b => ?_⟩
                  · rw [fN_y z, ← nI_1 l] at go
                    exact go
                  · constructor
                    · intro xp
                      by_cases e1 : p = g
                      · exact ⟨l, by omega, z, Or.inr (by omega)⟩
                      · rw [upd_n e1] at xp
                        by_cases e2 : p = l
                        · exact ⟨l, by omega, z, Or.inl e2⟩
                        · rw [upd_n e2] at xp
                          obtain ⟨l', a, b, e⟩ := (hI.1 p hp).mp xp
                          exact ⟨l', by omega, b, e⟩
                    · rintro ⟨l', a, b, e⟩
                      by_cases e1 : p = g
                      · rw [e1, upd_s]; decide
                      · rw [upd_n e1]
                        by_cases e2 : p = l
                        · rw [e2, upd_s]; decide
                        · rw [upd_n e2]
                          refine (hI.1 p hp).mpr ⟨l', ?_, b, e⟩
                          have : l' ≠ l := fun q => by
                            subst q
                            rcases e with e | e
                            · exact e2 e
                            · exact e1 (e.trans ce)
                          omega
                  · by_cases e : l' = l
                    · rw [e, keep l hl (by rw [upd_n (fun e => gl e.symm), upd_s]; decide), upd_n (fun e => gl e.symm), upd_s, ce]
                    · exact keepw l' (by omega) b
                · try dsimp only
                  rw [if_neg (by rw [nI_eq (by omega) (by omega)]; exact dn)]
                  try dsimp only
                  unfold wX8_fill_133
                  try dsimp only
                  rw [if_pos rfl, nI_1 g]
                  refine y_fix0 hl hg ?_
                  refine nxt (fun o => dn (by have := o.2.2; rw [ek] at this; omega)) _ _ _ _ ⟨fun p hp => ?_, fun l' a b => ?_⟩
                  · have e : upd (upd (upd (upd x l 1) g 1) l 0) g 0 p = x p := by
                      by_cases e1 : p = g
                      · rw [e1, upd_s, hx]
                      · rw [upd_n e1]
                        by_cases e2 : p = l
                        · rw [e2, upd_s, xl0]
                        · rw [upd_n e2, upd_n e1, upd_n e2]
                    rw [e]
                    exact hI.1 p hp
                  · rw [upd_n (fun e : l' = g => (lad l' b).2.2 (e ▸ Lg)), upd_n (by omega)]
                    exact keepw l' a b
            · try dsimp only
              rw [if_neg hx]
              exact nxt (fun o => hx ((fr g hg Lg).mp o.1)) w x q f hI
      exact lp n 0 w x q f (by omega) hI (fun j hj => absurd hj (by omega))
theorem fP_ext {E : Nat → Nat → Prop} {M d n : Nat} {e : Nat → Int32} : ∀ k, (∀ l, n ≤ l → ¬ cl_ E M l < 16) → fP E M d (n + k) e = fP E M d n e ∧ fN E M (n + k) = fN E M n := by
  intro k h
  induction k with
  | zero => exact ⟨rfl, rfl⟩
  | succ k ih => rw [← Nat.add_assoc, fP_n (h _ (by omega)), fN_n (h _ (by omega))]; exact ih
theorem op_fill (a : Int32) : Op (fun Q s => wX7_fill a s Q) (fun Q s => wX8_fill a s Q) := by
  intro s hI K hK
  obtain ⟨n, t, hN⟩ := id hI
  obtain ⟨hP, hB, hF, hC, hT, hX, hZ, hQ⟩ := id hN
  obtain ⟨h16, n1, n2, p1, p2, p3, p4, p5, p6⟩ := id hP
  obtain ⟨mk, m1, m2, m3, m4, m5'⟩ := id hB
  obtain ⟨mf, f1, f2, f3', f4, f5⟩ := id hF
  obtain ⟨N, hN16⟩ : ∃ N : Nat, N = 16 := ⟨16, rfl⟩
  show wX7_fill a s _
  try dsimp only
  unfold wX7_fill
  try dsimp only
  rw [e_dance]
  by_cases ha : vp_in a 24
  · try dsimp only
    rw [bi_t ha, if_neg (by decide)]
    obtain ⟨d, hd, rfl⟩ := vp_in_of ha (by decide)
    refine x_find hN m1 f1 hd (fun f al hal => ?_)
    try dsimp only
    unfold wX3_chooseAll wX3_mostOfAll
    have hal1 : ∀ l, l < 16 → f l = nI (al l) := fun l hl => (hal l hl).1
    have halE : ∀ x g, x < 16 → g < 16 → ((al x).testBit g = true ↔ pa s n mk mf d x g) := fun x g hx hg => ((hal x hx).2.2 g hg).trans ⟨fun z => z.1, fun z => ⟨z, Or.inl hx⟩⟩
    refine x_behind (al := al) (F := 65535) (a := 0) (s0 := stC s 14 f) hal1 (by decide) (by decide) (fun H u M hM M16 => ?_)
    have e4 : stF (stC (stC s 14 f) 16 H) 1303 u = c4 s f (s.2 15) H u := by
      unfold c4
      refine st_ext (fun k => rfl) (fun k j => ?_)
      simp only [g_FA, g_CA]
      by_cases h : k = 15
      · subst h; rfl
      · simp only [if_neg h]
    rw [e4]
    have ch := x_choose (E := pa s n mk mf d) (s := s) hal1 halE M16 (Q := fun s6 => wX7_fill_25 (nI d) 0 0 s6 (fun r s1 => wX8_fill (nI d) s1 (fun r' s2 => K r r' s2))) (fun fb H' u' hfb => ?_) 16 0 (s.2 15) H u (by omega) (fun k hk => absurd hk (by omega)) M16
    · exact ch
    · have xf := x_fill (E := pa s n mk mf d) (M := M) hN16 hd (Q := fun r s1 => wX8_fill (nI d) s1 (fun r' s2 => K r r' s2)) 16 0 (c4 s f fb H' u') ((c4 s f fb H' u').2 12) (by omega) hfb ?_
      · have e0 : stC (c4 s f fb H' u') 12 (fP (pa s n mk mf d) M d 0 ((c4 s f fb H' u').2 12)) = c4 s f fb H' u' := st_self (s := c4 s f fb H' u') (k := 12)
        rw [e0] at xf
        exact xf
      · show wX8_fill (nI d) (stC (c4 s f fb H' u') 12 (fP (pa s n mk mf d) M d N (s.2 12))) _
        generalize hs2 : stC (c4 s f fb H' u') 12 (fP (pa s n mk mf d) M d N (s.2 12)) = s2
        have hP2 : InvP n s2 := by rw [← hs2]; exact hP
        have c34 : s2.2 34 = s.2 34 := by rw [← hs2]; rfl
        have c35 : s2.2 35 = s.2 35 := by rw [← hs2]; rfl
        have c37 : s2.2 37 = s.2 37 := by rw [← hs2]; rfl
        have c31 : s2.2 31 = s.2 31 := by rw [← hs2]; rfl
        have n22 : gF s2 3000 = nI n := by rw [← hs2]; exact n2
        have hpa : ∀ l g, pa s2 n mk mf d l g ↔ pa s n mk mf d l g := by rw [← hs2]; exact fun l g => Iff.rfl
        have hE2 : ∀ y g, pa s n mk mf d y g → (g < n ∧ s2.2 31 g = 0) ∧ (y < n ∧ ¬ s2.2 31 y = 0) := by rw [c31]; exact fun y g z => ⟨z.1, z.2.1⟩
        have hE4 : ∀ l g, pa s n mk mf d l g → (g < n ∧ s.2 31 g = 0) ∧ (l < n ∧ ¬ s.2 31 l = 0) ∧ s.2 37 (24 * g + d) = -4 ∧ s.2 37 (24 * l + d) = -4 := fun l g z => ⟨z.1, z.2.1, why_free z.2.2⟩
        try dsimp only
        unfold wX8_fill
        try dsimp only
        rw [e_in (m := 24) rfl (by decide) (by decide), bi_t ha, if_neg (by decide)]
        have y := y_lay (s := s2) (q := s2.2 44) (f := s2.2 45) (mk := mk) (mf := mf) hP2 (by rw [c34]; exact m3) (by rw [c35]; exact f3') hd (Q := fun s4 => wX8_mostFrom (0 : Int32) s4 (fun r5 s6 => wX8_fill_30 (nI d) r5 0 0 s6 (fun r' s2 => K (nI (fN (pa s n mk mf d) M N)) r' s2))) (fun m w x hm hw hx => ?_) (s2.2 41) (s2.2 42) (s2.2 43)
        · rw [m5_self] at y
          exact y
        · have hmE : ∀ y g, y < 16 → g < 16 → (¬ m (16 * y + g) = 0 ↔ pa s n mk mf d y g) := fun y g h1 h2 => (hm y g h1 h2 (by omega)).2.trans (hpa y g)
          refine y_most (s := s2) (n := n) (a := 0) h16 (by omega) n22 (fun y g h1 h2 h3 => hE2 y g ((hmE y g h1 h2).mp h3)) (fun y h1 _ _ => hx y h1) (fun p hp _ => hw p hp) (fun k' w' q' f' hk' _ _ => ?_) _ _
          have e : k' = M := hk'.one (hM.cong (fun x' g _ h1 h2 => by
            unfold Ed Em
            rw [halE x' g h1 h2, hmE x' g h1 h2]
            exact ⟨fun z => ⟨z.1, hx g h2⟩, fun z => ⟨z.1, all16 h2⟩⟩))
          rw [e]
          have nE : ∀ l, n ≤ l → ¬ cl_ (pa s n mk mf d) M l < 16 := fun l hl z => by
            have := (cl_ok z).2.1.2.1.1
            omega
          obtain ⟨x1, x2⟩ := fP_ext (E := pa s n mk mf d) (M := M) (d := d) (n := n) (e := s.2 37) (N - n) nE
          rw [show n + (N - n) = N by omega] at x1 x2
          refine y_fill (s := s2) (E := pa s n mk mf d) (M := M) h16 hd M16 n22 hmE hE2 (fun w x q f => ?_) n 0 w' x q' f' (by omega) ⟨fun p hp => ⟨fun z => absurd (hx p hp) z, fun ⟨l', a, _⟩ => absurd a (by omega)⟩, fun l' a => absurd a (by omega)⟩
          rw [c37, ← x1, ← x2]
          refine hK _ _ ⟨n, t, ?_⟩
          have iC := fP_inv (M := M) h16 hd hE4 hC N
          subst hs2
          exact ⟨hP, hB, hF, iC, hT, hX, hZ, hQ⟩
  · try dsimp only
    rw [bi_f ha, if_pos rfl]
    try dsimp only
    unfold wX8_fill
    try dsimp only
    rw [e_in (m := 24) rfl (by decide) (by decide), bi_f ha, if_pos rfl]
    exact hK _ _ hI
