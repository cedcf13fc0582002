/-! the model's text; customs -/
theorem y_dead {s : St} {i p : Nat} {k w F y : Int32} (hF : ¬ F ≤ 0) {Q : St → Prop} (hq : Q (tm s i p k w F y)) : wX8_next (tm s i p k w F y) Q := by
  try dsimp only
  unfold wX8_next
  rw [tm7, if_neg hF]
  exact hq
theorem y_33d {s : St} {i p : Nat} {k w F y a : Int32} (hF : ¬ F ≤ 0) {Q : St → Prop} (hq : Q (tm s i p k w F y)) : wX8_custom_33 a (tm s i p k w F y) Q := by
  try dsimp only
  unfold wX8_custom_33
  refine y_dead hF ?_
  rw [tm7, if_neg hF]
  exact hq
theorem le_ne {F : Int32} (hF : ¬ F ≤ 0) : ¬ F = 0 := fun e => hF (by rw [e]; decide)
theorem y_125d {s : St} {i p : Nat} {k w F y : Int32} (hF : ¬ F ≤ 0) {Q : St → Prop} (hq : Q (tm s i p k w F y)) : wX8_custom_125 (tm s i p k w F y) Q := by
  try dsimp only
  unfold wX8_custom_125
  refine y_dead hF ?_
  rw [tm7, if_neg (le_ne hF)]
  try dsimp only
  unfold wX8_custom_141
  exact y_dead hF hq
theorem y_108d {s : St} {i p : Nat} {k w F y a : Int32} (hF : ¬ F ≤ 0) {Q : St → Prop} (hq : Q (tm s i p k w F y)) : wX8_custom_108 a (tm s i p k w F y) Q := by
  try dsimp only
  unfold wX8_custom_108
  rw [tm7, if_neg (le_ne hF)]
  exact y_125d hF hq
theorem y_bnd {s : St} {i p k : Nat} {c w F y : Int32} (hk : k < 4) {Q : St → Prop} (h1 : bq k w → wX8_custom_108 (nI k) (tm s i p c w F y) Q) (h0 : ¬ bq k w → wX8_fails 3 (tm s i p c w F y) (fun s16 => wX8_custom_108 (nI k) s16 Q)) : (if nI k = 0 then wX8_custom_59 (nI k) (tm s i p c w F y) Q else (if nI k = (2 : Int32) then wX8_custom_59 (nI k) (tm s i p c w F y) Q else wX8_custom_64 (nI k) (0 : Int32) (tm s i p c w F y) Q)) := by
  have go : wX8_custom_87 (nI k) (c_LEAST k) (c_MOST k) (tm s i p c w F y) Q := by
    try dsimp only
    unfold wX8_custom_87
    rw [tm6, e_inR, Int32.toInt_toInt64, Int32.toInt_toInt64]
    by_cases hb : bq k w
    · try dsimp only
      rw [bi_t (show (c_LEAST k).toInt ≤ w.toInt ∧ w.toInt ≤ (c_MOST k).toInt from hb), if_neg (by decide)]
      exact h1 hb
    · try dsimp only
      rw [bi_f (show ¬ ((c_LEAST k).toInt ≤ w.toInt ∧ w.toInt ≤ (c_MOST k).toInt) from hb), if_pos rfl]
      exact h0 hb
  try dsimp only
  unfold wX8_custom_59 wX8_custom_64
  have : k = 0 ∨ k = 1 ∨ k = 2 ∨ k = 3 := by omega
  rcases this with rfl | rfl | rfl | rfl
  · try dsimp only
    rw [if_pos (show nI 0 = 0 from rfl), if_neg (show ¬ nI 0 = 1 by decide), if_neg (show ¬ nI 0 = 3 by decide)]; exact go
  · try dsimp only
    rw [if_neg (show ¬ nI 1 = 0 by decide), if_neg (show ¬ nI 1 = 2 by decide), if_pos (show nI 1 = 1 from rfl)]; exact go
  · try dsimp only
    rw [if_neg (show ¬ nI 2 = 0 by decide), if_pos (show nI 2 = 2 from rfl), if_neg (show ¬ nI 2 = 1 by decide), if_neg (show ¬ nI 2 = 3 by decide)]; exact go
  · try dsimp only
    rw [if_neg (show ¬ nI 3 = 0 by decide), if_neg (show ¬ nI 3 = 2 by decide), if_neg (show ¬ nI 3 = 1 by decide), if_pos (show nI 3 = 3 from rfl)]; exact go
theorem tm_40 {s : St} {i p : Nat} {k w x y a b : Int32} {dr : Nat → Int32} : stA (tm (stC s 40 dr) i p k w x y) 40 a b = tm (stC s 40 (upd dr a.toNatClampNeg b)) i p k w x y := by
  refine st_ext (fun j => rfl) (fun j q => ?_)
  unfold tm
  simp only [g_AA, g_FA, g_CA]
  by_cases h : j = 40
  · subst h; rfl
  · simp only [if_neg h]
theorem y_step {s : St} {t : Nat} {v : Nat → Nat} (hB : Byt8 s t v) {F : Int32} {P : Nat} {dr' : Nat → Int32} {Q : Int32 → St → Prop} {P35 : St → Prop} (hP : ∀ s, wX8_customs_35_b P35 s Q → P35 s) (hE0 : F = 0 → ∀ e p k w y, wX8_customs_56 (tm (stC s 40 dr') e p k w 0 y) Q) (hE1 : ¬ F = 0 → ∀ e p k w, wX8_customs_56 (tm (stC s 40 dr') e p k w F (nI P)) Q) {m : Nat} (ih : ∀ dr i, Res v t m dr i F P dr' → i ≤ t → ∀ p k w y, wX8_next (tm (stC s 40 dr) i p k w 0 y) (fun s2 => P35 s2)) : ∀ dr i, Res v t (m + 1) dr i F P dr' → i ≤ t → ∀ p1, p1 = tP v t i → (tK v t p1 = 4 → ∀ e k' w', P35 (tm (stC s 40 dr) e p1 k' w' 1 (nI p1))) ∧ (¬ tK v t p1 = 4 → ∀ y w', (tK v t p1 = 1 ∨ tK v t p1 = 2 → w' = tV v t p1) → P35 (tm (stC s 40 dr) (tE v t p1) p1 (tK v t p1) w' 0 y)) := by
  have hBd : ∀ dr, Byt8 (stC s 40 dr) t v := fun dr => hB
  -- ends
  have ex : ¬ F = 0 → ∀ e p k w, P35 (tm (stC s 40 dr') e p k w F (nI P)) := fun hF e p k w => by
    refine hP _ ?_
    try dsimp only
    unfold wX8_customs_35_b
    rw [tm7, if_neg hF]
    exact hE1 hF e p k w
  have h41 : ¬ (1 : Int32) ≤ 0 := by decide
  have h42 : ¬ (2 : Int32) ≤ 0 := by decide
  have h43 : ¬ (3 : Int32) ≤ 0 := by decide
  have h44 : ¬ (4 : Int32) ≤ 0 := by decide
  -- a custom with a good name
  have nam : ∀ dr e p1 k y, Nm v t p1 k dr → wX8_custom_33 (nI k) (tm (stC s 40 dr) e p1 1 (nI k) 0 y) (fun s4 => P35 s4) → wX8_custom (tm (stC s 40 dr) e p1 1 (nI k) 0 y) (fun s4 => P35 s4) := by
    intro dr e p1 k y hNm hq
    try dsimp only
    unfold wX8_custom wX8_wants
    have e40 : gA (tm (stC s 40 dr) e p1 1 (nI k) 0 y) 40 (nI k) = dr k := by rw [gn (by have := hNm.1; omega)]; rfl
    rw [tm5, if_pos rfl]
    dsimp only
    rw [tm7, if_pos rfl, tm6, e40, if_pos hNm.2.2.2]
    exact ⟨vin hNm.1 (by omega), hq⟩
  -- the loop's head at a custom
  have cus : ∀ dr e p1 K w y, ¬ K = 0 → wX8_custom (tm (stC s 40 dr) e p1 K w 0 y) (fun s4 => P35 s4) → P35 (tm (stC s 40 dr) e p1 K w 0 y) := by
    intro dr e p1 K w y hK hq
    refine hP _ ?_
    try dsimp only
    unfold wX8_customs_35_b
    rw [tm7, if_pos rfl, tm5, if_neg hK]
    exact hq
  -- the number
  have num : ∀ dr e p1 k y, Nm v t p1 k dr → e ≤ t → ∀ p2, p2 = tP v t e → (tK v t p2 = 4 → ∀ e k' w', P35 (tm (stC s 40 dr) e p2 k' w' 1 (nI p2))) → (¬ tK v t p2 = 4 → ¬ tK v t p2 = 2 → ∀ e k' w', P35 (tm (stC s 40 dr) e p2 k' w' 2 (nI p2))) → (tK v t p2 = 2 → ¬ bq k (tV v t p2) → ∀ e k' w', P35 (tm (stC s 40 dr) e p2 k' w' 3 (nI p2))) → (tK v t p2 = 2 → bq k (tV v t p2) → ∀ y, wX8_custom_125 (tm (stC s 40 (upd dr k (tV v t p2))) (tE v t p2) p2 2 (tV v t p2) 0 y) (fun s4 => P35 s4)) → wX8_custom_33 (nI k) (tm (stC s 40 dr) e p1 1 (nI k) 0 y) (fun s4 => P35 s4) := by
    intro dr e p1 k y hNm he p2 hp2 g4 g2 g3 gy
    subst hp2
    have hk := hNm.1
    try dsimp only
    unfold wX8_custom_33
    refine y_tok (hBd dr) he (fun h e k' w' => ?_) (fun h w' hw' => ?_)
    · rw [tm7, if_neg h41]
      exact g4 h e k' w'
    · rw [tm7, if_pos (show (0 : Int32) ≤ 0 by decide)]
      try dsimp only
      unfold wX8_wants
      rw [tm5]
      by_cases k2 : tK v t (tP v t e) = 2
      · try dsimp only
        rw [if_pos k2, k2]
        have ew := hw' (Or.inr k2)
        subst ew
        refine y_bnd hk (fun hb => ?_) (fun hb => ?_)
        · try dsimp only
          unfold wX8_custom_108
          rw [tm7, if_pos rfl, tm6, tm_40, cl (by omega)]
          exact ⟨vin hk (by omega), gy k2 hb y⟩
        · refine y_fails ?_
          exact y_108d h43 (g3 k2 hb _ _ _)
      · try dsimp only
        rw [if_neg k2]
        refine y_fails ?_
        have gd : wX8_custom_108 (nI k) (tm (stC s 40 dr) (tE v t (tP v t e)) (tP v t e) (tK v t (tP v t e)) w' 2 (nI (tP v t e))) (fun s4 => P35 s4) := y_108d h42 (g2 h k2 _ _ _)
        refine y_bnd hk (fun _ => gd) (fun _ => ?_)
        try dsimp only
        unfold wX8_fails
        rw [tm7, if_neg (by decide)]
        exact gd
  -- the semicolon
  have sem : ∀ dr e p2 w y, e ≤ t → ∀ p3, p3 = tP v t e → (tK v t p3 = 4 → ∀ e k' w', P35 (tm (stC s 40 dr) e p3 k' w' 1 (nI p3))) → (¬ tK v t p3 = 4 → ¬ tK v t p3 = 3 → ∀ e k' w', P35 (tm (stC s 40 dr) e p3 k' w' 2 (nI p3))) → (tK v t p3 = 3 → ∀ p k w y, wX8_next (tm (stC s 40 dr) (tE v t p3) p k w 0 y) (fun s2 => P35 s2)) → wX8_custom_125 (tm (stC s 40 dr) e p2 2 w 0 y) (fun s4 => P35 s4) := by
    intro dr e p2 w y he p3 hp3 g4 g2 gy
    subst hp3
    try dsimp only
    unfold wX8_custom_125
    refine y_tok (hBd dr) he (fun h e k' w' => ?_) (fun h w' hw' => ?_)
    · rw [tm7, if_neg (by decide)]
      try dsimp only
      unfold wX8_custom_141
      exact y_dead h41 (g4 h e k' w')
    · rw [tm7, if_pos rfl]
      try dsimp only
      unfold wX8_wants wX8_custom_141
      rw [tm5]
      by_cases k3 : tK v t (tP v t e) = 3
      · try dsimp only
        rw [if_pos k3, k3]; exact gy k3 _ _ _ _
      · try dsimp only
        rw [if_neg k3]
        refine y_fails ?_
        exact y_dead h42 (g2 h k3 _ _ _)
  intro dr i h hi p1 hp1
  obtain ⟨a1, a2⟩ := tP_le (v := v) hi
  rw [← hp1] at a1 a2
  obtain ⟨b1, b2⟩ := tE_le (v := v) a2
  obtain ⟨p2, hp2⟩ : ∃ p2, p2 = tP v t (tE v t p1) := ⟨_, rfl⟩
  obtain ⟨c1, c2⟩ := tP_le (v := v) b2
  rw [← hp2] at c1 c2
  obtain ⟨d1, d2⟩ := tE_le (v := v) c2
  obtain ⟨p3, hp3⟩ : ∃ p3, p3 = tP v t (tE v t p2) := ⟨_, rfl⟩
  obtain ⟨f1, f2⟩ := tP_le (v := v) d2
  rw [← hp3] at f1 f2
  -- behind a good name
  have named : ∀ k, Nm v t p1 k dr → (∀ y, wX8_custom_33 (nI k) (tm (stC s 40 dr) (tE v t p1) p1 1 (nI k) 0 y) (fun s4 => P35 s4)) → (tK v t p1 = 4 → ∀ e k' w', P35 (tm (stC s 40 dr) e p1 k' w' 1 (nI p1))) ∧ (¬ tK v t p1 = 4 → ∀ y w', (tK v t p1 = 1 ∨ tK v t p1 = 2 → w' = tV v t p1) → P35 (tm (stC s 40 dr) (tE v t p1) p1 (tK v t p1) w' 0 y)) := by
    intro k hNm hq
    refine ⟨fun h => absurd (h.symm.trans hNm.2.1) (by decide), fun _ y w' hw' => ?_⟩
    have ew : w' = nI k := (hw' (Or.inl hNm.2.1)).trans hNm.2.2.1
    subst ew
    refine cus _ _ _ _ _ _ (by rw [hNm.2.1]; decide) ?_
    rw [hNm.2.1]
    exact nam dr _ p1 k y hNm (hq y)
  rcases h with st | ⟨dr1, i1, go, r⟩
  · rcases st with ⟨eP, ed, s1⟩ | ⟨p1', k, e1, hNm, eP, ed, s2⟩ | ⟨p1', k, p2', e1, hNm, e2, k2, hb, eP, ed, s3⟩
    · rw [← hp1] at eP
      subst eP ed
      rcases s1 with ⟨k0, F0⟩ | ⟨k4, F1⟩ | ⟨n0, n4', n1, F2⟩ | ⟨k, hk, k1, ek, dk, F4⟩
      · subst F0
        refine ⟨fun h => absurd (h.symm.trans k0) (by decide), fun _ y w' _ => ?_⟩
        refine hP _ ?_
        try dsimp only
        unfold wX8_customs_35_b
        rw [tm7, if_pos rfl, tm5, if_pos k0]
        exact hE0 rfl _ _ _ _ _
      · subst F1
        exact ⟨fun _ e k' w' => ex (by decide) e P k' w', fun h => absurd k4 h⟩
      · subst F2
        refine ⟨fun h => absurd h n4', fun _ y w' _ => ?_⟩
        refine cus _ _ _ _ _ _ n0 ?_
        try dsimp only
        unfold wX8_custom wX8_wants
        rw [tm5, if_neg n1]
        refine y_fails ?_
        dsimp only
        rw [tm7, if_neg (by decide)]
        exact y_33d h42 (ex (by decide) _ _ _ _)
      · subst F4
        refine ⟨fun h => absurd (h.symm.trans k1) (by decide), fun _ y w' hw' => ?_⟩
        have ew : w' = nI k := (hw' (Or.inl k1)).trans ek
        subst ew
        refine cus _ _ _ _ _ _ (by rw [k1]; decide) ?_
        try dsimp only
        unfold wX8_custom wX8_wants
        have e40 : gA (tm (stC s 40 dr') (tE v t P) P (tK v t P) (nI k) 0 y) 40 (nI k) = dr' k := by rw [gn (by omega)]; rfl
        rw [tm5, if_pos k1]
        dsimp only
        rw [tm7, if_pos rfl, tm6, e40, if_neg dk]
        refine ⟨vin hk (by omega), y_fails ?_⟩
        exact y_33d h44 (ex (by decide) _ _ _ _)
    · rw [← hp1] at e1
      subst e1
      rw [← hp2] at eP
      subst eP ed
      refine named k hNm (fun y => ?_)
      rcases s2 with ⟨k4, F1⟩ | ⟨n4', n2, F2⟩ | ⟨k2, nb, F3⟩
      · subst F1
        exact num dr' _ _ k y hNm b2 P hp2 (fun _ e k' w' => ex (by decide) e P k' w') (fun h => absurd k4 h) (fun h => absurd (h.symm.trans k4) (by decide)) (fun h => absurd (h.symm.trans k4) (by decide))
      · subst F2
        exact num dr' _ _ k y hNm b2 P hp2 (fun h => absurd h n4') (fun _ _ e k' w' => ex (by decide) e P k' w') (fun h => absurd h n2) (fun h => absurd h n2)
      · subst F3
        exact num dr' _ _ k y hNm b2 P hp2 (fun h => absurd (h.symm.trans k2) (by decide)) (fun _ h => absurd k2 h) (fun _ _ e k' w' => ex (by decide) e P k' w') (fun _ h => absurd h nb)
    · rw [← hp1] at e1
      subst e1
      rw [← hp2] at e2
      subst e2
      rw [← hp3] at eP
      subst eP ed
      refine named k hNm (fun y => ?_)
      refine num dr _ _ k y hNm b2 p2' hp2 (fun h => absurd (h.symm.trans k2) (by decide)) (fun _ h => absurd k2 h) (fun _ h => absurd hb h) (fun _ _ y => ?_)
      rcases s3 with ⟨k4, F1⟩ | ⟨n4', n3, F2⟩
      · subst F1
        exact sem _ _ _ _ y d2 P hp3 (fun _ e k' w' => ex (by decide) e P k' w') (fun h => absurd k4 h) (fun h => absurd (h.symm.trans k4) (by decide))
      · subst F2
        exact sem _ _ _ _ y d2 P hp3 (fun h => absurd h n4') (fun _ _ e k' w' => ex (by decide) e P k' w') (fun h => absurd h n3)
  · obtain ⟨p1', k, p2', p3', e1, hNm, e2, k2, hb, e3, k3, ed, ei⟩ := go
    rw [← hp1] at e1
    subst e1
    rw [← hp2] at e2
    subst e2
    rw [← hp3] at e3
    subst e3 ed ei
    refine named k hNm (fun y => ?_)
    refine num dr _ _ k y hNm b2 p2' hp2 (fun h => absurd (h.symm.trans k2) (by decide)) (fun _ h => absurd k2 h) (fun _ h => absurd hb h) (fun _ _ y => ?_)
    exact sem _ _ _ _ y d2 p3' hp3 (fun h => absurd (h.symm.trans k3) (by decide)) (fun _ h => absurd k3 h) (fun _ p k w y => ih _ _ r (tE_le f2).2 p k w y)
theorem y_rt {s : St} {t : Nat} {v : Nat → Nat} (hB : Byt8 s t v) {F : Int32} {P : Nat} {dr' : Nat → Int32} {Q : Int32 → St → Prop} (hE0 : F = 0 → ∀ e p k w y, wX8_customs_56 (tm (stC s 40 dr') e p k w 0 y) Q) (hE1 : ¬ F = 0 → ∀ e p k w, wX8_customs_56 (tm (stC s 40 dr') e p k w F (nI P)) Q) : ∀ m dr i, Res v t m dr i F P dr' → i ≤ t → ∀ p k w y (R : St → Prop), (∀ s2, (∀ P35 : St → Prop, (∀ s, wX8_customs_35_b P35 s Q → P35 s) → P35 s2) → R s2) → wX8_next (tm (stC s 40 dr) i p k w 0 y) R := by
  have hBd : ∀ dr, Byt8 (stC s 40 dr) t v := fun dr => hB
  intro m
  induction m with
  | zero => intro dr i h; exact h.elim
  | succ m ih =>
    intro dr i h hi p k w y R hR
    have st := fun (P35 : St → Prop) (hP : ∀ s, wX8_customs_35_b P35 s Q → P35 s) => y_step hB hP hE0 hE1 (fun dr i r hi p k w y => ih dr i r hi p k w y (fun s2 => P35 s2) (fun s2 h => h P35 hP)) dr i h hi (tP v t i) rfl
    exact y_tok (hBd dr) hi (fun h e k' w' => hR _ (fun P35 hP => (st P35 hP).1 h e k' w')) (fun h w' hw' => hR _ (fun P35 hP => (st P35 hP).2 h y w' hw'))
