/-! customs -/
theorem nI_surj (x : Int32) : ∃ p : Nat, x = nI p := ⟨x.toBitVec.toNat, i32_nat (by show _ = (BitVec.ofNat 32 x.toBitVec.toNat).toNat; rw [BitVec.toNat_ofNat, Nat.mod_eq_of_lt x.toBitVec.isLt])⟩
theorem tk_of (s : St) : ∃ k p w, stF s 705 0 = tk s 0 k p w := by
  obtain ⟨p, hp⟩ := nI_surj (gF s 707)
  refine ⟨gF s 706, p, gF s 708, ?_⟩
  unfold tk
  refine st_ext (fun x => ?_) (fun _ _ => rfl)
  simp only [g_FF]
  by_cases h8 : x = 708
  · subst h8; rfl
  · simp only [if_neg h8]
    by_cases h7 : x = 707
    · subst h7; exact hp
    · simp only [if_neg h7]
      by_cases h6 : x = 706
      · subst h6; rfl
      · simp only [if_neg h6]; rfl
theorem tm_of (s : St) : ∃ p k w y, stF (stF s 3017 0) 3013 0 = tm s 0 p k w 0 y := by
  obtain ⟨p, hp⟩ := nI_surj (gF s 3014)
  refine ⟨p, gF s 3015, gF s 3016, gF s 3018, ?_⟩
  unfold tm
  refine st_ext (fun x => ?_) (fun _ _ => rfl)
  simp only [g_FF]
  by_cases h8 : x = 3018
  · subst h8; rfl
  · simp only [if_neg h8]
    by_cases h7 : x = 3017
    · subst h7; rfl
    · simp only [if_neg h7]
      by_cases h6 : x = 3016
      · subst h6; rfl
      · simp only [if_neg h6]
        by_cases h5 : x = 3015
        · subst h5; rfl
        · simp only [if_neg h5]
          by_cases h4 : x = 3014
          · subst h4; exact hp
          · simp only [if_neg h4]; rfl
theorem fil10 {v : Int32} {Q : St → Prop} : ∀ m i s, i + m = 4 → Q (stC s 10 (fil (s.2 10) i 4 v)) → wJ7_fill_53178_10_5 v (nI i) 4 s Q := by
  intro m i s hm hq P hP
  induction m generalizing i s with
  | zero =>
    have e : i = 4 := by omega
    subst e
    rw [fil_0, st_self] at hq
    refine hP _ _ _ _ ?_
    unfold wJ7_fill_53178_10_5_b
    try dsimp only
    rw [if_pos (show (4 : Int32) ≤ nI 4 from nI_le (a := 4) (b := 4) (by omega) (by omega))]
    exact hq
  | succ m ih =>
    refine hP _ _ _ _ ?_
    unfold wJ7_fill_53178_10_5_b
    try dsimp only
    rw [if_neg (show ¬ (4 : Int32) ≤ nI i from nI_ge (a := i) (b := 4) (by omega) (by omega)), nI_1]
    refine ⟨vin (by omega) (by omega), ih (i + 1) _ (by omega) ?_⟩
    try dsimp only
    rw [g_AA, if_pos rfl, cl (by omega), fil_s (by omega), st_AC]
    exact hq
theorem fil40 {Q : Int32 → St → Prop} : ∀ m i s, i + m = 4 → wX8_next (stC s 40 (fil (s.2 40) i 4 (-4))) (fun s2 => wX8_customs_35 s2 Q) → wX8_customs_12 (nI i) s Q := by
  intro m i s hm hq P hP
  induction m generalizing i s with
  | zero =>
    have e : i = 4 := by omega
    subst e
    rw [fil_0, st_self] at hq
    refine hP _ _ ?_
    try dsimp only
    unfold wX8_customs_12_b
    try dsimp only
    rw [if_pos (show (4 : Int32) ≤ nI 4 from nI_le (a := 4) (b := 4) (by omega) (by omega))]
    exact hq
  | succ m ih =>
    refine hP _ _ ?_
    try dsimp only
    unfold wX8_customs_12_b
    try dsimp only
    rw [if_neg (show ¬ (4 : Int32) ≤ nI i from nI_ge (a := i) (b := 4) (by omega) (by omega)), nI_1]
    refine ⟨vin (by omega) (by omega), ih (i + 1) _ (by omega) ?_⟩
    try dsimp only
    rw [g_AA, if_pos rfl, cl (by omega), fil_s (by omega), st_AC]
    exact hq
theorem tm_C {s : St} {i p : Nat} {k w x y : Int32} {f : Nat → Int32} : stC (tm s i p k w x y) 40 f = tm (stC s 40 f) i p k w x y := rfl
theorem y_88 {S : St} {dr : Nat → Int32} (h40 : S.2 40 = dr) {Q : Int32 → St → Prop} (hq : ∀ f, (∀ j, j < 4 → f j = dr j) → Q (nI (nset dr)) (stC S 39 f)) : ∀ r k f, k + r = 4 → (∀ j, j < k → f j = dr j) → wX8_customs_88 (nI (fb_ct (n4 dr) k)) (nI k) (stC S 39 f) Q := by
  intro r k f hr hf P hP
  induction r generalizing k f with
  | zero =>
    have e : k = 4 := by omega
    subst e
    refine hP _ _ _ ?_
    try dsimp only
    unfold wX8_customs_88_b
    try dsimp only
    rw [if_pos (show (4 : Int32) ≤ nI 4 from nI_le (a := 4) (b := 4) (by omega) (by omega))]
    exact hq f hf
  | succ r ih =>
    refine hP _ _ _ ?_
    try dsimp only
    unfold wX8_customs_88_b
    have e40 : gA (stC S 39 f) 40 (nI k) = dr k := by rw [gn (by omega)]; show S.2 40 k = dr k; rw [h40]
    try dsimp only
    rw [if_neg (show ¬ (4 : Int32) ≤ nI k from nI_ge (a := k) (b := 4) (by omega) (by omega)), e40, st_CA, cl (by omega), gC (by omega), upd_s, nI_1 k]
    refine ⟨vin (by omega) (by omega), vin (by omega) (by omega), vin (by omega) (by omega), ?_⟩
    have w := ih (k + 1) (upd f k (dr k)) (by omega) (fun j hj => by
      by_cases e : j = k
      · rw [e, upd_s]
      · rw [upd_n e]; exact hf j (by omega))
    by_cases z : dr k = -4
    · try dsimp only
      rw [if_pos z, acc0 (p := n4 dr) (by rw [n4_iff]; exact fun q => q z)]; exact w
    · try dsimp only
      rw [if_neg z, acc1 (p := n4 dr) (n4_iff.mpr z)]; exact w
theorem bq_bnd {k : Nat} {x : Int32} (hk : k < 4) (h : bq k x) : bnd k x := by
  obtain ⟨a, b⟩ := h
  have lo : ∀ k : Fin 4, 0 ≤ (c_LEAST k.val).toInt := by decide
  have hi : ∀ k : Fin 4, (c_MOST k.val).toInt ≤ 24 := by decide
  have h3 : (c_MOST 3).toInt = 23 := by decide
  have l := lo ⟨k, hk⟩
  have u := hi ⟨k, hk⟩
  have l' : 0 ≤ (c_LEAST k).toInt := l
  have u' : (c_MOST k).toInt ≤ 24 := u
  refine Or.inr ⟨x.toInt.toNat, ?_, by omega, fun e => ?_⟩
  · apply Int32.toInt_inj.mp
    rw [nI_i (by omega)]; omega
  · subst e; omega
def dok (dr : Nat → Int32) : Prop := ∀ k, k < 4 → bnd k (dr k)
theorem dok_upd {dr : Nat → Int32} {k : Nat} {x : Int32} (h : dok dr) (hk : k < 4) (hx : bq k x) : dok (upd dr k x) := fun j hj => by
  by_cases e : j = k
  · rw [e, upd_s]; exact bq_bnd hk hx
  · rw [upd_n e]; exact h j hj
theorem Res_dok {v : Nat → Nat} {t : Nat} {F : Int32} {P : Nat} {dr' : Nat → Int32} : ∀ m dr i, Res v t m dr i F P dr' → dok dr → dok dr' := by
  intro m
  induction m with
  | zero => intro dr i h; exact h.elim
  | succ m ih =>
    intro dr i h hd
    rcases h with st | ⟨dr1, i1, go, r⟩
    · rcases st with ⟨-, ed, -⟩ | ⟨p1', k, -, -, -, ed, -⟩ | ⟨p1', k, p2', -, hNm, -, -, hb, -, ed, -⟩
      · rw [ed]; exact hd
      · rw [ed]; exact hd
      · rw [ed]; exact dok_upd hd hNm.1 hb
    · obtain ⟨p1', k, p2', p3', -, hNm, -, -, hb, -, -, ed, -⟩ := go
      exact ih dr1 i1 r (by rw [ed]; exact dok_upd hd hNm.1 hb)
theorem Res_F {v : Nat → Nat} {t : Nat} {F : Int32} {P : Nat} {dr' : Nat → Int32} : ∀ m dr i, Res v t m dr i F P dr' → F = 0 ∨ F = 1 ∨ F = 2 ∨ F = 3 ∨ F = 4 := by
  intro m
  induction m with
  | zero => intro dr i h; exact h.elim
  | succ m ih =>
    intro dr i h
    rcases h with st | ⟨dr1, i1, go, r⟩
    · rcases st with ⟨-, -, s1⟩ | ⟨p1', k, -, -, -, -, s2⟩ | ⟨p1', k, p2', -, -, -, -, -, -, -, s3⟩
      · rcases s1 with ⟨-, e⟩ | ⟨-, e⟩ | ⟨-, -, -, e⟩ | ⟨k, -, -, -, -, e⟩ <;> simp [e]
      · rcases s2 with ⟨-, e⟩ | ⟨-, -, e⟩ | ⟨-, -, e⟩ <;> simp [e]
      · rcases s3 with ⟨-, e⟩ | ⟨-, -, e⟩ <;> simp [e]
    · exact ih dr1 i1 r
theorem Res_d0 {v : Nat → Nat} {t : Nat} {F : Int32} {P : Nat} : ∀ m dr e i dr', (∀ j, j < 4 → dr j = e j) → Res v t m dr i F P dr' → ∃ dr'', (∀ j, j < 4 → dr' j = dr'' j) ∧ Res v t m e i F P dr'' := by
  intro m
  induction m with
  | zero => intro dr e i dr' _ h; exact h.elim
  | succ m ih =>
    intro dr e i dr' he h
    have hN : ∀ p1 k, Nm v t p1 k dr → Nm v t p1 k e := fun p1 k h => ⟨h.1, h.2.1, h.2.2.1, by rw [← he k h.1]; exact h.2.2.2⟩
    have hU : ∀ k x j, j < 4 → upd dr k x j = upd e k x j := fun k x j hj => by
      by_cases z : j = k
      · rw [z, upd_s, upd_s]
      · rw [upd_n z, upd_n z]; exact he j hj
    rcases h with st | ⟨dr1, i1, go, r⟩
    · rcases st with ⟨a, ed, s1⟩ | ⟨p1', k, a, b, c, ed, s2⟩ | ⟨p1', k, p2', a, b, c, d, hb, f, ed, s3⟩
      · refine ⟨e, by rw [ed]; exact he, Or.inl (Or.inl ⟨a, rfl, ?_⟩)⟩
        rcases s1 with x | x | x | ⟨k, k1, k2, k3, k4, k5⟩
        · exact Or.inl x
        · exact Or.inr (Or.inl x)
        · exact Or.inr (Or.inr (Or.inl x))
        · exact Or.inr (Or.inr (Or.inr ⟨k, k1, k2, k3, by rw [← he k k1]; exact k4, k5⟩))
      · exact ⟨e, by rw [ed]; exact he, Or.inl (Or.inr (Or.inl ⟨p1', k, a, hN _ _ b, c, rfl, s2⟩))⟩
      · exact ⟨upd e k (tV v t p2'), by rw [ed]; exact hU k _, Or.inl (Or.inr (Or.inr ⟨p1', k, p2', a, hN _ _ b, c, d, hb, f, rfl, s3⟩))⟩
    · obtain ⟨p1', k, p2', p3', a, b, c, d, hb, f, g, ed, ei⟩ := go
      obtain ⟨dr'', x1, x2⟩ := ih dr1 (upd e k (tV v t p2')) i1 dr' (by rw [ed]; exact hU k _) r
      exact ⟨dr'', x1, Or.inr ⟨_, i1, ⟨p1', k, p2', p3', a, hN _ _ b, c, d, hb, f, g, rfl, ei⟩, x2⟩⟩
theorem op_customs : Op (fun Q s => wX7_customs s Q) (fun Q s => wX8_customs s Q) := by
  intro s hI K hK
  obtain ⟨n, t, hN⟩ := id hI
  obtain ⟨hP, hB, hF, hC, hT, hX, hZ, hQ⟩ := id hN
  obtain ⟨⟨x1, x2, t100, hY⟩, x3⟩ := id hX
  obtain ⟨v, hv⟩ : ∃ v : Nat → Nat, ∀ i, i < t → v i < 256 ∧ s.2 38 i = nI (v i) ∧ s.2 8 i = sb (v i) := by
    have ex : ∀ i, ∃ u : Nat, i < t → u < 256 ∧ s.2 38 i = nI u ∧ s.2 8 i = sb u := by
      intro i
      by_cases h : i < t
      · obtain ⟨u, u1, u2, u3⟩ := hY i h
        exact ⟨u, fun _ => ⟨u1, u2, u3⟩⟩
      · exact ⟨0, fun z => absurd z h⟩
    exact Classical.axiomOfChoice ex
  have b7 : Byt s t v := ⟨t100, x1, fun i hi => ⟨(hv i hi).1, (hv i hi).2.2⟩⟩
  show wX7_customs s _
  try dsimp only
  unfold wX7_customs wX5_tellAll wJ7_fill_53178_10
  refine fil10 4 0 s (by omega) ?_
  obtain ⟨dr0, hdr⟩ : ∃ dr0, fil (s.2 10) 0 4 (-4) = dr0 := ⟨_, rfl⟩
  have hd0 : ∀ j, j < 4 → dr0 j = -4 := fun j hj => by rw [← hdr]; unfold fil; rw [if_pos (by omega)]
  rw [hdr]
  obtain ⟨k0, p0, w0, e0⟩ := tk_of (stC s 10 dr0)
  rw [e0]
  have n0 : ∀ e : Nat → Int32, (∀ j, j < 4 → e j = -4) → nset e = 0 := fun e h => fb_ct_zero.mpr (fun k hk => by unfold n4; exact decide_eq_false (fun z => z (h k hk)))
  have dk0 : dok dr0 := fun k hk => Or.inl (hd0 k hk)
  try dsimp only
  unfold wX5_readText
  refine x_rt b7 5 0 dr0 0 k0 p0 w0 (by omega) (n0 dr0 hd0) (by omega) (fun F P dr' e k w hR => ?_)
  -- the class is done; the model
  have mod : ∀ (a : Int32) (S : St), Byt8 S t v → gF S 3009 = nI t → (∀ (S' : St) (f39 : Nat → Int32), True) → ((F = 0 → ∀ (dr'' f : Nat → Int32) e p k w y, (∀ j, j < 4 → dr' j = dr'' j) → (∀ j, j < 4 → f j = dr'' j) → K a (nI (nset dr'')) (stC (stF (stF (tm (stC S 40 dr'') e p k w 0 y) 3009 0) 3010 0) 39 f)) ∧ (¬ F = 0 → ∀ (dr'' : Nat → Int32) e p k w, K a (-10 - nI P) (stF (stF (tm (stC S 40 dr'') e p k w F (nI P)) 3009 0) 3010 F))) → wX8_customs S (fun r' s2 => K a r' s2) := by
    intro a S bS _ _ hfin
    try dsimp only
    unfold wX8_customs
    obtain ⟨p9, k9, w9, y9, e9⟩ := tm_of S
    rw [e9]
    refine fil40 4 0 _ (by omega) ?_
    obtain ⟨d9, hd9⟩ : ∃ d9, fil ((tm S 0 p9 k9 w9 0 y9).2 40) 0 4 (-4) = d9 := ⟨_, rfl⟩
    have h9 : ∀ j, j < 4 → d9 j = -4 := fun j hj => by rw [← hd9]; unfold fil; rw [if_pos (by omega)]
    rw [hd9, tm_C]
    obtain ⟨dr'', q1, q2⟩ := Res_d0 5 dr0 d9 0 dr' (fun j hj => by rw [hd0 j hj, h9 j hj]) hR
    have F5 := Res_F 5 dr0 0 hR
    refine y_rt bS (fun hF0 e p k w y => ?_) (fun hF1 e p k w => ?_) 5 d9 0 q2 (by omega) p9 k9 w9 y9 _ (fun s2 h => h)
    · try dsimp only
      unfold wX8_customs_56
      have a1 : gF (stF (tm (stC S 40 dr'') e p k w 0 y) 3009 0) 3017 = 0 := rfl
      have a2 : gF (stF (stF (tm (stC S 40 dr'') e p k w 0 y) 3009 0) 3010 0) 3017 = 0 := rfl
      rw [a1, a2, if_pos (show (0 : Int32) ≤ 0 by decide)]
      have y8 := y_88 (S := stF (stF (tm (stC S 40 dr'') e p k w 0 y) 3009 0) 3010 0) (dr := dr'') rfl (Q := fun r' s2 => K a r' s2) (fun f hf => hfin.1 hF0 dr'' f e p k w y q1 hf) 4 0 ((stF (stF (tm (stC S 40 dr'') e p k w 0 y) 3009 0) 3010 0).2 39) (by omega) (fun j hj => absurd hj (by omega))
      rw [st_self] at y8
      exact y8
    · try dsimp only
      unfold wX8_customs_56
      have a1 : gF (stF (tm (stC S 40 dr'') e p k w F (nI P)) 3009 0) 3017 = F := rfl
      have a2 : gF (stF (stF (tm (stC S 40 dr'') e p k w F (nI P)) 3009 0) 3010 F) 3017 = F := rfl
      have a3 : gF (stF (stF (tm (stC S 40 dr'') e p k w F (nI P)) 3009 0) 3010 F) 3018 = nI P := rfl
      have nF : ¬ F ≤ 0 := by rcases F5 with e | e | e | e | e <;> first | exact absurd e hF1 | (rw [e]; decide)
      rw [a1, a2, a3, if_neg nF]
      exact hfin.2 hF1 dr'' e p k w
  have dk := Res_dok 5 dr0 0 hR dk0
  have e702 : gF (stF (stF (tk (stC s 10 dr') e k P w) 702 F) 701 0) 702 = F := rfl
  have e707 : gF (stF (stF (tk (stC s 10 dr') e k P w) 702 F) 701 0) 707 = nI P := rfl
  rw [e702, e707]
  by_cases hF0 : F = 0
  · try dsimp only
    rw [if_pos hF0]
    unfold cp4
    obtain ⟨f9, hf9⟩ : ∃ f9, va_cpy ((stF (stF (tk (stC s 10 dr') e k P w) 702 F) 701 0).2 10) ((stF (stF (tk (stC s 10 dr') e k P w) 702 F) 701 0).2 9) 0 0 4 = f9 := ⟨_, rfl⟩
    rw [hf9]
    have h9 : ∀ j, j < 4 → f9 j = dr' j := fun j hj => by
      rw [← hf9]
      unfold va_cpy
      try dsimp only
      rw [if_pos (by omega), Nat.sub_zero, Nat.zero_add]
      rfl
    refine x_told ?_
    refine mod _ _ ⟨t100, x2, fun i hi => ⟨(hv i hi).1, (hv i hi).2.1⟩⟩ x2 (fun _ _ => trivial) ⟨fun _ dr'' f e2 p2 k2 w2 y2 q1 qf => ?_, fun c => absurd hF0 c⟩
    have ec : nset dr'' = fb_ct (n4 f9) 4 := fb_ct_cong (fun j hj => by unfold n4; rw [h9 j hj, q1 j hj])
    rw [ec]
    subst hF0
    refine hK _ _ ⟨n, 0, hP, hB, hF, hC, fun j hj => ?_, ⟨⟨rfl, rfl, by omega, fun i hi => absurd hi (by omega)⟩, rfl⟩, hZ, hQ⟩
    show f9 j = f j ∧ bnd j (f j)
    rw [h9 j hj, qf j hj, ← q1 j hj]
    exact ⟨rfl, dk j hj⟩
  · try dsimp only
    rw [if_neg hF0]
    refine mod _ _ ⟨t100, x2, fun i hi => ⟨(hv i hi).1, (hv i hi).2.1⟩⟩ x2 (fun _ _ => trivial) ⟨fun c => absurd c hF0, fun _ dr'' e2 p2 k2 w2 => ?_⟩
    exact hK _ _ ⟨n, 0, hP, hB, hF, hC, hT, ⟨⟨rfl, rfl, by omega, fun i hi => absurd hi (by omega)⟩, rfl⟩, hZ, hQ⟩
