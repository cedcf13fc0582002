/-! the model's placing -/
theorem pm1 (w : Nat) : nI w - 1 + 1 = nI w := by rw [Int32.sub_add_cancel]
theorem y_std {s : St} {mf B G : Nat → Nat} {d K n : Nat} (hd : d < 24) (hC : Cpl s B G d K) (f3' : ∀ i j, i < 16 → j < 16 → s.2 35 (16 * i + j) = if (mf i).testBit j then 1 else 0) (n8 : n ≤ 8) {Q : Int32 → St → Prop} {P : Int32 → Int32 → Int32 → St → Prop} (hP : ∀ (a1 : Int32) (a2 : Int32) (a3 : Int32) (s : St), wX8_stand_9_b P a1 a2 a3 s Q → P a1 a2 a3 s) : ∀ r c, c + r = K → 0 < r → ∀ f, vld (qr mf B G) n c f →
    (∀ so' g, (∀ j, j < K → so' j = nI (g j)) → LL (qr mf B G) n K c f g → P (nI n) (nI d) (nI K) (stC s 51 so')) →
    (∀ so', (∀ j, j < c → so' j = nI (f j)) → NX (qr mf B G) n K c f → P (nI n) (nI d) (nI c + (-1)) (stC s 51 so')) →
    ∀ k w so, w + k = n → (∀ j, j < c → so j = nI (f j)) → so c = nI w - 1 → (∀ f', vld (qr mf B G) n K f' → (∀ j, j < c → f' j = f j) → w ≤ f' c) → P (nI n) (nI d) (nI c) (stC s 51 so) := by
  have K8 := hC.1
  have eK : ∀ so, gF (stC s 51 so) 3028 = nI K := fun so => hC.2.1
  intro r
  induction r with
  | zero => intro c _ h; exact absurd h (by omega)
  | succ r ihr =>
    intro c hr _ f hv hs hf k
    have hc : c < K := by omega
    induction k with
    | zero =>
      intro w so hw hso hsc hlow
      refine hP _ _ _ _ ?_
      try dsimp only
      unfold wX8_stand_9_b
      have e51 : gA (stC s 51 so) 51 (nI c) = nI w - 1 := by rw [gn (by omega)]; exact hsc
      rw [eK, if_neg (nI_n0 (by omega)), if_neg (by rw [nI_leI (by omega) (by omega)]; omega), e51, pm1, st_CA, cl (by omega), gC (by omega), upd_s, if_pos (by rw [show w = n by omega])]
      refine ⟨vin (by omega) (by omega), vin (by omega) (by omega), vin (by omega) (by omega), hf _ (fun j hj => by rw [upd_n (by omega)]; exact hso j hj) (fun f' hv' he => ?_)⟩
      have := hlow f' hv' he
      have := (hv' c hc).1
      omega
    | succ k ihk =>
      intro w so hw hso hsc hlow
      refine hP _ _ _ _ ?_
      try dsimp only
      unfold wX8_stand_9_b
      have e51 : gA (stC s 51 so) 51 (nI c) = nI w - 1 := by rw [gn (by omega)]; exact hsc
      rw [eK, if_neg (nI_n0 (by omega)), if_neg (by rw [nI_leI (by omega) (by omega)]; omega), e51, pm1, st_CA, cl (by omega), gC (by omega), upd_s, if_neg (by rw [nI_eq (by omega) (by omega)]; omega)]
      refine ⟨vin (by omega) (by omega), vin (by omega) (by omega), vin (by omega) (by omega), ?_⟩
      have hso2 : ∀ j, j ≤ c → upd so c (nI w) j = nI (updN f c w j) := fun j hj => by
        by_cases e : j = c
        · rw [e, upd_s, updN_s]
        · rw [upd_n e, updN_n e]; exact hso j (by omega)
      refine y_may (f := updN f c w) hd hC f3' hc (fun j hj => ?_) hso2 ?_
      · by_cases e : j = c
        · rw [e, updN_s]; omega
        · rw [updN_n e]; have := (hv j (by omega)).1; omega
      have nolow : (∀ f', vld (qr mf B G) n K f' → (∀ j, j < c → f' j = f j) → f' c ≠ w) → ∀ f', vld (qr mf B G) n K f' → (∀ j, j < c → f' j = f j) → w + 1 ≤ f' c := fun h f' hv' he => by
        have := h f' hv' he
        have := hlow f' hv' he
        omega
      have pw : nI w = nI (w + 1) - 1 := (nI_pred w).symm
      by_cases ho : okc (qr mf B G) (updN f c w) c
      · try dsimp only
        rw [bi_t ho, if_neg (by decide), nI_1, st_CA, cl (by omega)]
        refine ⟨vin (by omega) (by omega), ?_⟩
        have hv2 : vld (qr mf B G) n (c + 1) (updN f c w) := fun j hj => by
          by_cases e : j = c
          · rw [e, updN_s]; exact ⟨by omega, ho⟩
          · rw [updN_n e]
            exact ⟨(hv j (by omega)).1, okc_cong (fun k hk => (updN_n (by omega)).symm) (hv j (by omega)).2⟩
        have hso3 : ∀ j, j < c + 1 → upd (upd so c (nI w)) (c + 1) (-1) j = nI (updN f c w j) := fun j hj => by
          rw [upd_n (by omega)]; exact hso2 j (by omega)
        by_cases last : c + 1 = K
        · subst last
          exact hs _ (updN f c w) hso3 (LL_step hc hlow ⟨hv2, fun _ _ => rfl, fun f' _ he => Or.inl he⟩)
        · refine ihr (c + 1) (by omega) (by omega) (updN f c w) hv2 (fun so' g hg hL => hs so' g hg (LL_step hc hlow hL)) (fun so' hso' hNX => ?_) n 0 _ (by omega) hso3 upd_s (fun f' _ _ => Nat.zero_le _)
          have e1 : nI (c + 1) + (-1) = nI c := by rw [← Int32.sub_eq_add_neg]; exact nI_pred c
          rw [e1]
          refine ihk (w + 1) so' (by omega) (fun j hj => by rw [hso' j (by omega), updN_n (by omega)]) (by rw [hso' c (by omega), updN_s]; exact pw) (nolow (fun f' hv' he e => hNX f' hv' (fun j hj => ?_)))
          by_cases z : j = c
          · rw [z, updN_s]; exact e
          · rw [updN_n z]; exact he j (by omega)
      · try dsimp only
        rw [bi_f ho, if_pos rfl]
        refine ihk (w + 1) _ (by omega) (fun j hj => by rw [upd_n (by omega)]; exact hso j hj) (by rw [upd_s]; exact pw) (nolow (fun f' hv' he e => ho (okc_cong (fun k hk => ?_) (hv' c hc).2)))
        by_cases z : k = c
        · rw [z, updN_s]; exact e
        · rw [updN_n z]; exact he k (by omega)
theorem y_stand {s : St} {mf B G : Nat → Nat} {d K n : Nat} (hd : d < 24) (hC : Cpl s B G d K) (K0 : 0 < K) (f3' : ∀ i j, i < 16 → j < 16 → s.2 35 (16 * i + j) = if (mf i).testBit j then 1 else 0) (n8 : n ≤ 8) {Q : Int32 → St → Prop} (hs : ∀ so' g, (∀ j, j < K → so' j = nI (g j)) → LL (qr mf B G) n K 0 (fun _ => 0) g → Q 1 (stC s 51 so')) (hf : ∀ so', (∀ f', ¬ vld (qr mf B G) n K f') → Q 0 (stC s 51 so')) : ∀ so, wX8_stand (nI n) (nI d) (stC s 51 so) Q := by
  have K8 := hC.1
  have eK : ∀ so, gF (stC s 51 so) 3028 = nI K := fun so => hC.2.1
  intro so
  try dsimp only
  unfold wX8_stand
  rw [st_CA, show (0 : Int32).toNatClampNeg = 0 from rfl]
  refine ⟨vi (k := 0) rfl (by decide) (by decide), fun P hP => ?_⟩
  refine y_std hd hC f3' n8 hP K 0 (by omega) K0 (fun _ => 0) (fun j hj => absurd hj (by omega)) (fun so' g hg hL => ?_) (fun so' _ hNX => ?_) n 0 _ (by omega) (fun j hj => absurd hj (by omega)) upd_s (fun f' _ _ => Nat.zero_le _)
  · refine hP _ _ _ _ ?_
    try dsimp only
    unfold wX8_stand_9_b wX8_stand_69
    rw [eK, if_neg (nI_n0 (by omega)), if_pos (by rw [nI_leI (by omega) (by omega)]; omega), if_pos rfl]
    exact hs so' g hg hL
  · refine hP _ _ _ _ ?_
    try dsimp only
    unfold wX8_stand_9_b wX8_stand_69
    rw [eK, if_pos (show nI 0 + (-1) < 0 by decide), if_neg (show ¬ nI 0 + (-1) = nI K from fun e => by
      have := congrArg Int32.toInt e
      rw [nI_i (by omega)] at this
      have h2 : (nI 0 + (-1)).toInt = -1 := by decide
      omega)]
    exact hf so' (fun f' hv => hNX f' hv (fun j hj => absurd hj (by omega)))
theorem st_CFC {s : St} {k q : Nat} {u : Int32} {f g : Nat → Int32} : stC (stF (stC s k f) q u) k g = stF (stC s k g) q u := by
  refine st_ext (fun j => rfl) (fun j x => ?_)
  simp only [g_CA, g_FA]
  by_cases h : j = k
  · simp only [if_pos h]
  · simp only [if_neg h]
theorem y_sets64 {s : St} {mf B G : Nat → Nat} {d K : Nat} (hd : d < 24) (hC : Cpl s B G d K) (f3' : ∀ i j, i < 16 → j < 16 → s.2 35 (16 * i + j) = if (mf i).testBit j then 1 else 0) {Q : St → Prop} (hQ : ∀ nn so g, Best (qr mf B G) K nn g → (∀ j, j < K → so j = nI (g j)) → Q (stF (stC s 51 so) 3031 (nI nn))) : ∀ so, wX8_laySets_64 (nI d) (stF (stC s 51 so) 3031 0) Q := by
  have K8 := hC.1
  have eK : ∀ so u, gF (stF (stC s 51 so) 3031 u) 3028 = nI K := fun so u => hC.2.1
  have eS : ∀ so u, gF (stF (stC s 51 so) 3031 u) 3031 = u := fun so u => rfl
  have lp : ∀ r m so, m + r = K → 0 < m → (∀ m', m' < m → ∀ f', ¬ vld (qr mf B G) m' K f') → wX8_laySets_64 (nI d) (stF (stC s 51 so) 3031 (nI m)) Q := by
    intro r m so hr m0 hno P hP
    induction r generalizing m so with
    | zero =>
      have e : m = K := by omega
      subst e
      refine hP _ _ ?_
      try dsimp only
      unfold wX8_laySets_64_b
      rw [eK, eS, if_neg (show ¬ nI m ≤ 0 from nI_ge (a := 0) (b := m) (by omega) (by omega)), if_neg (show ¬ nI m = 0 from fun e => by have := (nI_eq (b := 0) (by omega) (by omega)).mp e; omega)]
      have cp : Cpl (stF s 3031 (nI m)) B G d m := hC
      have w := y_stand (s := stF s 3031 (nI m)) (n := m) hd cp m0 f3' K8 (Q := fun r1 s2 => if r1 = 0 then wX8_laySets_90 P (nI d) s2 Q else Q s2) (fun so' g hg hL => ?_) (fun so' hN => ?_) so
      · exact w
      · try dsimp only
        rw [if_neg (by decide)]
        exact hQ m so' g ⟨hno, hL⟩ hg
      · exfalso
        exact hN (fun j => j) (LL_id m0 (hno (m - 1) (by omega)) (f0 := fun _ => 0)).1
    | succ r ih =>
      refine hP _ _ ?_
      try dsimp only
      unfold wX8_laySets_64_b
      rw [eK, eS, if_neg (show ¬ nI K ≤ 0 from nI_ge (a := 0) (b := K) (by omega) (by omega)), if_neg (show ¬ nI m = 0 from fun e => by have := (nI_eq (b := 0) (by omega) (by omega)).mp e; omega)]
      have cp : Cpl (stF s 3031 (nI m)) B G d K := hC
      have w := y_stand (s := stF s 3031 (nI m)) (n := m) hd cp (by omega) f3' (by omega) (Q := fun r1 s2 => if r1 = 0 then wX8_laySets_90 P (nI d) s2 Q else Q s2) (fun so' g hg hL => ?_) (fun so' hN => ?_) so
      · exact w
      · try dsimp only
        rw [if_neg (by decide)]
        exact hQ m so' g ⟨hno, hL⟩ hg
      · try dsimp only
        rw [if_pos rfl]
        try dsimp only
        unfold wX8_laySets_90
        have e1 : gF (stC (stF s 3031 (nI m)) 51 so') 3031 = nI m := rfl
        have e2 : stF (stC (stF s 3031 (nI m)) 51 so') 3031 (nI (m + 1)) = stF (stC s 51 so') 3031 (nI (m + 1)) := by
          show stF (stF (stC s 51 so') 3031 (nI m)) 3031 (nI (m + 1)) = _
          rw [st_FF]
        rw [e1, nI_1, e2]
        refine ih (m + 1) so' (by omega) (by omega) (fun m' hm' f' hv => ?_)
        by_cases e : m' = m
        · subst e; exact hN f' hv
        · exact hno m' (by omega) f' hv
  intro so P hP
  refine hP _ _ ?_
  try dsimp only
  unfold wX8_laySets_64_b
  rw [eK, eS]
  by_cases K0 : K = 0
  · subst K0
    try dsimp only
    rw [if_pos (show nI 0 ≤ (0 : Int32) by decide)]
    exact hQ 0 so (fun _ => 0) ⟨fun m hm => absurd hm (by omega), fun j hj => absurd hj (by omega), fun j hj => absurd hj (by omega), fun f' _ _ => Or.inl (fun j hj => absurd hj (by omega))⟩ (fun j hj => absurd hj (by omega))
  · try dsimp only
    rw [if_neg (show ¬ nI K ≤ 0 from nI_ge (a := 0) (b := K) (by omega) (by omega)), if_pos rfl]
    try dsimp only
    unfold wX8_laySets_90
    rw [eS, st_FF, show (0 : Int32) + 1 = nI 1 from rfl]
    exact lp (K - 1) 1 so (by omega) (by omega) (fun m' hm' f' hv => by
      have e : m' = 0 := by omega
      subst e
      have := (hv 0 (by omega)).1
      omega) P hP
