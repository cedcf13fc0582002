/-! swap, ill -/
theorem InvC.mate {n p d : Nat} {L e c : Nat → Int32} (h : InvC n L e c) (h16 : n ≤ 16) (hp : p < n) (hd : d < 24) (hc : 0 ≤ c (24 * p + d)) : ∃ q : Nat, q < n ∧ c (24 * p + d) = nI q ∧ (L p = 0 ↔ ¬ L q = 0) ∧ c (24 * q + d) = nI p := by
  rcases h.2.2 p d hp hd with x | x | x
  · rw [x] at hc; exact absurd hc (by decide)
  · rw [x.1] at hc; exact absurd hc (by decide)
  · exact x
theorem nI_n0 {q : Nat} (h : q < 2147483648) : ¬ nI q < 0 := nI_pos h
/-- the class's WHY over other cards -/
theorem x_whyC {n t g l d : Nat} {s sX : St} {e c : Nat → Int32} {m f : Nat → Nat} (hN : InvN n t s) (m1 : ∀ i, i < 16 → s.2 5 i = nI (m i)) (f1 : ∀ i, i < 16 → s.2 6 i = nI (f i)) (hC : InvC n (s.2 31) e c) (h3 : sX.2 3 = s.2 3) (h4 : sX.2 4 = s.2 4) (h5 : sX.2 5 = s.2 5) (h6 : sX.2 6 = s.2 6) (h9 : sX.2 9 = s.2 9) (h12 : sX.2 12 = e) (hg : g < n) (hl : l < n) (hd : d < 24) {Q : Int32 → St → Prop} (hq : Q (whyF (s.2 33) (s.2 32) (s.2 39) c ((m g).testBit l) ((f g).testBit l) g l d) sX) : wX7_reasonAgainst (nI g) (nI l) (nI d) sX Q := by
  obtain ⟨⟨h16, n1, n2, p1, p2, p3, p4, p5, p6⟩, -, -, -, hT, -⟩ := hN
  obtain ⟨c1, c2, c3⟩ := hC
  exact x_why (n := n) (by omega) (by omega) hd (h3.trans p2) p5 (h4.trans p3) p6 (by rw [h5]; exact m1 g (by omega)) (by rw [h6]; exact f1 g (by omega)) (fun k hk => by rw [h9]; exact (hT k hk).1) (by rw [h12]; exact c1 g d hg hd) (by rw [h12]; exact c1 l d hl hd) (by rw [h12]; exact tog_cong (fun d hd => c1 g d hg hd)) (by rw [h12]; exact row_cong (fun d hd => c1 g d hg hd) hd) (by rw [h12]; exact row_cong (fun d hd => c1 l d hl hd) hd) hq
def Swp (n : Nat) (L : Nat → Int32) (a b c : Int32) : Prop := (vp_in a n ∧ L a.toNatClampNeg = 0) ∧ (vp_in b n ∧ L b.toNatClampNeg = 0) ∧ ¬ a = b ∧ vp_in c 24
theorem upd2_at {f : Nat → Int32} {x y z : Nat} {v w : Int32} (h1 : z ≠ x) (h2 : z ≠ y) : upd (upd f x v) y w z = f z := by rw [upd_n h2, upd_n h1]
theorem op_swap (a b c : Int32) : Op (fun Q s => wX7_swap a b c s Q) (fun Q s => wX8_swap a b c s Q) := by
  intro s hI K hK
  obtain ⟨n, t, hN⟩ := id hI
  obtain ⟨h16, n1, n2, p1, p2, p3, p4, p5, p6⟩ := id hN.1
  obtain ⟨hP, hB, hF, hC, hT, hX, hZ, hQ⟩ := id hN
  obtain ⟨m, m1, m2, m3, m4, m5⟩ := id hB
  obtain ⟨f, f1, f2, f3, f4, f5⟩ := id hF
  show wX7_swap a b c s _
  -- the model's head
  have mb : ¬ Swp n (s.2 31) a b c → ∀ (s1 : St) (Q : Int32 → St → Prop), gF s1 3000 = nI n → s1.2 31 = s.2 31 → Q (-1) s1 → wX8_swap a b c s1 Q := by
    intro hs s1 Q e1 e2 hq
    try dsimp only
    unfold wX8_swap
    try dsimp only
    rw [e_two8 e1 h16]
    by_cases h : Two n a b
    · try dsimp only
      rw [bi_t h, if_neg (by decide), g_A, g_A, e2]
      have va : vp_in a 16 := by have := h.1; rw [vp_in_iff] at this ⊢; omega
      have vb : vp_in b 16 := by have := h.2.1; rw [vp_in_iff] at this ⊢; omega
      refine ⟨va, ?_⟩
      by_cases x : s.2 31 a.toNatClampNeg = 0
      · try dsimp only
        rw [if_pos x]
        refine ⟨vb, ?_⟩
        by_cases y : s.2 31 b.toNatClampNeg = 0
        · try dsimp only
          rw [if_pos y, e_in (m := 24) rfl (by decide) (by decide), bi_f (fun z => hs ⟨⟨h.1, x⟩, ⟨h.2.1, y⟩, h.2.2, z⟩), if_pos rfl]; exact hq
        · try dsimp only
          rw [if_neg y]; exact hq
      · try dsimp only
        rw [if_neg x]; exact hq
    · try dsimp only
      rw [bi_f h, if_pos rfl]; exact hq
  try dsimp only
  unfold wX7_swap
  try dsimp only
  rw [e_gent n1 h16, p1]
  by_cases ha : vp_in a n ∧ s.2 31 a.toNatClampNeg = 0
  · try dsimp only
    rw [bi_t ha, if_neg (by decide), e_gent n1 h16, p1]
    by_cases hb : vp_in b n ∧ s.2 31 b.toNatClampNeg = 0
    · try dsimp only
      rw [bi_t hb, if_neg (by decide)]
      by_cases hab : a = b
      · try dsimp only
        rw [if_pos hab]
        exact mb (fun z => z.2.2.1 hab) s _ n2 rfl (hK _ _ hI)
      · try dsimp only
        rw [if_neg hab, e_dance]
        by_cases hd0 : vp_in c 24
        · try dsimp only
          rw [bi_t hd0, if_neg (by decide)]
          obtain ⟨g, hg, rfl⟩ := inI ha.1 h16
          obtain ⟨h, hh, rfl⟩ := inI hb.1 h16
          obtain ⟨d, hd, rfl⟩ := vp_in_of hd0 (by decide)
          rw [cl (by omega)] at ha hb
          have gh : g ≠ h := fun z => hab (by rw [z])
          have hTwo : Two n (nI g) (nI h) := ⟨ha.1, hb.1, hab⟩
          have v1 : vp_in (nI g) 16 := vin (by omega) (by decide)
          have v2 : vp_in (nI h) 16 := vin (by omega) (by decide)
          -- the model up to the cards
          have mh : ∀ (s1 : St) (Q : Int32 → St → Prop), gF s1 3000 = nI n → s1.2 31 = s.2 31 → s1.2 37 = s.2 37 → ((if s.2 37 (24 * g + d) < 0 then Q (-2) s1 else (if 0 ≤ s.2 37 (24 * h + d) then wX8_uncouple (nI g) (s.2 37 (24 * g + d)) (nI d) s1 (fun s10 => wX8_uncouple (nI h) (s.2 37 (24 * h + d)) (nI d) s10 (fun s12 => wX8_whyNot (nI g) (s.2 37 (24 * h + d)) (nI d) s12 (fun r13 s14 => (if r13 ≤ 0 then wX8_whyNot (nI h) (s.2 37 (24 * g + d)) (nI d) s14 (fun r15 s16 => wX8_swap_114 (nI g) (nI h) (nI d) (s.2 37 (24 * g + d)) (s.2 37 (24 * h + d)) r15 s16 Q) else wX8_swap_114 (nI g) (nI h) (nI d) (s.2 37 (24 * g + d)) (s.2 37 (24 * h + d)) r13 s14 Q)))) else Q (-2) s1)) → wX8_swap (nI g) (nI h) (nI d) s1 Q) := by
            intro s1 Q e1 e2 e3 hq
            try dsimp only
            unfold wX8_swap
            try dsimp only
            rw [e_two8 e1 h16, bi_t hTwo, if_neg (by decide), gn (by omega), gn (by omega), e2]
            refine ⟨v1, ?_⟩
            try dsimp only
            rw [if_pos ha.2]
            refine ⟨v2, ?_⟩
            try dsimp only
            rw [if_pos hb.2, e_in (m := 24) rfl (by decide) (by decide), bi_t hd0, if_neg (by decide), e_cardOf (by omega) hd, e_cardOf (by omega) hd, e3]
            exact hq
          try dsimp only
          rw [e_paired (by omega) hd]
          unfold pd
          rw [hC.1 g d hg hd]
          by_cases cg : 0 ≤ s.2 37 (24 * g + d)
          · try dsimp only
            rw [bi_t (by simpa using cg), if_neg (by decide), e_paired (by omega) hd]
            unfold pd
            rw [hC.1 h d hh hd]
            by_cases ch : 0 ≤ s.2 37 (24 * h + d)
            · try dsimp only
              rw [bi_t (by simpa using ch), if_neg (by decide), e_entry (by omega) hd, e_entry (by omega) hd, hC.1 g d hg hd, hC.1 h d hh hd]
              obtain ⟨l, hl, l1, l2, l3⟩ := hC.mate h16 hg hd cg
              obtain ⟨k, hk, k1, k2, k3⟩ := hC.mate h16 hh hd ch
              have Ll : ¬ s.2 31 l = 0 := l2.mp ha.2
              have Lk : ¬ s.2 31 k = 0 := k2.mp hb.2
              have lk : l ≠ k := by
                intro z; subst z
                exact gh ((nI_eq (by omega) (by omega)).mp (l3.symm.trans k3))
              have gl : g ≠ l := fun z => Ll (z ▸ ha.2)
              have gk' : g ≠ k := fun z => Lk (z ▸ ha.2)
              have hl' : h ≠ l := fun z => Ll (z ▸ hb.2)
              have hk' : h ≠ k := fun z => Lk (z ▸ hb.2)
              have C1 := hC.unpair h16 hg hl hd l1
              have C2 := C1.unpair h16 hh hk hd (by rw [upd2_at (by omega) (by omega)]; exact k1)
              rw [l1, k1]
              rw [l1, k1] at mh
              try dsimp only
              rw [e_sep (by omega) (by omega) hd, e_sep (by omega) (by omega) hd, st_CC, g_CA, if_pos rfl]
              generalize hE : upd (upd (upd (upd (s.2 12) (24 * g + d) (-4)) (24 * l + d) (-4)) (24 * h + d) (-4)) (24 * k + d) (-4) = E at C2 ⊢
              generalize hCc : upd (upd (upd (upd (s.2 37) (24 * g + d) (-4)) (24 * l + d) (-4)) (24 * h + d) (-4)) (24 * k + d) (-4) = C at C2
              have fr : C (24 * g + d) = -4 ∧ C (24 * l + d) = -4 ∧ C (24 * h + d) = -4 ∧ C (24 * k + d) = -4 := by
                rw [← hCc]
                refine ⟨?_, ?_, ?_, upd_s⟩
                · rw [upd_n (by omega), upd_n (by omega), upd_n (by omega), upd_s]
                · rw [upd_n (by omega), upd_n (by omega), upd_s]
                · rw [upd_n (by omega), upd_s]
              -- the model's rest, by the two answers of WHY
              have mr : ∀ (s1 : St) (Q : Int32 → St → Prop), gF s1 3000 = nI n → s1.2 31 = s.2 31 → s1.2 32 = s.2 32 → s1.2 33 = s.2 33 → s1.2 34 = s.2 34 → s1.2 35 = s.2 35 → s1.2 37 = s.2 37 → s1.2 39 = s.2 39 → (if whyF (s.2 33) (s.2 32) (s.2 39) C ((m g).testBit k) ((f g).testBit k) g k d = 0 then wX8_swap_114 (nI g) (nI h) (nI d) (nI l) (nI k) (whyF (s.2 33) (s.2 32) (s.2 39) C ((m h).testBit l) ((f h).testBit l) h l d) (stC s1 37 C) Q else wX8_swap_114 (nI g) (nI h) (nI d) (nI l) (nI k) (whyF (s.2 33) (s.2 32) (s.2 39) C ((m g).testBit k) ((f g).testBit k) g k d) (stC s1 37 C) Q) → wX8_swap (nI g) (nI h) (nI d) s1 Q := by
                intro s1 Q e1 e31 e32 e33 e34 e35 e37 e39 hq
                refine mh s1 Q e1 e31 e37 ?_
                try dsimp only
                rw [if_neg (nI_n0 (by omega)), if_pos (nI_pos' (by omega)), e_unc (by omega) (by omega) hd, e_unc (by omega) (by omega) hd, st_CC, g_CA, if_pos rfl, e37, hCc]
                refine y_why (mk := m) (mf := f) (by omega) (by omega) hd (by intro p; rw [show (stC s1 37 C).2 33 = s.2 33 from e33]; exact p5 p) (by rw [show (stC s1 37 C).2 34 = s.2 34 from e34]; exact m3 g k (by omega) (by omega)) (by rw [show (stC s1 37 C).2 35 = s.2 35 from e35]; exact f3 g k (by omega) (by omega)) ?_
                rw [show (stC s1 37 C).2 33 = s.2 33 from e33, show (stC s1 37 C).2 32 = s.2 32 from e32, show (stC s1 37 C).2 39 = s.2 39 from e39, show (stC s1 37 C).2 37 = C from rfl]
                by_cases z : whyF (s.2 33) (s.2 32) (s.2 39) C ((m g).testBit k) ((f g).testBit k) g k d = 0
                · try dsimp only
                  rw [if_pos z] at hq
                  try dsimp only
                  rw [if_pos (why_le0.mpr z)]
                  refine y_why (mk := m) (mf := f) (by omega) (by omega) hd (by intro p; rw [show (stC s1 37 C).2 33 = s.2 33 from e33]; exact p5 p) (by rw [show (stC s1 37 C).2 34 = s.2 34 from e34]; exact m3 h l (by omega) (by omega)) (by rw [show (stC s1 37 C).2 35 = s.2 35 from e35]; exact f3 h l (by omega) (by omega)) ?_
                  rw [show (stC s1 37 C).2 33 = s.2 33 from e33, show (stC s1 37 C).2 32 = s.2 32 from e32, show (stC s1 37 C).2 39 = s.2 39 from e39, show (stC s1 37 C).2 37 = C from rfl]
                  exact hq
                · try dsimp only
                  rw [if_neg z] at hq
                  try dsimp only
                  rw [if_neg (fun w => z (why_le0.mp w))]
                  exact hq
              -- both ends, by the reason r
              have xs : ∀ (r : Int32) (Q' : Int32 → St → Prop), wX7_swap_132 (nI g) (nI h) (nI d) (nI l) (nI k) r (stC s 12 E) Q' = if r = 0 then Q' 1 (stC s 12 (upd (upd (upd (upd E (24 * g + d) (nI k)) (24 * k + d) (nI g)) (24 * h + d) (nI l)) (24 * l + d) (nI h))) else Q' (-10 - r) (stC s 12 (upd (upd (upd (upd E (24 * g + d) (nI l)) (24 * l + d) (nI g)) (24 * h + d) (nI k)) (24 * k + d) (nI h))) := by
                intro r Q'
                try dsimp only
                unfold wX7_swap_132 wX7_swap_149 wX7_swap_170
                by_cases z : r = 0
                · simp only [if_pos z]
                  try dsimp only
                  rw [e_join (by omega) (by omega) hd, e_join (by omega) (by omega) hd, st_CC, st_CC, g_CA, if_pos rfl, g_CA, if_pos rfl]
                · simp only [if_neg z]
                  try dsimp only
                  rw [e_join (by omega) (by omega) hd, e_join (by omega) (by omega) hd, st_CC, st_CC, g_CA, if_pos rfl, g_CA, if_pos rfl]
              have ys : ∀ (r : Int32) (s1 : St) (Q' : Int32 → St → Prop), (∃ j : Nat, j ≤ 8 ∧ r = nI j) → wX8_swap_114 (nI g) (nI h) (nI d) (nI l) (nI k) r (stC s1 37 C) Q' = if r = 0 then Q' 1 (stC s1 37 (upd (upd (upd (upd C (24 * g + d) (nI k)) (24 * k + d) (nI g)) (24 * h + d) (nI l)) (24 * l + d) (nI h))) else Q' (-10 - r) (stC s1 37 (upd (upd (upd (upd C (24 * g + d) (nI l)) (24 * l + d) (nI g)) (24 * h + d) (nI k)) (24 * k + d) (nI h))) := by
                rintro r s1 Q' ⟨j, hj, rfl⟩
                have j0 : (nI j ≤ 0) = (nI j = 0) := by
                  apply propext
                  constructor
                  · intro z
                    have : nI j ≤ nI 0 := z
                    rw [nI_leI (by omega) (by omega)] at this
                    have : j = 0 := by omega
                    subst this; rfl
                  · intro z; rw [z]; decide
                try dsimp only
                unfold wX8_swap_114 wX8_swap_130 wX8_swap_148
                simp only [j0]
                by_cases z : nI j = 0
                · simp only [if_pos z]
                  try dsimp only
                  rw [e_couple2 (by omega) (by omega) hd, e_couple2 (by omega) (by omega) hd, st_CC, st_CC, g_CA, if_pos rfl, g_CA, if_pos rfl]
                · simp only [if_neg z]
                  try dsimp only
                  rw [e_couple2 (by omega) (by omega) hd, e_couple2 (by omega) (by omega) hd, st_CC, st_CC, g_CA, if_pos rfl, g_CA, if_pos rfl]
              have fin : ∀ r : Int32, (∃ j : Nat, j ≤ 8 ∧ r = nI j) → (if whyF (s.2 33) (s.2 32) (s.2 39) C ((m g).testBit k) ((f g).testBit k) g k d = 0 then whyF (s.2 33) (s.2 32) (s.2 39) C ((m h).testBit l) ((f h).testBit l) h l d else whyF (s.2 33) (s.2 32) (s.2 39) C ((m g).testBit k) ((f g).testBit k) g k d) = r → wX7_swap_132 (nI g) (nI h) (nI d) (nI l) (nI k) r (stC s 12 E) (fun r1 s1 => wX8_swap (nI g) (nI h) (nI d) s1 (fun r' s2 => K r1 r' s2)) := by
                intro r hr he
                have go : ∀ (s1 : St) (Q : Int32 → St → Prop), gF s1 3000 = nI n → s1.2 31 = s.2 31 → s1.2 32 = s.2 32 → s1.2 33 = s.2 33 → s1.2 34 = s.2 34 → s1.2 35 = s.2 35 → s1.2 37 = s.2 37 → s1.2 39 = s.2 39 → wX8_swap_114 (nI g) (nI h) (nI d) (nI l) (nI k) r (stC s1 37 C) Q → wX8_swap (nI g) (nI h) (nI d) s1 Q := by
                  intro s1 Q e1 e2 e3 e4 e5 e6 e7 e8 hq
                  refine mr s1 Q e1 e2 e3 e4 e5 e6 e7 e8 ?_
                  by_cases z : whyF (s.2 33) (s.2 32) (s.2 39) C ((m g).testBit k) ((f g).testBit k) g k d = 0
                  · try dsimp only
                    rw [if_pos z] at he ⊢; rw [he]; exact hq
                  · try dsimp only
                    rw [if_neg z] at he ⊢; rw [he]; exact hq
                rw [xs]
                by_cases z : r = 0
                · try dsimp only
                  rw [if_pos z]
                  try dsimp only
                  refine go (stC s 12 _) _ n2 rfl rfl rfl rfl rfl rfl rfl ?_
                  rw [ys r _ _ hr, if_pos z]
                  have D1 := C2.pair h16 hg hk hd ha.2 Lk fr.1 fr.2.2.2
                  have D2 := D1.pair h16 hh hl hd hb.2 Ll (by rw [upd2_at (by omega) (by omega)]; exact fr.2.2.1) (by rw [upd2_at (by omega) (by omega)]; exact fr.2.1)
                  exact hK _ _ ⟨n, t, hP, hB, hF, D2, hT, hX, hZ, hQ⟩
                · try dsimp only
                  rw [if_neg z]
                  try dsimp only
                  refine go (stC s 12 _) _ n2 rfl rfl rfl rfl rfl rfl rfl ?_
                  rw [ys r _ _ hr, if_neg z]
                  have D1 := C2.pair h16 hg hl hd ha.2 Ll fr.1 fr.2.1
                  have D2 := D1.pair h16 hh hk hd hb.2 Lk (by rw [upd2_at (by omega) (by omega)]; exact fr.2.2.1) (by rw [upd2_at (by omega) (by omega)]; exact fr.2.2.2)
                  exact hK _ _ ⟨n, t, hP, hB, hF, D2, hT, hX, hZ, hQ⟩
              refine x_whyC (sX := stC s 12 E) hN m1 f1 C2 rfl rfl rfl rfl rfl rfl hg hk hd ?_
              try dsimp only
              by_cases z : whyF (s.2 33) (s.2 32) (s.2 39) C ((m g).testBit k) ((f g).testBit k) g k d = 0
              · try dsimp only
                rw [if_pos z]
                refine x_whyC (sX := stC s 12 E) hN m1 f1 C2 rfl rfl rfl rfl rfl rfl hh hl hd ?_
                exact fin _ why_range (if_pos z)
              · try dsimp only
                rw [if_neg z]
                exact fin _ why_range (if_neg z)
            · try dsimp only
              rw [bi_f (by simpa using ch), if_pos rfl]
              refine mh s _ n2 rfl rfl ?_
              try dsimp only
              rw [if_neg (by rw [Int32.not_lt]; exact cg), if_neg ch]
              exact hK _ _ hI
          · try dsimp only
            rw [bi_f (by simpa using cg), if_pos rfl]
            refine mh s _ n2 rfl rfl ?_
            try dsimp only
            rw [if_pos (by rw [Int32.not_le] at cg; exact cg)]
            exact hK _ _ hI
        · try dsimp only
          rw [bi_f hd0, if_pos rfl]
          exact mb (fun z => hd0 z.2.2.2) s _ n2 rfl (hK _ _ hI)
    · try dsimp only
      rw [bi_f hb, if_pos rfl]
      exact mb (fun z => hb z.2.1) s _ n2 rfl (hK _ _ hI)
  · try dsimp only
    rw [bi_f ha, if_pos rfl]
    exact mb (fun z => ha z.1) s _ n2 rfl (hK _ _ hI)
/-- all couples of one are no more: by the cards c from dance i on -/
def unA (p : Nat) : Nat → Nat → (Nat → Int32) → (Nat → Int32) → (Nat → Int32)
  | 0, _, _, e => e
  | m + 1, d, c, e => if 0 ≤ c (24 * p + d) then unA p m (d + 1) (upd (upd c (24 * p + d) (-4)) (24 * (c (24 * p + d)).toNatClampNeg + d) (-4)) (upd (upd e (24 * p + d) (-4)) (24 * (c (24 * p + d)).toNatClampNeg + d) (-4)) else unA p m (d + 1) c e
def unN (p : Nat) : Nat → Nat → (Nat → Int32) → Nat
  | 0, _, _ => 0
  | m + 1, d, c => if 0 ≤ c (24 * p + d) then unN p m (d + 1) (upd (upd c (24 * p + d) (-4)) (24 * (c (24 * p + d)).toNatClampNeg + d) (-4)) + 1 else unN p m (d + 1) c
theorem unA_inv {n p : Nat} {L : Nat → Int32} (h16 : n ≤ 16) (hp : p < n) : ∀ m d c e, d + m = 24 → InvC n L e c → InvC n L (unA p m d c e) (unA p m d c c) := by
  intro m
  induction m with
  | zero => intro d c e _ h; exact h
  | succ m ih =>
    intro d c e hm h
    unfold unA
    by_cases z : 0 ≤ c (24 * p + d)
    · try dsimp only
      rw [if_pos z, if_pos z]
      obtain ⟨q, hq, q1, q2, q3⟩ := h.mate h16 hp (by omega) z
      rw [q1, cl (by omega)]
      exact ih (d + 1) _ _ (by omega) (h.unpair h16 hp hq (by omega) q1)
    · try dsimp only
      rw [if_neg z, if_neg z]
      exact ih (d + 1) _ _ (by omega) h
theorem x_sepAll {n p : Nat} {L : Nat → Int32} (h16 : n ≤ 16) (hp : p < n) {Q : Int32 → St → Prop} : ∀ m d (k : Nat) (c : Nat → Int32) (s : St), d + m = 24 → InvC n L (s.2 12) c → Q (nI (k + unN p m d c)) (stC s 12 (unA p m d c (s.2 12))) → wX0_separateAll_4 (nI p) (nI k) (nI d) s Q := by
  intro m d k c s hm hC hq P hP
  induction m generalizing d k c s with
  | zero =>
    refine hP _ _ _ _ ?_
    try dsimp only
    unfold wX0_separateAll_4_b
    try dsimp only
    rw [if_pos (show (24 : Int32) ≤ nI d from nI_le (a := 24) (by omega) (by omega))]
    unfold unA unN at hq
    rw [st_self] at hq
    exact hq
  | succ m ih =>
    refine hP _ _ _ _ ?_
    try dsimp only
    unfold wX0_separateAll_4_b
    try dsimp only
    rw [if_neg (show ¬ (24 : Int32) ≤ nI d from nI_ge (b := 24) (by omega) (by omega)), e_paired (by omega) (by omega)]
    unfold pd
    rw [hC.1 p d hp (by omega)]
    unfold unA unN at hq
    by_cases z : 0 ≤ c (24 * p + d)
    · obtain ⟨q, hq1, q1, q2, q3⟩ := hC.mate h16 hp (by omega) z
      try dsimp only
      rw [bi_t (by simpa using z), if_neg (by decide), e_entry (by omega) (by omega), hC.1 p d hp (by omega), q1, e_sep (by omega) (by omega) (by omega), nI_1, nI_1]
      try dsimp only
      rw [if_pos z, if_pos z, q1, cl (by omega)] at hq
      refine ih (d + 1) (k + 1) _ _ (by omega) (by rw [g_CA, if_pos rfl]; exact hC.unpair h16 hp hq1 (by omega) q1) ?_
      rw [st_CC, g_CA, if_pos rfl, show k + 1 + unN p m (d + 1) (upd (upd c (24 * p + d) (-4)) (24 * q + d) (-4)) = k + (unN p m (d + 1) (upd (upd c (24 * p + d) (-4)) (24 * q + d) (-4)) + 1) by omega]
      exact hq
    · try dsimp only
      rw [bi_f (by simpa using z), if_pos rfl, nI_1]
      try dsimp only
      rw [if_neg z, if_neg z] at hq
      exact ih (d + 1) k _ _ (by omega) hC hq
theorem y_illAll {n p : Nat} {L e : Nat → Int32} (h16 : n ≤ 16) (hp : p < n) {Q : Int32 → St → Prop} : ∀ m d (k : Nat) (e : Nat → Int32) (s : St), d + m = 24 → InvC n L e (s.2 37) → Q (nI (k + unN p m d (s.2 37))) (stC s 37 (unA p m d (s.2 37) (s.2 37))) → wX8_ill_33 (nI p) (nI k) (nI d) s Q := by
  intro m d k e s hm hC hq P hP
  induction m generalizing d k e s with
  | zero =>
    refine hP _ _ _ _ ?_
    try dsimp only
    unfold wX8_ill_33_b
    try dsimp only
    rw [if_pos (show (24 : Int32) ≤ nI d from nI_le (a := 24) (by omega) (by omega))]
    unfold unA unN at hq
    rw [st_self] at hq
    exact hq
  | succ m ih =>
    refine hP _ _ _ _ ?_
    try dsimp only
    unfold wX8_ill_33_b
    try dsimp only
    rw [if_neg (show ¬ (24 : Int32) ≤ nI d from nI_ge (b := 24) (by omega) (by omega)), e_cardOf (by omega) (by omega)]
    unfold unA unN at hq
    by_cases z : 0 ≤ s.2 37 (24 * p + d)
    · obtain ⟨q, hq1, q1, q2, q3⟩ := hC.mate h16 hp (by omega) z
      try dsimp only
      rw [if_neg (by rw [Int32.not_lt]; exact z), e_cardOf (by omega) (by omega), q1, e_unc (by omega) (by omega) (by omega), nI_1, nI_1]
      try dsimp only
      rw [if_pos z, if_pos z, q1, cl (by omega)] at hq
      refine ih (d + 1) (k + 1) _ _ (by omega) (by rw [g_CA, if_pos rfl]; exact hC.unpair h16 hp hq1 (by omega) q1) ?_
      rw [st_CC, g_CA, if_pos rfl, show k + 1 + unN p m (d + 1) (upd (upd (s.2 37) (24 * p + d) (-4)) (24 * q + d) (-4)) = k + (unN p m (d + 1) (upd (upd (s.2 37) (24 * p + d) (-4)) (24 * q + d) (-4)) + 1) by omega]
      exact hq
    · try dsimp only
      rw [if_pos (by rw [Int32.not_le] at z; exact z), nI_1]
      try dsimp only
      rw [if_neg z, if_neg z] at hq
      exact ih (d + 1) k _ _ (by omega) hC hq
theorem x_sepAll' {n p N' : Nat} {L c e E' : Nat → Int32} {s : St} {Q : Int32 → St → Prop} (h16 : n ≤ 16) (hp : p < n) (he : s.2 12 = e) (hC : InvC n L e c) (hE : unA p 24 0 c e = E') (hN : unN p 24 0 c = N') (hq : Q (nI N') (stC s 12 E')) : wX0_separateAll (nI p) s Q := by
  subst he; subst hE; subst hN
  try dsimp only
  unfold wX0_separateAll
  exact x_sepAll h16 hp 24 0 0 c s rfl hC (by rw [Nat.zero_add]; exact hq)
theorem y_illAll' {n p N' : Nat} {L c e C' : Nat → Int32} {s : St} {Q : Int32 → St → Prop} (h16 : n ≤ 16) (hp : p < n) (he : s.2 37 = c) (hC : InvC n L e c) (hE : unA p 24 0 c c = C') (hN : unN p 24 0 c = N') (hq : Q (nI N') (stC s 37 C')) : wX8_ill_33 (nI p) 0 0 s Q := by
  subst he; subst hE; subst hN
  exact y_illAll (e := e) (L := L) h16 hp 24 0 0 e s rfl hC (by rw [Nat.zero_add]; exact hq)
theorem op_ill (a : Int32) : Op (fun Q s => wX7_ill a s Q) (fun Q s => wX8_ill a s Q) := by
  intro s hI K hK
  obtain ⟨n, t, hP, hB, hF, hC, hT, hX, hZ, hQ⟩ := id hI
  obtain ⟨h16, n1, n2, p1, p2, p3, p4, p5, p6⟩ := hP
  show wX7_ill a s _
  try dsimp only
  unfold wX7_ill
  try dsimp only
  rw [e_there n1 h16]
  by_cases h : vp_in a n
  · obtain ⟨i, hi, rfl⟩ := inI h h16
    have v16 : vp_in (nI i) 16 := vin (by omega) (by omega)
    try dsimp only
    rw [bi_t h, if_neg (by decide)]
    try dsimp only
    unfold wX2_isIll
    refine ⟨v16, nb_01 (by rw [gn (by omega), p2]; exact p5 i), ?_⟩
    try dsimp only
    rw [gn (by omega), p2]
    by_cases h2 : s.2 33 i = 0
    · try dsimp only
      rw [if_pos h2]
      try dsimp only
      unfold wX2_makeIll
      refine ⟨v16, ?_⟩
      try dsimp only
      obtain ⟨E', hE⟩ : ∃ E', unA i 24 0 (s.2 37) (s.2 12) = E' := ⟨_, rfl⟩
      obtain ⟨C', hC2⟩ : ∃ C', unA i 24 0 (s.2 37) (s.2 37) = C' := ⟨_, rfl⟩
      obtain ⟨N', hN'⟩ : ∃ N', unN i 24 0 (s.2 37) = N' := ⟨_, rfl⟩
      have hC' : InvC n (s.2 31) E' C' := by
        rw [← hE, ← hC2]
        exact unA_inv h16 hi 24 0 _ _ rfl hC
      refine x_sepAll' (s := stA s 3 (nI i) (vp_nar .boolean 1)) h16 hi (show (stA s 3 (nI i) (vp_nar .boolean 1)).2 12 = s.2 12 from rfl) hC hE hN' ?_
      try dsimp only
      unfold wX8_ill
      try dsimp only
      rw [e_is (s := stC (stA s 3 (nI i) (vp_nar .boolean 1)) 12 E') n2 h16, bi_t h, if_neg (by decide)]
      refine ⟨v16, ?_⟩
      rw [show gA (stC (stA s 3 (nI i) (vp_nar .boolean 1)) 12 E') 33 (nI i) = s.2 33 i from gn (by omega), if_pos h2]
      refine ⟨v16, ?_⟩
      refine y_illAll' (s := stA (stC (stA s 3 (nI i) (vp_nar .boolean 1)) 12 E') 33 (nI i) (vp_nar .boolean 1)) h16 hi (show (stA (stC (stA s 3 (nI i) (vp_nar .boolean 1)) 12 E') 33 (nI i) (vp_nar .boolean 1)).2 37 = s.2 37 from rfl) hC hC2 hN' ?_
      refine hK _ _ ⟨n, t, ⟨h16, n1, n2, p1, ?_, p3, p4, ?_, p6⟩, hB, hF, hC', hT, hX, hZ, hQ⟩
      · show upd (s.2 3) (nI i).toNatClampNeg (vp_nar .boolean 1) = upd (s.2 33) (nI i).toNatClampNeg (vp_nar .boolean 1)
        rw [p2]
      · intro q
        show upd (s.2 33) (nI i).toNatClampNeg (vp_nar .boolean 1) q = 0 ∨ upd (s.2 33) (nI i).toNatClampNeg (vp_nar .boolean 1) q = 1
        unfold upd
        split
        · exact vb_cases 1
        · exact p5 q
    · try dsimp only
      rw [if_neg h2]
      try dsimp only
      unfold wX8_ill
      try dsimp only
      rw [e_is n2 h16, bi_t h, if_neg (by decide)]
      refine ⟨v16, ?_⟩
      try dsimp only
      rw [gn (by omega), if_neg h2]
      exact hK _ _ hI
  · try dsimp only
    rw [bi_f h, if_pos rfl]
    try dsimp only
    unfold wX8_ill
    try dsimp only
    rw [e_is n2 h16, bi_f h, if_pos rfl]
    exact hK _ _ hI
