/-! WHY, on both sides -/
def gap (R : Nat → Int32) (g l : Nat) : Int32 := if R g ≤ R l then R l - R g else R g - R l
/-- WHY from 5 on -/
def why5 (T c : Nat → Int32) (g l d : Nat) : Int32 := if ¬ c (24 * g + d) = -4 ∨ ¬ c (24 * l + d) = -4 then 5 else if ¬ T 0 = -4 ∧ T 0 ≤ nI (tog c g l) then 6 else if ¬ T 2 = -4 ∧ (T 2 < nI (rowN c g d) ∨ T 2 < nI (rowN c l d)) then 7 else if T 3 = nI d ∧ tog c g l = 0 then 8 else 0
def whyF (I R T c : Nat → Int32) (kn fe : Bool) (g l d : Nat) : Int32 := if ¬ I g = 0 ∨ ¬ I l = 0 then 1 else if kn = false then 2 else if fe = true then 3 else if ¬ T 1 = -4 ∧ T 1 < gap R g l then 4 else why5 T c g l d
theorem e_told {k : Nat} {ck : Int32} {s : St} {Q : Int32 → St → Prop} (hck : ck = nI k) (hk : k < 4) : wX5_isTold ck s Q = Q (bi (¬ s.2 9 k = -4)) s := by
  subst hck
  try dsimp only
  unfold wX5_isTold
  try dsimp only
  rw [gn (by omega)]
  by_cases h : s.2 9 k = -4
  · try dsimp only
    rw [if_pos h, bi_f (fun z => z h)]; exact propext ⟨fun z => z.2, fun z => ⟨vin hk (by decide), z⟩⟩
  · try dsimp only
    rw [if_neg h, bi_t h]; exact propext ⟨fun z => z.2, fun z => ⟨vin hk (by decide), z⟩⟩
theorem vi {k n : Nat} {c : Int32} (hc : c = nI k) (h : k < n) (hn : n < 2147483648) : vp_in c n := hc ▸ vin h hn
theorem gk {k j : Nat} {c : Int32} {s : St} (hc : c = nI j) (hj : j < 2147483648) : gA s k c = s.2 k j := by rw [hc, gn hj]
theorem x_gap {g l : Nat} {R : Nat → Int32} (h : ∀ p, ∃ r : Nat, r ≤ 9 ∧ R p = nI r) : (if 0 ≤ R g - R l then R g - R l else 0 - (R g - R l)) = gap R g l := by
  obtain ⟨a, ha, ea⟩ := h g
  obtain ⟨b, hb, eb⟩ := h l
  unfold gap
  rw [ea, eb]
  have key : ∀ a b : Fin 10, (if 0 ≤ nI a.val - nI b.val then nI a.val - nI b.val else 0 - (nI a.val - nI b.val)) = (if nI a.val ≤ nI b.val then nI b.val - nI a.val else nI a.val - nI b.val) := by decide +kernel
  exact key ⟨a, by omega⟩ ⟨b, by omega⟩
/-- customAgainst -/
theorem x_cust {g l d : Nat} (hg : g < 16) (hl : l < 16) (hd : d < 24) {s : St} {Q : Int32 → St → Prop} {T c : Nat → Int32} (hT : ∀ k, k < 4 → s.2 9 k = T k) (h1 : tog (s.2 12) g l = tog c g l) (h2 : rowN (s.2 12) g d = rowN c g d) (h3 : rowN (s.2 12) l d = rowN c l d) (hq : Q (if ¬ T 0 = -4 ∧ T 0 ≤ nI (tog c g l) then 6 else if ¬ T 2 = -4 ∧ (T 2 < nI (rowN c g d) ∨ T 2 < nI (rowN c l d)) then 7 else if T 3 = nI d ∧ tog c g l = 0 then 8 else 0) s) : wX7_customAgainst (nI g) (nI l) (nI d) s Q := by
  have htl : tog c g l ≤ 24 := fb_ct_le _ 24
  try dsimp only
  unfold wX7_customAgainst
  refine x_tog hg (x_row hg hd (x_row hl hd ?_))
  rw [h1, h2, h3]
  try dsimp only
  rw [e_told (ck := 0) (k := 0) rfl (by decide), hT 0 (by decide)]
  have last : Q (if T 3 = nI d ∧ tog c g l = 0 then 8 else 0) s → wX7_customAgainst_90 (nI d) (nI (tog c g l)) s Q := by
    intro hq
    try dsimp only
    unfold wX7_customAgainst_90
    try dsimp only
    rw [e_told (ck := 3) (k := 3) rfl (by decide), hT 3 (by decide)]
    by_cases a : T 3 = -4
    · try dsimp only
      rw [bi_f (fun z => z a), if_pos rfl]
      try dsimp only
      rw [if_neg (fun z => m4_ne (i := d) (by omega) (a.symm.trans z.1))] at hq
      exact hq
    · try dsimp only
      rw [bi_t a, if_neg (by decide)]
      refine ⟨vi (k := 3) rfl (by decide) (by decide), ?_⟩
      rw [gk (c := 3) (j := 3) rfl (by decide), hT 3 (by decide)]
      by_cases b : nI d = T 3
      · try dsimp only
        rw [if_pos b]
        by_cases e : tog c g l = 0
        · try dsimp only
          rw [if_pos (by rw [e]; rfl)]
          try dsimp only
          rw [if_pos ⟨b.symm, e⟩] at hq
          exact hq
        · try dsimp only
          rw [if_neg (fun z : nI (tog c g l) = 0 => e ((nI_eq (b := 0) (by omega) (by omega)).mp z))]
          try dsimp only
          rw [if_neg (fun z => e z.2)] at hq
          exact hq
      · try dsimp only
        rw [if_neg b]
        try dsimp only
        rw [if_neg (fun z => b z.1.symm)] at hq
        exact hq
  have mid : Q (if ¬ T 2 = -4 ∧ (T 2 < nI (rowN c g d) ∨ T 2 < nI (rowN c l d)) then 7 else if T 3 = nI d ∧ tog c g l = 0 then 8 else 0) s → wX7_customAgainst_62 (nI d) (nI (tog c g l)) (if nI (rowN c g d) < nI (rowN c l d) then nI (rowN c l d) else nI (rowN c g d)) s Q := by
    intro hq
    try dsimp only
    unfold wX7_customAgainst_62
    try dsimp only
    rw [e_told (ck := 2) (k := 2) rfl (by decide), hT 2 (by decide)]
    by_cases a : T 2 = -4
    · try dsimp only
      rw [bi_f (fun z => z a), if_pos rfl]
      try dsimp only
      rw [if_neg (fun z => z.1 a)] at hq
      exact last hq
    · try dsimp only
      rw [bi_t a, if_neg (by decide)]
      refine ⟨vi (k := 2) rfl (by decide) (by decide), ?_⟩
      rw [gk (c := 2) (j := 2) rfl (by decide), hT 2 (by decide)]
      have mx : ((if nI (rowN c g d) < nI (rowN c l d) then nI (rowN c l d) else nI (rowN c g d)) ≤ T 2) ↔ ¬ (T 2 < nI (rowN c g d) ∨ T 2 < nI (rowN c l d)) := by
        by_cases z : nI (rowN c g d) < nI (rowN c l d)
        · try dsimp only
          rw [if_pos z, Int32.le_iff_toInt_le]
          simp only [Int32.lt_iff_toInt_lt] at z ⊢
          omega
        · try dsimp only
          rw [if_neg z, Int32.le_iff_toInt_le]
          simp only [Int32.lt_iff_toInt_lt] at z ⊢
          omega
      by_cases b : T 2 < nI (rowN c g d) ∨ T 2 < nI (rowN c l d)
      · try dsimp only
        rw [if_neg (fun z => (mx.mp z) b)]
        try dsimp only
        rw [if_pos ⟨a, b⟩] at hq
        exact hq
      · try dsimp only
        rw [if_pos (mx.mpr b)]
        try dsimp only
        rw [if_neg (fun z => b z.2)] at hq
        exact last hq
  by_cases a : T 0 = -4
  · try dsimp only
    rw [bi_f (fun z => z a), if_pos rfl]
    try dsimp only
    rw [if_neg (fun z => z.1 a)] at hq
    exact mid hq
  · try dsimp only
    rw [bi_t a, if_neg (by decide)]
    refine ⟨vi (k := 0) rfl (by decide) (by decide), ?_⟩
    rw [gk (c := 0) (j := 0) rfl (by decide), hT 0 (by decide)]
    by_cases b : T 0 ≤ nI (tog c g l)
    · try dsimp only
      rw [if_neg (by rw [Int32.not_lt]; exact b)]
      try dsimp only
      rw [if_pos ⟨a, b⟩] at hq
      exact hq
    · try dsimp only
      rw [if_pos (by rw [Int32.not_le] at b; exact b)]
      try dsimp only
      rw [if_neg (fun z => b z.2)] at hq
      exact mid hq
theorem x_why {n g l d : Nat} (hg : g < 16) (hl : l < 16) (hd : d < 24) {s : St} {Q : Int32 → St → Prop} {I R T c : Nat → Int32} {mk mf : Nat → Nat} (hI : s.2 3 = I) (hI1 : ∀ p, I p = 0 ∨ I p = 1) (hR : s.2 4 = R) (hR1 : ∀ p, ∃ r : Nat, r ≤ 9 ∧ R p = nI r) (hk : s.2 5 g = nI (mk g)) (hf : s.2 6 g = nI (mf g)) (hT : ∀ k, k < 4 → s.2 9 k = T k) (hc1 : s.2 12 (24 * g + d) = c (24 * g + d)) (hc2 : s.2 12 (24 * l + d) = c (24 * l + d)) (h1 : tog (s.2 12) g l = tog c g l) (h2 : rowN (s.2 12) g d = rowN c g d) (h3 : rowN (s.2 12) l d = rowN c l d) (hq : Q (whyF I R T c ((mk g).testBit l) ((mf g).testBit l) g l d) s) : wX7_reasonAgainst (nI g) (nI l) (nI d) s Q := by
  have v1 : vp_in (nI g) 16 := vin hg (by decide)
  have v2 : vp_in (nI l) 16 := vin hl (by decide)
  try dsimp only
  unfold wX7_reasonAgainst wX2_isIll
  refine ⟨v1, nb_01 (by rw [gn (by omega), hI]; exact hI1 g), ?_⟩
  try dsimp only
  rw [gn (by omega), hI]
  unfold whyF at hq
  by_cases a : I g = 0
  · try dsimp only
    rw [if_pos a]
    refine ⟨v2, nb_01 (by rw [gn (by omega), hI]; exact hI1 l), ?_⟩
    try dsimp only
    rw [gn (by omega), hI]
    by_cases b : I l = 0
    · try dsimp only
      rw [if_neg (fun z => z.elim (fun z => z a) (fun z => z b))] at hq
      try dsimp only
      rw [if_pos b, e_known (n := n) hk hg hl]
      by_cases k : (mk g).testBit l = true
      · try dsimp only
        rw [if_neg (by rw [k]; decide)] at hq
        try dsimp only
        rw [bi_t k, if_neg (by decide), e_feud (n := n) hf hg hl]
        by_cases f : (mf g).testBit l = true
        · try dsimp only
          rw [if_pos f] at hq
          try dsimp only
          rw [bi_t f, if_neg (by decide)]
          exact hq
        · try dsimp only
          rw [if_neg f] at hq
          try dsimp only
          rw [bi_f f, if_pos rfl, e_told (ck := 1) (k := 1) rfl (by decide), hT 1 (by decide)]
          have last : Q (why5 T c g l d) s → wX7_reasonAgainst_86 (nI g) (nI l) (nI d) s Q := by
            intro hq
            try dsimp only
            unfold wX7_reasonAgainst_86
            unfold why5 at hq
            try dsimp only
            rw [e_taken hg hd, hc1]
            by_cases t1 : c (24 * g + d) = -4
            · try dsimp only
              rw [bi_f (fun z => z t1), if_pos rfl, e_taken hl hd, hc2]
              by_cases t2 : c (24 * l + d) = -4
              · try dsimp only
                rw [bi_f (fun z => z t2), if_pos rfl]
                try dsimp only
                rw [if_neg (fun z => z.elim (fun z => z t1) (fun z => z t2))] at hq
                exact x_cust hg hl hd hT h1 h2 h3 hq
              · try dsimp only
                rw [bi_t t2, if_neg (by decide)]
                try dsimp only
                rw [if_pos (Or.inr t2)] at hq
                exact hq
            · try dsimp only
              rw [bi_t t1, if_neg (by decide)]
              try dsimp only
              rw [if_pos (Or.inl t1)] at hq
              exact hq
          by_cases r : T 1 = -4
          · try dsimp only
            rw [bi_f (fun z => z r), if_pos rfl]
            try dsimp only
            rw [if_neg (fun z => z.1 r)] at hq
            exact last hq
          · try dsimp only
            rw [bi_t r, if_neg (by decide)]
            try dsimp only
            unfold wX2_rankGap
            try dsimp only
            rw [gn (by omega), gn (by omega), hR, x_gap hR1]
            refine ⟨v1, v2, vi (k := 1) rfl (by decide) (by decide), ?_⟩
            rw [gk (c := 1) (j := 1) rfl (by decide), hT 1 (by decide)]
            by_cases q : gap R g l ≤ T 1
            · try dsimp only
              rw [if_pos q]
              try dsimp only
              rw [if_neg (fun z => by rw [← Int32.not_le] at z; exact z.2 q)] at hq
              exact last hq
            · try dsimp only
              rw [if_neg q]
              try dsimp only
              rw [if_pos ⟨r, by rw [← Int32.not_le]; exact q⟩] at hq
              exact hq
      · try dsimp only
        rw [if_pos (Bool.eq_false_iff.mpr k)] at hq
        try dsimp only
        rw [bi_f k, if_pos rfl]
        exact hq
    · try dsimp only
      rw [if_pos (Or.inr b)] at hq
      try dsimp only
      rw [if_neg b]
      exact hq
  · try dsimp only
    rw [if_pos (Or.inl a)] at hq
    try dsimp only
    rw [if_neg a]
    exact hq
theorem y_why {g l d : Nat} (hg : g < 16) (hl : l < 16) (hd : d < 24) {s : St} {Q : Int32 → St → Prop} {mk mf : Nat → Nat} (hI1 : ∀ p, s.2 33 p = 0 ∨ s.2 33 p = 1) (hk : s.2 34 (16 * g + l) = if (mk g).testBit l then 1 else 0) (hf : s.2 35 (16 * g + l) = if (mf g).testBit l then 1 else 0) (hq : Q (whyF (s.2 33) (s.2 32) (s.2 39) (s.2 37) ((mk g).testBit l) ((mf g).testBit l) g l d) s) : wX8_whyNot (nI g) (nI l) (nI d) s Q := by
  have v1 : vp_in (nI g) 16 := vin hg (by decide)
  have v2 : vp_in (nI l) 16 := vin hl (by decide)
  have htl : tog (s.2 37) g l ≤ 24 := fb_ct_le _ 24
  have main : wX8_whyNot_44 (nI g) (nI l) (nI d) (gap (s.2 32) g l) s Q := by
    try dsimp only
    unfold wX8_whyNot_44
    refine y_tog hg ?_
    refine ⟨v1, ?_⟩
    try dsimp only
    rw [gn (by omega)]
    unfold whyF at hq
    by_cases a : s.2 33 g = 0
    · try dsimp only
      rw [if_pos a]
      refine ⟨v2, ?_⟩
      try dsimp only
      rw [gn (by omega)]
      by_cases b : s.2 33 l = 0
      · try dsimp only
        rw [if_neg (fun z => z.elim (fun z => z a) (fun z => z b))] at hq
        try dsimp only
        rw [if_pos b, e_doKnow hk hg hl]
        by_cases k : (mk g).testBit l = true
        · try dsimp only
          rw [if_neg (by rw [k]; decide)] at hq
          try dsimp only
          rw [bi_t k, if_neg (by decide), ix16, gn (by omega), hf]
          refine ⟨vin (by omega) (by decide), ?_⟩
          by_cases f : (mf g).testBit l = true
          · try dsimp only
            rw [if_pos f] at hq
            try dsimp only
            rw [if_pos f, if_neg (by decide)]
            exact hq
          · try dsimp only
            rw [if_neg f] at hq
            try dsimp only
            rw [if_neg f, if_pos rfl]
            refine ⟨vi (k := 1) rfl (by decide) (by decide), ?_⟩
            rw [gk (c := 1) (j := 1) rfl (by decide)]
            have last : Q (why5 (s.2 39) (s.2 37) g l d) s → wX8_whyNot_125 (nI g) (nI l) (nI d) (nI (tog (s.2 37) g l)) s Q := by
              intro hq
              try dsimp only
              unfold wX8_whyNot_125
              unfold why5 at hq
              try dsimp only
              rw [e_cardOf hg hd]
              by_cases t1 : s.2 37 (24 * g + d) = -4
              · try dsimp only
                rw [if_pos t1, e_cardOf hl hd]
                by_cases t2 : s.2 37 (24 * l + d) = -4
                · try dsimp only
                  rw [if_pos t2]
                  try dsimp only
                  rw [if_neg (fun z => z.elim (fun z => z t1) (fun z => z t2))] at hq
                  refine ⟨vi (k := 0) rfl (by decide) (by decide), ?_⟩
                  rw [gk (c := 0) (j := 0) rfl (by decide)]
                  have supper : Q (if s.2 39 3 = nI d ∧ tog (s.2 37) g l = 0 then 8 else 0) s → wX8_whyNot_218 (nI d) (nI (tog (s.2 37) g l)) s Q := by
                    intro hq
                    try dsimp only
                    unfold wX8_whyNot_218
                    refine ⟨vi (k := 3) rfl (by decide) (by decide), ?_⟩
                    rw [gk (c := 3) (j := 3) rfl (by decide)]
                    by_cases x : s.2 39 3 = nI d
                    · try dsimp only
                      rw [if_pos x]
                      by_cases e : tog (s.2 37) g l = 0
                      · try dsimp only
                        rw [if_pos (by rw [e]; rfl)]
                        try dsimp only
                        rw [if_pos ⟨x, e⟩] at hq
                        exact hq
                      · try dsimp only
                        rw [if_neg (fun z : nI (tog (s.2 37) g l) = 0 => e ((nI_eq (b := 0) (by omega) (by omega)).mp z))]
                        try dsimp only
                        rw [if_neg (fun z => e z.2)] at hq
                        exact hq
                    · try dsimp only
                      rw [if_neg x]
                      try dsimp only
                      rw [if_neg (fun z => x z.1)] at hq
                      exact hq
                  have mid : Q (if ¬ s.2 39 2 = -4 ∧ (s.2 39 2 < nI (rowN (s.2 37) g d) ∨ s.2 39 2 < nI (rowN (s.2 37) l d)) then 7 else if s.2 39 3 = nI d ∧ tog (s.2 37) g l = 0 then 8 else 0) s → wX8_whyNot_174 (nI g) (nI l) (nI d) (nI (tog (s.2 37) g l)) s Q := by
                    intro hq
                    try dsimp only
                    unfold wX8_whyNot_174
                    refine ⟨vi (k := 2) rfl (by decide) (by decide), ?_⟩
                    rw [gk (c := 2) (j := 2) rfl (by decide)]
                    by_cases x : s.2 39 2 = -4
                    · try dsimp only
                      rw [if_pos x]
                      try dsimp only
                      rw [if_neg (fun z => z.1 x)] at hq
                      exact supper hq
                    · try dsimp only
                      rw [if_neg x]
                      refine y_run hg hd ?_
                      refine ⟨vi (k := 2) rfl (by decide) (by decide), ?_⟩
                      rw [gk (c := 2) (j := 2) rfl (by decide)]
                      by_cases y : s.2 39 2 < nI (rowN (s.2 37) g d)
                      · try dsimp only
                        rw [if_pos y]
                        try dsimp only
                        rw [if_pos ⟨x, Or.inl y⟩] at hq
                        exact hq
                      · try dsimp only
                        rw [if_neg y]
                        refine y_run hl hd ?_
                        refine ⟨vi (k := 2) rfl (by decide) (by decide), ?_⟩
                        rw [gk (c := 2) (j := 2) rfl (by decide)]
                        by_cases w : nI (rowN (s.2 37) l d) ≤ s.2 39 2
                        · try dsimp only
                          rw [if_pos w]
                          try dsimp only
                          rw [if_neg (fun z => z.2.elim y (fun z => by rw [← Int32.not_le] at z; exact z w))] at hq
                          exact supper hq
                        · try dsimp only
                          rw [if_neg w]
                          try dsimp only
                          rw [if_pos ⟨x, Or.inr (by rw [← Int32.not_le]; exact w)⟩] at hq
                          exact hq
                  by_cases x : s.2 39 0 = -4
                  · try dsimp only
                    rw [if_pos x]
                    try dsimp only
                    rw [if_neg (fun z => z.1 x)] at hq
                    exact mid hq
                  · try dsimp only
                    rw [if_neg x]
                    refine ⟨vi (k := 0) rfl (by decide) (by decide), ?_⟩
                    by_cases y : s.2 39 0 ≤ nI (tog (s.2 37) g l)
                    · try dsimp only
                      rw [if_neg (by rw [Int32.not_lt]; exact y)]
                      try dsimp only
                      rw [if_pos ⟨x, y⟩] at hq
                      exact hq
                    · try dsimp only
                      rw [if_pos (by rw [Int32.not_le] at y; exact y)]
                      try dsimp only
                      rw [if_neg (fun z => y z.2)] at hq
                      exact mid hq
                · try dsimp only
                  rw [if_neg t2]
                  try dsimp only
                  rw [if_pos (Or.inr t2)] at hq
                  exact hq
              · try dsimp only
                rw [if_neg t1]
                try dsimp only
                rw [if_pos (Or.inl t1)] at hq
                exact hq
            by_cases r : s.2 39 1 = -4
            · try dsimp only
              rw [if_pos r]
              try dsimp only
              rw [if_neg (fun z => z.1 r)] at hq
              exact last hq
            · try dsimp only
              rw [if_neg r]
              refine ⟨vi (k := 1) rfl (by decide) (by decide), ?_⟩
              by_cases q : gap (s.2 32) g l ≤ s.2 39 1
              · try dsimp only
                rw [if_pos q]
                try dsimp only
                rw [if_neg (fun z => by rw [← Int32.not_le] at z; exact z.2 q)] at hq
                exact last hq
              · try dsimp only
                rw [if_neg q]
                try dsimp only
                rw [if_pos ⟨r, by rw [← Int32.not_le]; exact q⟩] at hq
                exact hq
        · try dsimp only
          rw [if_pos (Bool.eq_false_iff.mpr k)] at hq
          try dsimp only
          rw [bi_f k, if_pos rfl]
          exact hq
      · try dsimp only
        rw [if_pos (Or.inr b)] at hq
        try dsimp only
        rw [if_neg b]
        exact hq
    · try dsimp only
      rw [if_pos (Or.inl a)] at hq
      try dsimp only
      rw [if_neg a]
      exact hq
  try dsimp only
  unfold wX8_whyNot
  refine ⟨v1, v2, ?_⟩
  unfold gap at main
  try dsimp only
  rw [gn (by omega), gn (by omega)]
  by_cases z : s.2 32 g ≤ s.2 32 l
  · try dsimp only
    rw [if_pos z] at main ⊢
    exact ⟨v2, v1, main⟩
  · try dsimp only
    rw [if_neg z] at main ⊢
    exact ⟨v1, v2, main⟩
