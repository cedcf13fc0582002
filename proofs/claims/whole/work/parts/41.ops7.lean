/-! fewest -/
def mxs (f : Nat → Nat) : Nat → Nat
  | 0 => 0
  | k + 1 => if mxs f k < f k then f k else mxs f k
theorem mxs_z {f : Nat → Nat} {n : Nat} : ∀ m, (∀ k, n ≤ k → k < n + m → f k = 0) → mxs f (n + m) = mxs f n
  | 0, _ => rfl
  | m + 1, h => by
    show (if mxs f (n + m) < f (n + m) then f (n + m) else mxs f (n + m)) = mxs f n
    rw [h (n + m) (by omega) (by omega), if_neg (by omega)]
    exact mxs_z m (fun k h1 h2 => h k h1 (by omega))
theorem sm_z {f : Nat → Nat} {n : Nat} : ∀ m, (∀ k, n ≤ k → k < n + m → f k = 0) → fb_sm f (n + m) = fb_sm f n
  | 0, _ => rfl
  | m + 1, h => by
    show fb_sm f (n + m) + f (n + m) = fb_sm f n
    rw [h (n + m) (by omega) (by omega), sm_z m (fun k h1 h2 => h k h1 (by omega))]; rfl
/-- wishes as numbers, and what one has of them -/
def wN (w : Nat → Int32) (i : Nat) : Nat := (w i).toNatClampNeg
def wB (w : Nat → Int32) (p q : Nat) : Nat := wN w (16 * p + q) + wN w (16 * q + p)
theorem InvW.le {n : Nat} {L w : Nat → Int32} (h : InvW n L w) (i : Nat) : w i = nI (wN w i) ∧ wN w i ≤ 4 := by
  obtain ⟨v, v1, v2, -⟩ := h i
  unfold wN
  rw [v2, cl (by omega)]
  exact ⟨rfl, v1⟩
theorem InvW.out {n : Nat} {L w : Nat → Int32} (h : InvW n L w) (h16 : n ≤ 16) {p q : Nat} (hq : q < 16) (ho : n ≤ p ∨ n ≤ q) : wN w (16 * p + q) = 0 := by
  obtain ⟨v, v1, v2, v3⟩ := h (16 * p + q)
  unfold wN
  rw [v2, cl (by omega)]
  rcases Nat.eq_zero_or_pos v with z | z
  · exact z
  · obtain ⟨l, g, e, hl, hg, -⟩ := v3 z
    omega
theorem wB_le {n : Nat} {L w : Nat → Int32} (h : InvW n L w) (p q : Nat) : wB w p q ≤ 8 := by
  have := (h.le (16 * p + q)).2
  have := (h.le (16 * q + p)).2
  unfold wB; omega
theorem wB_out {n : Nat} {L w : Nat → Int32} (h : InvW n L w) (h16 : n ≤ 16) {p q : Nat} (hp : p < 16) (hq : q < 16) (ho : n ≤ p ∨ n ≤ q) : wB w p q = 0 := by
  unfold wB
  rw [h.out h16 hq ho, h.out h16 hp (ho.elim Or.inr Or.inl)]
theorem x_ofOne {n p : Nat} (hp : p < 16) {s : St} {w L : Nat → Int32} (hw : s.2 22 = w) (h : InvW n L w) {Q : Int32 → St → Prop} (hq : Q (nI (fb_sm (wB w p) 16)) s) : wX6_ofOne (nI p) s Q := by
  have lp : ∀ m k, k + m = 16 → wX6_ofOne_4 (nI p) (nI (fb_sm (wB w p) k)) (nI k) s Q := by
    intro m k hm P hP
    induction m generalizing k with
    | zero =>
      have e : k = 16 := by omega
      subst e
      refine hP _ _ _ _ ?_
      try dsimp only
      unfold wX6_ofOne_4_b
      try dsimp only
      rw [if_pos (show (16 : Int32) ≤ nI 16 from nI_le (a := 16) (b := 16) (by omega) (by omega))]
      exact hq
    | succ m ih =>
      refine hP _ _ _ _ ?_
      have nx := ih (k + 1) (by omega)
      rw [fb_sm_succ] at nx
      try dsimp only
      unfold wX6_ofOne_4_b
      try dsimp only
      rw [if_neg (show ¬ (16 : Int32) ≤ nI k from nI_ge (b := 16) (by omega) (by omega)), ix16', ix16', gn (by omega), gn (by omega), hw, (h.le _).1, (h.le (16 * k + p)).1, nI_add, nI_add, nI_1]
      exact ⟨vin (by omega) (by decide), vin (by omega) (by decide), nx⟩
  exact lp 16 0 (by omega)
theorem x_most {n : Nat} {s : St} {w L : Nat → Int32} (hw : s.2 22 = w) (h : InvW n L w) {Q : Int32 → St → Prop} (hq : Q (nI (mxs (fun p => fb_sm (wB w p) 16) 16)) s) : wX6_mostOfOne s Q := by
  have bd : ∀ p, fb_sm (wB w p) 16 ≤ 128 := fun p => Nat.le_trans (fb_sm_bound (c := 8) (fun k _ => wB_le h p k)) (by decide)
  have bm : ∀ k, mxs (fun p => fb_sm (wB w p) 16) k ≤ 128 := by
    intro k
    induction k with
    | zero => exact Nat.zero_le _
    | succ k ih =>
      unfold mxs
      split
      · exact bd k
      · exact ih
  have lp : ∀ m k, k + m = 16 → wX6_mostOfOne_4 (nI (mxs (fun p => fb_sm (wB w p) 16) k)) (nI k) s Q := by
    intro m k hm P hP
    induction m generalizing k with
    | zero =>
      have e : k = 16 := by omega
      subst e
      refine hP _ _ _ ?_
      try dsimp only
      unfold wX6_mostOfOne_4_b
      try dsimp only
      rw [if_pos (show (16 : Int32) ≤ nI 16 from nI_le (a := 16) (b := 16) (by omega) (by omega))]
      exact hq
    | succ m ih =>
      refine hP _ _ _ ?_
      have nx := ih (k + 1) (by omega)
      try dsimp only
      unfold wX6_mostOfOne_4_b
      try dsimp only
      rw [if_neg (show ¬ (16 : Int32) ≤ nI k from nI_ge (b := 16) (by omega) (by omega))]
      refine x_ofOne (by omega) hw h ?_
      rw [nI_1]
      have e : (if nI (mxs (fun p => fb_sm (wB w p) 16) k) < nI (fb_sm (wB w k) 16) then nI (fb_sm (wB w k) 16) else nI (mxs (fun p => fb_sm (wB w p) 16) k)) = nI (mxs (fun p => fb_sm (wB w p) 16) (k + 1)) := by
        have b1 := bd k
        have b2 := bm k
        show _ = nI (if mxs (fun p => fb_sm (wB w p) 16) k < fb_sm (wB w k) 16 then fb_sm (wB w k) 16 else mxs (fun p => fb_sm (wB w p) 16) k)
        by_cases z : mxs (fun p => fb_sm (wB w p) 16) k < fb_sm (wB w k) 16
        · try dsimp only
          rw [if_pos z, if_pos (nI_lt z (by omega))]
        · try dsimp only
          rw [if_neg z, if_neg (nI_nlt (by omega) (by omega))]
      rw [e]
      exact nx
  exact lp 16 0 (by omega)
theorem y_fewest {n : Nat} (h16 : n ≤ 16) {s : St} {L : Nat → Int32} (n2 : gF s 3000 = nI n) (h : InvW n L (s.2 36)) {Q : Int32 → St → Prop} (hq : Q (nI (mxs (fun p => fb_sm (wB (s.2 36) p) n) n)) s) : wX8_fewest s Q := by
  have bd : ∀ p, fb_sm (wB (s.2 36) p) n ≤ 128 := fun p => Nat.le_trans (fb_sm_bound (c := 8) (fun k _ => wB_le h p k)) (by omega)
  have bm : ∀ k, mxs (fun p => fb_sm (wB (s.2 36) p) n) k ≤ 128 := by
    intro k
    induction k with
    | zero => exact Nat.zero_le _
    | succ k ih =>
      unfold mxs
      split
      · exact bd k
      · exact ih
  have lp : ∀ m k, k + m = n → wX8_fewest_4 (nI (mxs (fun p => fb_sm (wB (s.2 36) p) n) k)) (nI k) s Q := by
    intro m k hm P hP
    induction m generalizing k with
    | zero =>
      have e : k = n := by omega
      subst e
      refine hP _ _ _ ?_
      try dsimp only
      unfold wX8_fewest_4_b
      rw [n2, if_pos (nI_le (Nat.le_refl k) (by omega))]
      exact hq
    | succ m ih =>
      refine hP _ _ _ ?_
      have nx := ih (k + 1) (by omega)
      try dsimp only
      unfold wX8_fewest_4_b
      rw [n2, if_neg (nI_ge (by omega) (by omega))]
      have inner : ∀ m' j, j + m' = n → wX8_fewest_17 P (nI (mxs (fun p => fb_sm (wB (s.2 36) p) n) k)) (nI k) (nI (fb_sm (wB (s.2 36) k) j)) (nI j) s Q := by
        intro m' j hm' P' hP'
        induction m' generalizing j with
        | zero =>
          have e : j = n := by omega
          subst e
          refine hP' _ _ _ _ _ ?_
          try dsimp only
          unfold wX8_fewest_17_b
          rw [n2, if_pos (nI_le (Nat.le_refl j) (by omega)), nI_1]
          have b1 := bd k
          have b2 := bm k
          have nx2 : P (nI (if mxs (fun p => fb_sm (wB (s.2 36) p) j) k < fb_sm (wB (s.2 36) k) j then fb_sm (wB (s.2 36) k) j else mxs (fun p => fb_sm (wB (s.2 36) p) j) k)) (nI (k + 1)) s := nx
          by_cases z : mxs (fun p => fb_sm (wB (s.2 36) p) j) k < fb_sm (wB (s.2 36) k) j
          · try dsimp only
            rw [if_pos z] at nx2
            try dsimp only
            rw [if_neg (nI_ge z (by omega))]
            exact nx2
          · try dsimp only
            rw [if_neg z] at nx2
            try dsimp only
            rw [if_pos (nI_le (by omega) (by omega))]
            exact nx2
        | succ m' ih' =>
          refine hP' _ _ _ _ _ ?_
          have nx' := ih' (j + 1) (by omega)
          rw [fb_sm_succ] at nx'
          try dsimp only
          unfold wX8_fewest_17_b
          rw [n2, if_neg (nI_ge (by omega) (by omega)), ix16, ix16, gn (by omega), gn (by omega), (h.le _).1, (h.le (16 * j + k)).1, nI_add, nI_add, nI_1]
          exact ⟨vin (by omega) (by decide), vin (by omega) (by decide), nx'⟩
      exact inner n 0 (by omega)
  exact lp n 0 (by omega)
theorem few_eq {n : Nat} (h16 : n ≤ 16) {L w : Nat → Int32} (h : InvW n L w) : mxs (fun p => fb_sm (wB w p) 16) 16 = mxs (fun p => fb_sm (wB w p) n) n := by
  have e1 : ∀ p, p < 16 → fb_sm (wB w p) 16 = fb_sm (wB w p) n := by
    intro p hp
    have := sm_z (f := wB w p) (n := n) (16 - n) (fun k h1 h2 => wB_out h h16 hp (by omega) (Or.inr h1))
    rw [show n + (16 - n) = 16 by omega] at this
    exact this
  have e2 : mxs (fun p => fb_sm (wB w p) 16) 16 = mxs (fun p => fb_sm (wB w p) 16) n := by
    have := mxs_z (f := fun p => fb_sm (wB w p) 16) (n := n) (16 - n) (fun k h1 h2 => by
      show fb_sm (wB w k) 16 = 0
      have : fb_sm (wB w k) 16 = fb_sm (fun _ => 0) 16 := fb_sm_cong (fun q hq => wB_out h h16 (by omega) hq (Or.inl h1))
      rw [this]; decide)
    rw [show n + (16 - n) = 16 by omega] at this
    exact this
  rw [e2]
  have e3 : ∀ k, k ≤ n → mxs (fun p => fb_sm (wB w p) 16) k = mxs (fun p => fb_sm (wB w p) n) k := by
    intro k
    induction k with
    | zero => intro _; rfl
    | succ k ih =>
      intro hk
      show (if mxs (fun p => fb_sm (wB w p) 16) k < fb_sm (wB w k) 16 then fb_sm (wB w k) 16 else mxs (fun p => fb_sm (wB w p) 16) k) = (if mxs (fun p => fb_sm (wB w p) n) k < fb_sm (wB w k) n then fb_sm (wB w k) n else mxs (fun p => fb_sm (wB w p) n) k)
      rw [ih (by omega), e1 k (by omega)]
  exact e3 n (Nat.le_refl n)
theorem op_fewest : Op (fun Q s => wX7_fewest s Q) (fun Q s => wX8_fewest s Q) := by
  intro s hI K hK
  obtain ⟨n, t, hP, hB, hF, hC, hT, hX, hZ, ⟨⟨w1, w2⟩, w3, w4⟩⟩ := id hI
  obtain ⟨h16, n1, n2, p1, -⟩ := hP
  show wX7_fewest s _
  try dsimp only
  unfold wX7_fewest
  refine x_most w1 w2 ?_
  refine y_fewest h16 n2 w2 ?_
  rw [few_eq h16 w2]
  exact hK _ _ hI
