/-! LAID, as a function of the wishes; the whole relation -/
def lf (f : Nat → Int32) (p : Nat) : Nat := fa_first (fun d => decide (f (64 * p + d) = -4)) 64
def chn : Nat → (Nat → Int32) → Int32 → Nat → Nat → (Nat → Int32)
  | 0, f, _, _, _ => f
  | k + 1, f, p, a, b => if p = -4 then f else chn k (upd (upd f (64 * p.toNatClampNeg + a) (f (64 * p.toNatClampNeg + b))) (64 * p.toNatClampNeg + b) (f (64 * p.toNatClampNeg + a))) (f (64 * p.toNatClampNeg + a)) b a
def plan1 (l g : Nat) (f : Nat → Int32) : Nat → Int32 := upd (upd (if lf f l = lf f g then f else chn 16 f (nI g) (lf f l) (lf f g)) (64 * l + lf f l) (nI g)) (64 * g + lf f l) (nI l)
def rep {α : Type} (h : α → α) : Nat → α → α
  | 0, x => x
  | k + 1, x => h (rep h k x)
def planG (w : Nat → Int32) (l : Nat) : Nat → (Nat → Int32) → (Nat → Int32)
  | 0, f => f
  | g + 1, f => rep (plan1 l g) (w (16 * l + g)).toNatClampNeg (planG w l g f)
def planL (w : Nat → Int32) : Nat → (Nat → Int32) → (Nat → Int32)
  | 0, f => f
  | l + 1, f => planG w l 16 (planL w l f)
def laidF (w : Nat → Int32) : Nat → Int32 := planL w 16 (fun _ => -4)
def PlanOk (w plan : Nat → Int32) : Prop := ∀ p d, p < 16 → d < 64 → plan (64 * p + d) = laidF w (64 * p + d)
def InvX (t : Nat) (s : St) : Prop := (gF s 701 = nI t ∧ gF s 3009 = nI t ∧ InvY t (s.2 8) (s.2 38)) ∧ gF s 702 = gF s 3010
def InvZ (s : St) : Prop := InvS (s.2 18) (s.2 19) (s.2 46) (s.2 47) ∧ s.2 20 = s.2 48
def InvQ (n : Nat) (s : St) : Prop := (s.2 22 = s.2 36 ∧ InvW n (s.2 31) (s.2 36)) ∧ (gF s 2102 = 0 ∨ gF s 2102 = 1) ∧ (gF s 2102 = 1 → PlanOk (s.2 36) (s.2 23))
/-- THE RELATION -/
def InvN (n t : Nat) (s : St) : Prop := InvP n s ∧ InvB n (s.2 5) (s.2 34) ∧ InvB n (s.2 6) (s.2 35) ∧ InvC n (s.2 31) (s.2 12) (s.2 37) ∧ InvT (s.2 9) (s.2 39) ∧ InvX t s ∧ InvZ s ∧ InvQ n s
def Inv (s : St) : Prop := ∃ n t : Nat, InvN n t s
/-- rows and fields that the relation reads -/
def core : List Nat := [2, 3, 4, 5, 6, 8, 9, 12, 18, 19, 20, 22, 23, 31, 32, 33, 34, 35, 36, 37, 38, 39, 46, 47, 48]
def coreF : List Nat := [100, 3000, 701, 3009, 702, 3010, 2102]
/-- two states that the relation doesn't tell apart -/
def sim (s t : St) : Prop := (∀ k ∈ core, t.2 k = s.2 k) ∧ ∀ k ∈ coreF, gF t k = gF s k
theorem sim.rf (s : St) : sim s s := ⟨fun _ _ => rfl, fun _ _ => rfl⟩
theorem sim.tr {a b c : St} (h : sim a b) (g : sim b c) : sim a c := ⟨fun k hk => (g.1 k hk).trans (h.1 k hk), fun k hk => (g.2 k hk).trans (h.2 k hk)⟩
theorem sim.inv {n t : Nat} {a b : St} (h : sim a b) (i : InvN n t a) : InvN n t b := by
  obtain ⟨h1, h2⟩ := h
  have r := fun k (hk : k ∈ core) => h1 k hk
  simp only [core, List.mem_cons, List.not_mem_nil, or_false, forall_eq_or_imp, forall_eq] at h1
  simp only [coreF, List.mem_cons, List.not_mem_nil, or_false, forall_eq_or_imp, forall_eq] at h2
  obtain ⟨a2, a3, a4, a5, a6, a8, a9, a12, a18, a19, a20, a22, a23, a31, a32, a33, a34, a35, a36, a37, a38, a39, a46, a47, a48⟩ := h1
  obtain ⟨f1, f2, f3, f4, f5, f6, f7⟩ := h2
  unfold InvN InvP InvX InvZ InvQ at i ⊢
  rw [a2, a3, a4, a5, a6, a8, a9, a12, a18, a19, a20, a22, a23, a31, a32, a33, a34, a35, a36, a37, a38, a39, a46, a47, a48, f1, f2, f3, f4, f5, f6, f7]
  exact i
theorem sim.A {s : St} {k : Nat} {i v : Int32} (h : k ∉ core) : sim s (stA s k i v) := ⟨fun j hj => by rw [g_AA, if_neg (fun e : j = k => h (e ▸ hj))], fun _ _ => rfl⟩
theorem sim.C {s : St} {k : Nat} {f : Nat → Int32} (h : k ∉ core) : sim s (stC s k f) := ⟨fun j hj => by rw [g_CA, if_neg (fun e : j = k => h (e ▸ hj))], fun _ _ => rfl⟩
theorem sim.F {s : St} {k : Nat} {v : Int32} (h : k ∉ coreF) : sim s (stF s k v) := ⟨fun _ _ => rfl, fun j hj => by rw [g_FF, if_neg (fun e : j = k => h (e ▸ hj))]⟩
/-- what an op owes -/
abbrev Op (f g : (Int32 → St → Prop) → St → Prop) : Prop := ∀ (s : St), Inv s → ∀ K : Int32 → Int32 → St → Prop, (∀ r s', Inv s' → K r r s') → f (fun r s1 => g (fun r' s2 => K r r' s2) s1) s
theorem inI {n : Nat} {a : Int32} (h : vp_in a n) (h16 : n ≤ 16) : ∃ i : Nat, i < n ∧ a = nI i := vp_in_of h (by omega)
theorem e_known {n i j : Nat} {s : St} {m : Nat → Nat} {Q : Int32 → St → Prop} (hm : s.2 5 i = nI (m i)) (hi : i < 16) (hj : j < 16) : wX2_areKnown (nI i) (nI j) s Q = Q (bi ((m i).testBit j = true)) s := by
  try dsimp only
  unfold wX2_areKnown
  try dsimp only
  rw [gn (by omega), hm]
  by_cases h : (m i).testBit j = true
  · try dsimp only
    rw [if_neg (by rw [bit0 hj, h]; decide), bi_t h]
    exact propext ⟨fun z => z.2, fun z => ⟨vin hi (by omega), z⟩⟩
  · try dsimp only
    rw [if_pos (by rw [bit0 hj]; exact Bool.eq_false_iff.mpr h), bi_f h]
    exact propext ⟨fun z => z.2, fun z => ⟨vin hi (by omega), z⟩⟩
theorem e_feud {n i j : Nat} {s : St} {m : Nat → Nat} {Q : Int32 → St → Prop} (hm : s.2 6 i = nI (m i)) (hi : i < 16) (hj : j < 16) : wX2_areAtFeud (nI i) (nI j) s Q = Q (bi ((m i).testBit j = true)) s := by
  try dsimp only
  unfold wX2_areAtFeud
  try dsimp only
  rw [gn (by omega), hm]
  by_cases h : (m i).testBit j = true
  · try dsimp only
    rw [if_neg (by rw [bit0 hj, h]; decide), bi_t h]
    exact propext ⟨fun z => z.2, fun z => ⟨vin hi (by omega), z⟩⟩
  · try dsimp only
    rw [if_pos (by rw [bit0 hj]; exact Bool.eq_false_iff.mpr h), bi_f h]
    exact propext ⟨fun z => z.2, fun z => ⟨vin hi (by omega), z⟩⟩
theorem if_bi (c : Bool) : (if c then (1 : Int32) else 0) = bi (c = true) := by cases c <;> simp [bi]
theorem e_doKnow {i j : Nat} {s : St} {m : Nat → Nat} {Q : Int32 → St → Prop} (hm : s.2 34 (16 * i + j) = if (m i).testBit j then 1 else 0) (hi : i < 16) (hj : j < 16) : wX8_doKnow (nI i) (nI j) s Q = Q (bi ((m i).testBit j = true)) s := by
  try dsimp only
  unfold wX8_doKnow
  try dsimp only
  rw [ix16, gn (by omega), hm, if_bi]
  exact propext ⟨fun z => z.2.2, fun z => ⟨vin (by omega) (by omega), nb_bi _, z⟩⟩
theorem op_knows (a b : Int32) : Op (fun Q s => wX7_knows a b s Q) (fun Q s => wX8_knows a b s Q) := by
  intro s hI K hK
  obtain ⟨n, t, hI'⟩ := id hI
  obtain ⟨⟨h16, n1, n2, -⟩, ⟨m, m1, m2, m3, m4, m5⟩, -⟩ := hI'
  show wX7_knows a b s _
  try dsimp only
  unfold wX7_knows
  try dsimp only
  rw [e_there n1 h16]
  by_cases ha : vp_in a n
  · obtain ⟨i, hi, rfl⟩ := inI ha h16
    try dsimp only
    rw [bi_t ha, if_neg (by decide), e_there n1 h16]
    by_cases hb : vp_in b n
    · obtain ⟨j, hj, rfl⟩ := inI hb h16
      try dsimp only
      rw [bi_t hb, if_neg (by decide), e_known (n := n) (m := m) (m1 i (by omega)) (by omega) (by omega)]
      try dsimp only
      unfold wX7_toInt
      have e : ∀ r : Int32, r = bi ((m i).testBit j = true) → wX8_knows (nI i) (nI j) s (fun r' s2 => K r r' s2) := by
        intro r hr
        try dsimp only
        unfold wX8_knows
        try dsimp only
        rw [e_is n2 h16, bi_t ha, if_neg (by decide), e_is n2 h16, bi_t hb, if_neg (by decide), e_doKnow (m := m) (m3 i j (by omega) (by omega)) (by omega) (by omega)]
        by_cases hz : (m i).testBit j = true
        · try dsimp only
          rw [bi_t hz] at hr ⊢; rw [if_neg (by decide)]; exact hr ▸ hK _ _ hI
        · try dsimp only
          rw [bi_f hz] at hr ⊢; rw [if_pos rfl]; exact hr ▸ hK _ _ hI
      by_cases hz : (m i).testBit j = true
      · try dsimp only
        rw [bi_t hz, if_neg (by decide)]; exact e 1 (bi_t hz).symm
      · try dsimp only
        rw [bi_f hz, if_pos rfl]; exact e 0 (bi_f hz).symm
    · try dsimp only
      rw [bi_f hb, if_pos rfl]
      show wX8_knows (nI i) b s _
      try dsimp only
      unfold wX8_knows
      try dsimp only
      rw [e_is n2 h16, bi_t ha, if_neg (by decide), e_is n2 h16, bi_f hb, if_pos rfl]
      exact hK _ _ hI
  · try dsimp only
    rw [bi_f ha, if_pos rfl]
    show wX8_knows a b s _
    try dsimp only
    unfold wX8_knows
    try dsimp only
    rw [e_is n2 h16, bi_f ha, if_pos rfl]
    exact hK _ _ hI
