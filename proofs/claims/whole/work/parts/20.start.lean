theorem start_ref {s : State} {b : Nat} (hts : ∀ w ∈ lw_tbl, w.before #[Value.ref b] s = true) {aK : Nat → Nat} (k : Nat) (hk : k < 4) (he : (Term.string "DanceCards$Tape" (s_ix k)).eval #[Value.ref b] s none [] s = some (.ref (aK k))) : vk_R "DanceCards$Tape" (s_ix k) (s_tx k) (aK k) s := by
  have h1 : (Cond.stringRef "DanceCards$Tape" (s_ix k) (s_tx k)).before #[Value.ref b] s = true := by
    rcases (show k = 0 ∨ k = 1 ∨ k = 2 ∨ k = 3 by omega) with rfl | rfl | rfl | rfl
    · exact hts _ (by decide +kernel)
    · exact hts _ (by decide +kernel)
    · exact hts _ (by decide +kernel)
    · exact hts _ (by decide +kernel)
  exact vk_R.of h1 he
theorem start_text {s : State} {b : Nat} (hs : ∀ c ∈ flatC (Jvm.Cond.and given_1 narrow_1), c.before #[Value.ref b] s = true) {A : Nat → Prop} (hA : ∀ a : Nat, a < s.heap.size → ¬ A a) : ∃ aK aV : Nat → Nat, vk_S 4 s_len s_byt aK aV A s s.heap ∧ ∀ i : Nat, i < 4 → (Term.string "DanceCards$Tape" (s_ix i)).eval #[Value.ref b] s none [] s = some (.ref (aK i)) := by
  refine vk_Sof (tm := fun i => .string "DanceCards$Tape" (s_ix i)) (fun i hi => ?_) (fun i hi => ?_) (fun i hi => ?_) (fun i hi => ?_) (fun i hi => ?_) (fun i hi j hj => ?_) (fun i j hi hj hij => ?_) hA
  all_goals rcases (show i = 0 ∨ i = 1 ∨ i = 2 ∨ i = 3 by omega) with rfl | rfl | rfl | rfl
  · decide
  · decide
  · decide
  · decide
  · exact hs (.exactly (.string "DanceCards$Tape" 116) "java/lang/String") (by decide +kernel)
  · exact hs (.exactly (.string "DanceCards$Tape" 118) "java/lang/String") (by decide +kernel)
  · exact hs (.exactly (.string "DanceCards$Tape" 120) "java/lang/String") (by decide +kernel)
  · exact hs (.exactly (.string "DanceCards$Tape" 122) "java/lang/String") (by decide +kernel)
  · exact hs (.eq (.field (.string "DanceCards$Tape" 116) "java/lang/String" "coder" "B") (.int 0)) (by decide +kernel)
  · exact hs (.eq (.field (.string "DanceCards$Tape" 118) "java/lang/String" "coder" "B") (.int 0)) (by decide +kernel)
  · exact hs (.eq (.field (.string "DanceCards$Tape" 120) "java/lang/String" "coder" "B") (.int 0)) (by decide +kernel)
  · exact hs (.eq (.field (.string "DanceCards$Tape" 122) "java/lang/String" "coder" "B") (.int 0)) (by decide +kernel)
  · exact hs (.arrayOf (.field (.string "DanceCards$Tape" 116) "java/lang/String" "value" "[B") .byte) (by decide +kernel)
  · exact hs (.arrayOf (.field (.string "DanceCards$Tape" 118) "java/lang/String" "value" "[B") .byte) (by decide +kernel)
  · exact hs (.arrayOf (.field (.string "DanceCards$Tape" 120) "java/lang/String" "value" "[B") .byte) (by decide +kernel)
  · exact hs (.arrayOf (.field (.string "DanceCards$Tape" 122) "java/lang/String" "value" "[B") .byte) (by decide +kernel)
  · exact hs (.eq (.length (.field (.string "DanceCards$Tape" 116) "java/lang/String" "value" "[B")) (.int 4)) (by decide +kernel)
  · exact hs (.eq (.length (.field (.string "DanceCards$Tape" 118) "java/lang/String" "value" "[B")) (.int 4)) (by decide +kernel)
  · exact hs (.eq (.length (.field (.string "DanceCards$Tape" 120) "java/lang/String" "value" "[B")) (.int 3)) (by decide +kernel)
  · exact hs (.eq (.length (.field (.string "DanceCards$Tape" 122) "java/lang/String" "value" "[B")) (.int 6)) (by decide +kernel)
  · rcases (show j = 0 ∨ j = 1 ∨ j = 2 ∨ j = 3 by simp [s_len] at hj; omega) with rfl | rfl | rfl | rfl
    · exact hs (.eq (.elem (.field (.string "DanceCards$Tape" 116) "java/lang/String" "value" "[B") (.int 0)) (.int 112)) (by decide +kernel)
    · exact hs (.eq (.elem (.field (.string "DanceCards$Tape" 116) "java/lang/String" "value" "[B") (.int 1)) (.int 97)) (by decide +kernel)
    · exact hs (.eq (.elem (.field (.string "DanceCards$Tape" 116) "java/lang/String" "value" "[B") (.int 2)) (.int 105)) (by decide +kernel)
    · exact hs (.eq (.elem (.field (.string "DanceCards$Tape" 116) "java/lang/String" "value" "[B") (.int 3)) (.int 114)) (by decide +kernel)
  · rcases (show j = 0 ∨ j = 1 ∨ j = 2 ∨ j = 3 by simp [s_len] at hj; omega) with rfl | rfl | rfl | rfl
    · exact hs (.eq (.elem (.field (.string "DanceCards$Tape" 118) "java/lang/String" "value" "[B") (.int 0)) (.int 114)) (by decide +kernel)
    · exact hs (.eq (.elem (.field (.string "DanceCards$Tape" 118) "java/lang/String" "value" "[B") (.int 1)) (.int 97)) (by decide +kernel)
    · exact hs (.eq (.elem (.field (.string "DanceCards$Tape" 118) "java/lang/String" "value" "[B") (.int 2)) (.int 110)) (by decide +kernel)
    · exact hs (.eq (.elem (.field (.string "DanceCards$Tape" 118) "java/lang/String" "value" "[B") (.int 3)) (.int 107)) (by decide +kernel)
  · rcases (show j = 0 ∨ j = 1 ∨ j = 2 by simp [s_len] at hj; omega) with rfl | rfl | rfl
    · exact hs (.eq (.elem (.field (.string "DanceCards$Tape" 120) "java/lang/String" "value" "[B") (.int 0)) (.int 114)) (by decide +kernel)
    · exact hs (.eq (.elem (.field (.string "DanceCards$Tape" 120) "java/lang/String" "value" "[B") (.int 1)) (.int 111)) (by decide +kernel)
    · exact hs (.eq (.elem (.field (.string "DanceCards$Tape" 120) "java/lang/String" "value" "[B") (.int 2)) (.int 119)) (by decide +kernel)
  · rcases (show j = 0 ∨ j = 1 ∨ j = 2 ∨ j = 3 ∨ j = 4 ∨ j = 5 by simp [s_len] at hj; omega) with rfl | rfl | rfl | rfl | rfl | rfl
    · exact hs (.eq (.elem (.field (.string "DanceCards$Tape" 122) "java/lang/String" "value" "[B") (.int 0)) (.int 115)) (by decide +kernel)
    · exact hs (.eq (.elem (.field (.string "DanceCards$Tape" 122) "java/lang/String" "value" "[B") (.int 1)) (.int 117)) (by decide +kernel)
    · exact hs (.eq (.elem (.field (.string "DanceCards$Tape" 122) "java/lang/String" "value" "[B") (.int 2)) (.int 112)) (by decide +kernel)
    · exact hs (.eq (.elem (.field (.string "DanceCards$Tape" 122) "java/lang/String" "value" "[B") (.int 3)) (.int 112)) (by decide +kernel)
    · exact hs (.eq (.elem (.field (.string "DanceCards$Tape" 122) "java/lang/String" "value" "[B") (.int 4)) (.int 101)) (by decide +kernel)
    · exact hs (.eq (.elem (.field (.string "DanceCards$Tape" 122) "java/lang/String" "value" "[B") (.int 5)) (.int 114)) (by decide +kernel)
  · rcases (show j = 0 ∨ j = 1 ∨ j = 2 ∨ j = 3 by omega) with rfl | rfl | rfl | rfl
    · exact absurd rfl hij
    · exact Or.inl (hs (.not (.eq (.string "DanceCards$Tape" 116) (.string "DanceCards$Tape" 118))) (by decide +kernel))
    · exact Or.inl (hs (.not (.eq (.string "DanceCards$Tape" 116) (.string "DanceCards$Tape" 120))) (by decide +kernel))
    · exact Or.inl (hs (.not (.eq (.string "DanceCards$Tape" 116) (.string "DanceCards$Tape" 122))) (by decide +kernel))
  · rcases (show j = 0 ∨ j = 1 ∨ j = 2 ∨ j = 3 by omega) with rfl | rfl | rfl | rfl
    · exact Or.inr (hs (.not (.eq (.string "DanceCards$Tape" 116) (.string "DanceCards$Tape" 118))) (by decide +kernel))
    · exact absurd rfl hij
    · exact Or.inl (hs (.not (.eq (.string "DanceCards$Tape" 118) (.string "DanceCards$Tape" 120))) (by decide +kernel))
    · exact Or.inl (hs (.not (.eq (.string "DanceCards$Tape" 118) (.string "DanceCards$Tape" 122))) (by decide +kernel))
  · rcases (show j = 0 ∨ j = 1 ∨ j = 2 ∨ j = 3 by omega) with rfl | rfl | rfl | rfl
    · exact Or.inr (hs (.not (.eq (.string "DanceCards$Tape" 116) (.string "DanceCards$Tape" 120))) (by decide +kernel))
    · exact Or.inr (hs (.not (.eq (.string "DanceCards$Tape" 118) (.string "DanceCards$Tape" 120))) (by decide +kernel))
    · exact absurd rfl hij
    · exact Or.inl (hs (.not (.eq (.string "DanceCards$Tape" 120) (.string "DanceCards$Tape" 122))) (by decide +kernel))
  · rcases (show j = 0 ∨ j = 1 ∨ j = 2 ∨ j = 3 by omega) with rfl | rfl | rfl | rfl
    · exact Or.inr (hs (.not (.eq (.string "DanceCards$Tape" 116) (.string "DanceCards$Tape" 122))) (by decide +kernel))
    · exact Or.inr (hs (.not (.eq (.string "DanceCards$Tape" 118) (.string "DanceCards$Tape" 122))) (by decide +kernel))
    · exact Or.inr (hs (.not (.eq (.string "DanceCards$Tape" 120) (.string "DanceCards$Tape" 122))) (by decide +kernel))
    · exact absurd rfl hij
/-! the start: from the law's entry to its loop, over the state that the constructors leave -/
theorem wg_18 : (Jvm.Cond.classLink "DanceCardsLaw" (7 : Nat) "DanceCards") ∈ gws := mem_g (i := 18) (by decide +kernel) (by decide +kernel)
theorem wg_19 : (Jvm.Cond.instantiable "DanceCards" (7 : Nat)) ∈ gws := mem_g (i := 19) (by decide +kernel) (by decide +kernel)
theorem wg_20 : (Jvm.Cond.methodLink "DanceCardsLaw" (9 : Nat) ({ cls := "DanceCards", name := "<init>", desc := "()V" } : Jvm.MethodName)) ∈ gws := mem_g (i := 20) (by decide +kernel) (by decide +kernel)
theorem wg_21 : (Jvm.Cond.instanceMethod ({ cls := "DanceCards", name := "<init>", desc := "()V" } : Jvm.MethodName)) ∈ gws := mem_g (i := 21) (by decide +kernel) (by decide +kernel)
theorem wg_757 : (Jvm.Cond.classLink "DanceCardsLaw" (10 : Nat) "DanceCardsModel") ∈ gws := mem_g (i := 757) (by decide +kernel) (by decide +kernel)
theorem wg_758 : (Jvm.Cond.instantiable "DanceCardsModel" (32 : Nat)) ∈ gws := mem_g (i := 758) (by decide +kernel) (by decide +kernel)
theorem wg_759 : (Jvm.Cond.methodLink "DanceCardsLaw" (12 : Nat) ({ cls := "DanceCardsModel", name := "<init>", desc := "()V" } : Jvm.MethodName)) ∈ gws := mem_g (i := 759) (by decide +kernel) (by decide +kernel)
theorem wg_760 : (Jvm.Cond.instanceMethod ({ cls := "DanceCardsModel", name := "<init>", desc := "()V" } : Jvm.MethodName)) ∈ gws := mem_g (i := 760) (by decide +kernel) (by decide +kernel)
def sInA (q : Nat) : Nat → Int32 := match q with
  | 9 => (flf 4 (-4 : Int32) (fun _ => (0 : Int32)))
  | 12 => (flf 384 (-4 : Int32) (fun _ => (0 : Int32)))
  | 19 => (flf 4 (-4 : Int32) (fun _ => (0 : Int32)))
  | 39 => (upd (upd (upd (upd (fun _ => (0 : Int32)) ((0 : Int32).toNatClampNeg) (-4 : Int32)) ((1 : Int32).toNatClampNeg) (-4 : Int32)) ((2 : Int32).toNatClampNeg) (-4 : Int32)) ((3 : Int32).toNatClampNeg) (-4 : Int32))
  | 46 => (upd (upd (upd (upd (fun _ => (0 : Int32)) ((0 : Int32).toNatClampNeg) (-4 : Int32)) ((1 : Int32).toNatClampNeg) (-4 : Int32)) ((2 : Int32).toNatClampNeg) (-4 : Int32)) ((3 : Int32).toNatClampNeg) (-4 : Int32))
  | _ => (fun _ => (0 : Int32))
def sInit : St := (fun _ => (0 : Int32), sInA)
def adr (q0 q1 : Nat) (u1 u2 : Nat → Nat) (j : Nat) : Nat := if j = 0 then q0 else if j < 30 then u1 (j - 1) else if j = 30 then q1 else u2 (j - 31)
theorem wd_start (D : va_G) (ca : Nat → ClassId) (aK aV aT : Nat → Nat) (q0 q1 : Nat) (u1 u2 : Nat → Nat) : pX7 ca q0 u1 ++ pX8 ca q1 u2 = wd (D, ca, adr q0 q1 u1 u2, aK, aV, aT) sInit := rfl
theorem tyc_of {s : State} {args : Array Value} {ty : FieldType} (h : (Cond.arrayClass ty).before args s = true) (hr : ∀ cA : ClassId, s.vm.findClass ("[" ++ ty.toString) = some cA → va_RA s cA ty) : ∃ cA : ClassId, ArrOfT s cA ty ∧ va_RA s cA ty := by
  obtain ⟨cA, kA, comp, h1, h2, h3⟩ := Cond.arrayClass_spec h
  exact ⟨cA, fun n z => ⟨fun k h => (by cases h), kA, h2, comp, h3⟩, hr cA h1⟩
set_option maxHeartbeats 4000000 in
set_option maxRecDepth 100000 in
theorem start_open {p : Program} {e : Env} {s : State} {m : MethodId} {below : List Frame} {meth : Method} {c : Code} (l : Launch) {b L : Nat} {xs : Nat → Int32} (hw : wL_law xs L sInit True) (C0 : lw_At p s m meth c b L xs) : W p l e room_1 s m #[Value.ref b] below meth c s.heap [] 0 0 (lw_Z below #[Value.ref b] s) (entryFrame m ([Value.ref b] : List Value).toArray 4) := by
  obtain ⟨hx, hb, hr, hml, hown, hts, hX, hbl, hlocks, hgv⟩ := C0
  have hg : ∀ w ∈ gws, w.before #[Value.ref b] s = true := fun w hw => hts w (List.mem_filter.mp hw).1
  have hnw : ∀ w ∈ nws, va_Nw w s := fun w hw => va_Nw.of (nest_tab (List.mem_filter.mp hw).2) (hts w (List.mem_filter.mp hw).1)
  have hs := flat_of_before _ hgv
  obtain ⟨c0, iS0, hKn0⟩ := u_known (C := RX0) (T := TX0) (N := 1) (n := 1) hg in_X0 (hg _ wg_96)
  obtain ⟨c1, iS1, hKn1⟩ := u_known (C := RX1) (T := TX1) (N := 6) (n := 6) hg in_X1 (hg _ wg_162)
  obtain ⟨c2, iS2, hKn2⟩ := u_known (C := RX2) (T := TX2) (N := 6) (n := 6) hg in_X2 (hg _ wg_27)
  obtain ⟨c3, iS3, hKn3⟩ := u_known (C := RX3) (T := TX3) (N := 4) (n := 4) hg in_X3 (hg _ wg_107)
  obtain ⟨c4, iS4, hKn4⟩ := u_known (C := RX4) (T := TX4) (N := 3) (n := 3) hg in_X4 (hg _ wg_127)
  obtain ⟨c5, iS5, hKn5⟩ := u_known (C := RX5) (T := TX5) (N := 9) (n := 9) hg in_X5 (hg _ wg_55)
  obtain ⟨c6, iS6, hKn6⟩ := u_known (C := RX6) (T := TX6) (N := 3) (n := 3) hg in_X6 (hg _ wg_146)
  obtain ⟨c7, iS7, hKn7⟩ := u_known (C := RX7) (T := TX7) (N := 7) (n := 7) hg in_X7 (hg _ wg_19)
  obtain ⟨c8, iS8, hKn8⟩ := u_known (C := RX8) (T := TX8) (N := 32) (n := 32) hg in_X8 (hg _ wg_758)
  obtain ⟨dC, dI, hKc⟩ : ∃ (dC : Nat → ClassId) (dI : Nat → Nat → Nat), ∀ (k : Nat) (q : vw_C), classes[k]? = some q → u_Kn s q.1 q.2.1 q.2.2 (dC k) (dI k) := by
    refine ⟨fun k => if k = 0 then c0 else if k = 1 then c1 else if k = 2 then c2 else if k = 3 then c3 else if k = 4 then c4 else if k = 5 then c5 else if k = 6 then c6 else if k = 7 then c7 else c8, fun k => if k = 0 then iS0 else if k = 1 then iS1 else if k = 2 then iS2 else if k = 3 then iS3 else if k = 4 then iS4 else if k = 5 then iS5 else if k = 6 then iS6 else if k = 7 then iS7 else iS8, ?_⟩
    intro k q hq
    match k, hq with
    | 0, hq => cases hq; exact hKn0
    | 1, hq => cases hq; exact hKn1
    | 2, hq => cases hq; exact hKn2
    | 3, hq => cases hq; exact hKn3
    | 4, hq => cases hq; exact hKn4
    | 5, hq => cases hq; exact hKn5
    | 6, hq => cases hq; exact hKn6
    | 7, hq => cases hq; exact hKn7
    | 8, hq => cases hq; exact hKn8
    | k + 9, hq => simp [classes] at hq
  obtain ⟨a0, hA0, hR0⟩ := tyc_of (ty := .int) (hg _ wg_53) (fun _ h => h)
  obtain ⟨a1, hA1, hR1⟩ := tyc_of (ty := .boolean) (hg _ wg_52) (fun _ h => h)
  obtain ⟨a2, hA2, hR2⟩ := tyc_of (ty := .byte) (hg _ wg_94) (fun _ h => h)
  obtain ⟨ca, e0, e1, e2⟩ : ∃ ca : Nat → ClassId, ca 0 = a0 ∧ ca 1 = a1 ∧ ca 2 = a2 := ⟨fun k => if k = 0 then a0 else if k = 1 then a1 else a2, rfl, rfl, rfl⟩
  have hK : va_K (dC, dI) classes (tyc ca) s := by
    refine ⟨hKc, fun k q hk => ?_⟩
    match k, hk with
    | 0, hk => cases hk; exact ⟨by rw [e0]; exact hA0, by rw [e0]; exact hR0⟩
    | 1, hk => cases hk; exact ⟨by rw [e1]; exact hA1, by rw [e1]; exact hR1⟩
    | 2, hk => cases hk; exact ⟨by rw [e2]; exact hA2, by rw [e2]; exact hR2⟩
    | k + 3, hk => simp at hk
  have hl := lv_entry ([.ref b]) (n := 4) (Nat.le_of_ble_eq_true rfl)
  rw [lg_entry_eq]
  generalize (lg_sl ([.ref b]) ++ List.replicate (4 - (lg_sl ([.ref b])).length) Slot.unset).toArray = ls at hl ⊢
  have B : Bn (p, l, e, room_1, s, m, #[Value.ref b], below, meth, c, (dC, dI), ca, fun q => s.heap.size ≤ q, lw_Z below #[Value.ref b] s) cL_law "DanceCardsLaw" 4 100 600000 7302250 := ⟨hx, hb, hml, hown, hg, hK, hnw, fun _ h => h, ⟨Nat.le_of_ble_eq_true rfl, Nat.le_of_ble_eq_true rfl⟩, Nat.le_refl _, Nat.le_refl _⟩
  have G : GN (p, l, e, room_1, s, m, #[Value.ref b], below, meth, c, (dC, dI), ca, fun q => s.heap.size ≤ q, lw_Z below #[Value.ref b] s) 0 0 0 [(0, .ref b)] [] [] := by
    refine N_new (pc := 0) (cl := 0) (sl := 0) B in_X7 tyX7 tyX7_ok wg_18 wg_19 wg_1 (ci := 7) rfl (fs := [.null, .null, .null, .null, .null, .null, .null]) (by decide +kernel) (Nat.le_of_ble_eq_true rfl) (Nat.le_of_ble_eq_true rfl) dL_law_0 (fun q0 => ?_)
    refine N_dup (pc := 3) B dL_law_3 ?_
    refine N_callP (pc := 4) (cl := 1) (sl := 7) (wr := []) (st := [.ref q0]) B yf_X7_init rfl wg_21 wg_20 (c_X7_init (l := l) (D := (dC, dI)) (ca := ca) q0) dL_law_4 (Nat.le_of_ble_eq_true rfl) (Nat.le_of_ble_eq_true rfl) (Nat.le_of_ble_eq_true rfl) (Nat.le_of_ble_eq_true rfl) (fun u1 => ?_)
    refine N_eq (w' := pX7 ca q0 u1) rfl ?_
    refine N_astore_n (pc := 7) (lv' := [(1, .ref q0), (0, .ref b)]) B dL_law_7 rfl (by decide) rfl ?_
    refine N_new (pc := 8) (cl := 30) (sl := 2227) B in_X8 tyX8 tyX8_ok wg_757 wg_758 wg_10 (ci := 8) rfl (fs := [.int 0, .null, .null, .null, .null, .null, .null, .null, .null, .int 0, .int 0, .null, .null, .int 0, .int 0, .int 0, .int 0, .int 0, .int 0, .null, .null, .null, .null, .null, .null, .null, .null, .null, .int 0, .null, .null, .int 0]) (by decide +kernel) (Nat.le_of_ble_eq_true rfl) (Nat.le_of_ble_eq_true rfl) dL_law_8 (fun q1 => ?_)
    refine N_dup (pc := 11) B dL_law_11 ?_
    refine N_callP (pc := 12) (cl := 31) (sl := 2259) (wr := pX7 ca q0 u1) (st := [.ref q1]) B yf_X8_init rfl wg_760 wg_759 (c_X8_init (l := l) (D := (dC, dI)) (ca := ca) q1) dL_law_12 (Nat.le_of_ble_eq_true rfl) (Nat.le_of_ble_eq_true rfl) (Nat.le_of_ble_eq_true rfl) (Nat.le_of_ble_eq_true rfl) (fun u2 => ?_)
    refine N_astore_n (pc := 15) (lv' := [(2, .ref q1), (1, .ref q0), (0, .ref b)]) B dL_law_15 rfl (by decide) rfl ?_
    intro ls H locs h hP hD hS
    have hnew : ∀ (D : va_G) (aK aV aT : Nat → Nat) (k : Nat), k < nCells → s.heap.size ≤ xa (D, ca, adr q0 q1 u1 u2, aK, aV, aT) k := by
      intro D aK aV aT k hk
      have h1 : ((wd (D, ca, adr q0 q1 u1 u2, aK, aV, aT) sInit).map Prod.fst)[k]? = some (xa (D, ca, adr q0 q1 u1 u2, aK, aV, aT) k) := by
        rw [wd_fst, List.getElem?_map, List.getElem?_range hk]; rfl
      rw [List.getElem?_map] at h1
      cases hq : (wd (D, ca, adr q0 q1 u1 u2, aK, aV, aT) sInit)[k]? with
      | none => rw [hq] at h1; cases h1
      | some q =>
        rw [hq] at h1
        have h2 := hD.2 k q (by rw [wd_start D ca aK aV aT]; exact hq)
        have h3 : q.1 = xa (D, ca, adr q0 q1 u1 u2, aK, aV, aT) k := Option.some.inj h1
        rw [← h3]; exact h2
    have hout : ∀ (D : va_G) (aK aV aT : Nat → Nat) (a : Nat), a < s.heap.size → ¬ AS (D, ca, adr q0 q1 u1 u2, aK, aV, aT) s.heap.size a := by
      intro D aK aV aT a ha h
      rcases h with ⟨k, hk, h⟩ | h
      · have := hnew D aK aV aT k hk
        omega
      · omega
    have hlow : ∀ a : Nat, a < s.heap.size → ¬ (fun q => s.heap.size ≤ q) a := fun a ha h => Nat.not_le.mpr ha h
    obtain ⟨t0, ht0, hT0⟩ := va_Tof (tm := .static "DanceCards$Tape" "LEAST" "[I") (ty := .int) (N := 4) (f := fun j => .int (c_LEAST j)) (by decide) (hs (.arrayOf (.static "DanceCards$Tape" "LEAST" "[I") .int) (by decide +kernel)) (va_eqt (hs (.eq (.length (.static "DanceCards$Tape" "LEAST" "[I")) (.int 4)) (by decide +kernel))) (fun j hj => by
      rcases (show j = 0 ∨ j = 1 ∨ j = 2 ∨ j = 3 by omega) with rfl | rfl | rfl | rfl
      · exact va_eqt (hs (.eq (.elem (.static "DanceCards$Tape" "LEAST" "[I") (.int 0)) (.int 1)) (by decide +kernel))
      · exact va_eqt (hs (.eq (.elem (.static "DanceCards$Tape" "LEAST" "[I") (.int 1)) (.int 0)) (by decide +kernel))
      · exact va_eqt (hs (.eq (.elem (.static "DanceCards$Tape" "LEAST" "[I") (.int 2)) (.int 1)) (by decide +kernel))
      · exact va_eqt (hs (.eq (.elem (.static "DanceCards$Tape" "LEAST" "[I") (.int 3)) (.int 0)) (by decide +kernel))) hlow
    obtain ⟨t1, ht1, hT1⟩ := va_Tof (tm := .static "DanceCards$Tape" "MOST" "[I") (ty := .int) (N := 4) (f := fun j => .int (c_MOST j)) (by decide) (hs (.arrayOf (.static "DanceCards$Tape" "MOST" "[I") .int) (by decide +kernel)) (va_eqt (hs (.eq (.length (.static "DanceCards$Tape" "MOST" "[I")) (.int 4)) (by decide +kernel))) (fun j hj => by
      rcases (show j = 0 ∨ j = 1 ∨ j = 2 ∨ j = 3 by omega) with rfl | rfl | rfl | rfl
      · exact va_eqt (hs (.eq (.elem (.static "DanceCards$Tape" "MOST" "[I") (.int 0)) (.int 24)) (by decide +kernel))
      · exact va_eqt (hs (.eq (.elem (.static "DanceCards$Tape" "MOST" "[I") (.int 1)) (.int 9)) (by decide +kernel))
      · exact va_eqt (hs (.eq (.elem (.static "DanceCards$Tape" "MOST" "[I") (.int 2)) (.int 24)) (by decide +kernel))
      · exact va_eqt (hs (.eq (.elem (.static "DanceCards$Tape" "MOST" "[I") (.int 3)) (.int 23)) (by decide +kernel))) hlow
    obtain ⟨aK, aV, hvk, hev⟩ := start_text hs (A := fun q => s.heap.size ≤ q) hlow
    have hZ0 := va_Zof (A := fun q => s.heap.size ≤ q) (hts (.laysStatic "DanceCards$Tape" "LEAST" "[I") (by decide +kernel)) (hg _ wg_3) ht0 hlow
    have hZ1 := va_Zof (A := fun q => s.heap.size ≤ q) (hts (.laysStatic "DanceCards$Tape" "MOST" "[I") (by decide +kernel)) (hg _ wg_3) ht1 hlow
    have hZc := va_Zof (A := fun q => s.heap.size ≤ q) (hts (.laysStatic "java/lang/String" "COMPACT_STRINGS" "Z") (by decide +kernel)) (hg _ wg_11) (va_eqi (hs (.eq (.static "java/lang/String" "COMPACT_STRINGS" "Z") (.int 1)) (by decide +kernel))) hlow
    have hZf := va_Zqof (A := fun q => s.heap.size ≤ q) (hts (.laysStatic "jdk/internal/util/Preconditions" "SIOOBE_FORMATTER" "Ljava/util/function/BiFunction;") (by decide +kernel)) (hg _ wg_13) (hs (.isRef (.static "jdk/internal/util/Preconditions" "SIOOBE_FORMATTER" "Ljava/util/function/BiFunction;")) (by decide +kernel)) hlow
    have hAS : ∀ q, AS ((dC, dI), ca, adr q0 q1 u1 u2, aK, aV, fun k => if k = 0 then t0 else t1) s.heap.size q → s.heap.size ≤ q := by
      intro q hq
      rcases hq with ⟨k, hk, h⟩ | h
      · rw [h]; exact hnew _ _ _ _ k hk
      · exact h
    have hE : EX ((dC, dI), ca, adr q0 q1 u1 u2, aK, aV, fun k => if k = 0 then t0 else t1) (AS ((dC, dI), ca, adr q0 q1 u1 u2, aK, aV, fun k => if k = 0 then t0 else t1) s.heap.size) s s.heap :=
      ⟨hnw, ⟨hZ0.narrow hAS, hT0.narrow hAS⟩, ⟨hZ1.narrow hAS, hT1.narrow hAS⟩, hZc.narrow hAS, Zq_narrow hZf hAS, fun k hk => start_ref hts k hk (hev k hk), hvk.narrow hAS⟩
    have B2 : Bs (p, l, e, room_1, s, m, #[Value.ref b], below, meth, c, ((dC, dI), ca, adr q0 q1 u1 u2, aK, aV, fun k => if k = 0 then t0 else t1), lw_Z below #[Value.ref b] s, 600000, 7302250) cL_law "DanceCardsLaw" 4 100 := ⟨hx, hb, hml, hown, hg, hK, hE, hlocks, ⟨Nat.le_of_ble_eq_true rfl, Nat.le_of_ble_eq_true rfl⟩, Nat.le_refl _, Nat.le_refl _⟩
    have E2 : LX (p, l, e, room_1, s, m, #[Value.ref b], below, meth, c, ((dC, dI), ca, adr q0 q1 u1 u2, aK, aV, fun k => if k = 0 then t0 else t1), lw_Z below #[Value.ref b] s, 600000, 7302250) b L xs := ⟨hX, hbl, hout _ _ _ _ b hbl, ⟨rfl, rfl, rfl, hr, rfl, rfl⟩, hnew _ _ _ _⟩
    refine W.widen (k := 600000) (n := 7302250) (by decide) (by decide) ?_
    exact rL_law B2 E2 hw ls H locs h (by rw [← wd_start (dC, dI) ca aK aV]; exact hP) (wd_AS (B := fun q => s.heap.size ≤ q) (by rw [← wd_start (dC, dI) ca aK aV]; exact hD)) ⟨hS.1, fun q h1 h2 => hS.2.1 q h1 (fun h3 => h2 (Or.inr h3)), fun l hl => Or.inr (hS.2.2 l hl)⟩
  exact G ls s.heap [] (hml ▸ hl) (fun k q h => by simp at h) ⟨fun i j p q h => by simp at h, fun k q h => by simp at h⟩ va_S.rf
