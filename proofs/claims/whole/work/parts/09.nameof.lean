/-! nameOf: a text constant -/
def Cn (l : Launch) (x : Cx) (i : Int32) (s : St) : Prop := ∀ sz : Nat, Met l yX5_nameOf (.code yX5_nameOf cX5_nameOf 1 (some (.object "java/lang/String")) :: gws) (rmD 0) (PcW x [.int i] s sz) (va_Qr (fun k : Nat => k = nm_of i) (fun k a t => a = xK x k ∧ BW x sz s t) (AS x sz)) 0 0 (AS x sz)
def qfN (x : Cx) (be : List Frame) (ar : Array Value) (s0 : State) (i : Int32) (s : St) : State → Prop := MQ be (va_Qr (fun k : Nat => k = nm_of i) (fun k a t => a = xK x k ∧ BW x s0.heap.size s t) (AS x s0.heap.size)) ar s0 0 0 (AS x s0.heap.size)
def BN (κ : Kt) (i : Int32) (s : St) : Prop := kQ κ = qfN (kx κ) (kbe κ) (kar κ) (ks κ) i s ∧ kcl κ = 0 ∧ ksl κ = 0 ∧ (kme κ).sig.returnType = some (.object "java/lang/String")
theorem R_sret {κ : Kt} {cc : ByteArray} {own : String} {nL d pc j : Nat} {lv : List (Nat × Value)} {s : St} {i : Int32} (B : Bs κ cc own nL d) (E : BN κ i s) (hd : decode cc pc = .ok (.areturn, 1)) (hw : j = nm_of i) : GW κ pc lv [.ref (xK (kx κ) j)] s := by
  intro ls H locs h hP hD hS
  obtain ⟨p, l, e, R, s0, m, ar, be, me, c, x, QF, cl, sl⟩ := κ
  obtain ⟨e1, e2, e3, e4⟩ := E
  dsimp only [kQ, kcl, ksl, kx, kbe, kar, ks, kme] at e1 e2 e3 e4
  subst e1; subst e2; subst e3
  exact W.aret B.1 B.2.1 e4 (Or.inl ⟨_, rfl⟩) (Or.inr ⟨_, rfl⟩) (fun t ht hW => ⟨⟨j, xK x j, rfl, hw, rfl, by rw [ht]; exact hP, va_K.moved hW.alike B.2.2.2.2.2.1, hD⟩, hS.F ht⟩) hS.2.2 hd B.2.2.2.2.2.2.2.1
theorem mX5_nameOf {l : Launch} {x : Cx} (i : Int32) (s : St) : Cn l x i s := by
  intro sz
  refine Met.ofW (cc := cX5_nameOf) (maxL := 1) (ret := some (.object "java/lang/String")) yf_X5_nameOf.2.2.2.2 rfl ?_
  intro p e s0 m args below meth c s₁ B0 hml hv
  obtain ⟨rfl, rfl, hP, hK, hD0, hE⟩ := hv
  have hts := atoms_spec (ws := .code yX5_nameOf cX5_nameOf 1 (some (.object "java/lang/String")) :: gws) B0.pre
  have hl := lv_entry [.int i] (n := 1) (Nat.le_of_ble_eq_true rfl)
  rw [lg_entry_eq]
  generalize (lg_sl [.int i] ++ List.replicate (1 - (lg_sl [.int i]).length) Slot.unset).toArray = ls at hl ⊢
  have B : Bs (p, l, e, rmD 0, s0, m, [Value.int i].toArray, below, meth, c, x, qfN x below [Value.int i].toArray s0 i s, 0, 0) cX5_nameOf "DanceCards$Tape" 1 0 := ⟨B0.exec, B0.bytes, hml, findClass_of_methodNamed B0.named, fun w hw => hts w (List.mem_cons_of_mem _ hw), hK, hE, B0.notSynchronized, ⟨Nat.le_refl 0, Nat.le_refl (60 * 0)⟩, Nat.zero_le _, Nat.zero_le _⟩
  have E : BN (p, l, e, rmD 0, s0, m, [Value.int i].toArray, below, meth, c, x, qfN x below [Value.int i].toArray s0 i s, 0, 0) i s := ⟨rfl, rfl, rfl, B0.returns⟩
  have G : GW (p, l, e, rmD 0, s0, m, [Value.int i].toArray, below, meth, c, x, qfN x below [Value.int i].toArray s0 i s, 0, 0) 0 [(0, .int i)] [] s := by
    refine R_iload_n (pc := 0) B 0 dX5_nameOf_0 rfl rfl ?_
    by_cases h0 : i = 0
    · exact R_tabI (pc := 1) (off := 27) B 28 dX5_nameOf_1 h0 (by decide) (by decide) (by decide) (by decide) (R_sldc (pc := 28) B 0 (by decide) rfl dX5_nameOf_28 (R_sret (pc := 30) B E dX5_nameOf_30 (by unfold nm_of; rw [if_pos h0])))
    by_cases h1 : i = 1
    · exact R_tabI (pc := 1) (off := 30) B 31 dX5_nameOf_1 h1 (by decide) (by decide) (by decide) (by decide) (R_sldc (pc := 31) B 1 (by decide) rfl dX5_nameOf_31 (R_sret (pc := 33) B E dX5_nameOf_33 (by unfold nm_of; rw [if_neg h0, if_pos h1])))
    by_cases h2 : i = 2
    · exact R_tabI (pc := 1) (off := 33) B 34 dX5_nameOf_1 h2 (by decide) (by decide) (by decide) (by decide) (R_sldc (pc := 34) B 2 (by decide) rfl dX5_nameOf_34 (R_sret (pc := 36) B E dX5_nameOf_36 (by unfold nm_of; rw [if_neg h0, if_neg h1, if_pos h2])))
    · have e0 := tO h0 (show (0 : Int32).toInt = 0 from by decide)
      have e1 := tO h1 (show (1 : Int32).toInt = 1 from by decide)
      have e2 := tO h2 (show (2 : Int32).toInt = 2 from by decide)
      exact R_tabO (pc := 1) B 37 dX5_nameOf_1 (by omega) (by decide) (R_sldc (pc := 37) B 3 (by decide) rfl dX5_nameOf_37 (R_sret (pc := 39) B E dX5_nameOf_39 (by unfold nm_of; rw [if_neg h0, if_neg h1, if_neg h2])))
  exact G ls s0.heap [] (hml ▸ hl) hP (wd_AS hD0) va_S.rf
theorem R_cname {κ : Kt} {cc : ByteArray} {own : String} {nL d : Nat} {pc ix : Nat} {lv : List (Nat × Value)} {st : List Value} {s : St} {i : Int32} (B : Bs κ cc own nL d) (hM : Cn (kl κ) (kx κ) i s) (L : Cond.methodLink own ix yX5_nameOf ∈ gws) (hd : decode cc pc = .ok (.invokestatic ix, 3)) (hdd : 0 + 1 ≤ d) (hr : (st.map fun v => v.category).sum ≤ 8) (k : ∀ r : Nat, r = nm_of i → GW κ (pc + 3) lv (.ref (xK (kx κ) r) :: st) s) : GW κ pc lv (.int i :: st) s := by
  intro ls H locs h hP hD hS
  refine va_callr (run_S (lv := lv) (st := st) (Qc := fun sz => va_Qr (fun k : Nat => k = nm_of i) (fun k a t => a = xK (kx κ) k ∧ BW (kx κ) sz s t) (AS (kx κ) sz)) B yf_X5_nameOf wg_300 L hM hd hdd rfl rfl hr ls H locs h hP hD hS) hS (fun q _ h => h.mono hS.1) (fun q h => h.mono hS.1) (fun u a t H1 locs1 ht hvm hw hB hz1 hk1 hS1 => ?_)
  obtain ⟨rfl, hP1, hK1, hD1⟩ := hB
  rw [ht] at hP1
  exact k u hw ls H1 locs1 h hP1 (hD1.weaken (fun _ _ _ h => h.mono hS.1)) hS1
