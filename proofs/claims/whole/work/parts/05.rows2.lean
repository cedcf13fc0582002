/-! rows of calls, of the static arrays and of the text constants -/
section GD
variable {κ : Kt} {cc : ByteArray} {own : String} {nL d : Nat} {pc : Nat} {lv lv' : List (Nat × Value)} {st st0 : List Value} {s : St}
variable {y : MethodName} {by_ : ByteArray} {maxL n d' ix q ci : Nat} {ret : Option FieldType} {As : List Value}
theorem R_cVi (B : Bs κ cc own nL d) {f : Cx → St → List Value} {T : u_T} {N : Nat} {Q : Int32 → St → Prop} (Y : YF y by_ maxL ret n) (I : IF y) (L : Cond.methodLink own ix y ∈ gws) (O : OBd q ci f) (hc : classes[ci]? = some (y.cls, T, N)) (hM : Ct (kl κ) (kx κ) y by_ maxL ret d' (.ref (xa (kx κ) q) :: As) s Q) (hd : decode cc pc = .ok (.invokevirtual ix, 3)) (hdd : d' + 1 ≤ d) (hst : st0 = As.reverse ++ .ref (xa (kx κ) q) :: st) (hn : As.length = n) (hr : (st.map fun v => v.category).sum ≤ 8) (k : ∀ (r : Int32) (s' : St), Q r s' → GW κ (pc + 3) lv (.int r :: st) s') : GW κ pc lv st0 s :=
  R_ci (run_V (Qc := fun sz => va_Qi Q (BW (kx κ) sz) (AS (kx κ) sz)) B Y I L O hc hM hd hdd hst hn hr) k
theorem R_cVv (B : Bs κ cc own nL d) {f : Cx → St → List Value} {T : u_T} {N : Nat} {Q : St → Prop} (Y : YF y by_ maxL none n) (I : IF y) (L : Cond.methodLink own ix y ∈ gws) (O : OBd q ci f) (hc : classes[ci]? = some (y.cls, T, N)) (hM : Cv (kl κ) (kx κ) y by_ maxL d' (.ref (xa (kx κ) q) :: As) s Q) (hd : decode cc pc = .ok (.invokevirtual ix, 3)) (hdd : d' + 1 ≤ d) (hst : st0 = As.reverse ++ .ref (xa (kx κ) q) :: st) (hn : As.length = n) (hr : (st.map fun v => v.category).sum ≤ 8) (k : ∀ (s' : St), Q s' → GW κ (pc + 3) lv st s') : GW κ pc lv st0 s :=
  R_cv (run_V (Qc := fun sz => va_Qv Q (BW (kx κ) sz) (AS (kx κ) sz)) B Y I L O hc hM hd hdd hst hn hr) k
theorem R_cVNi (B : Bs κ cc own nL d) {f : Cx → St → List Value} {T : u_T} {N : Nat} {ho : String} {Q : Int32 → St → Prop} (Y : YF y by_ maxL ret n) (I : IF y) (L : Cond.methodLinkNest own ix y ho ∈ nws) (O : OBd q ci f) (hc : classes[ci]? = some (y.cls, T, N)) (hM : Ct (kl κ) (kx κ) y by_ maxL ret d' (.ref (xa (kx κ) q) :: As) s Q) (hd : decode cc pc = .ok (.invokevirtual ix, 3)) (hdd : d' + 1 ≤ d) (hst : st0 = As.reverse ++ .ref (xa (kx κ) q) :: st) (hn : As.length = n) (hr : (st.map fun v => v.category).sum ≤ 8) (k : ∀ (r : Int32) (s' : St), Q r s' → GW κ (pc + 3) lv (.int r :: st) s') : GW κ pc lv st0 s :=
  R_ci (run_VN (Qc := fun sz => va_Qi Q (BW (kx κ) sz) (AS (kx κ) sz)) B Y I L O hc hM hd hdd hst hn hr) k
theorem R_cVNv (B : Bs κ cc own nL d) {f : Cx → St → List Value} {T : u_T} {N : Nat} {ho : String} {Q : St → Prop} (Y : YF y by_ maxL none n) (I : IF y) (L : Cond.methodLinkNest own ix y ho ∈ nws) (O : OBd q ci f) (hc : classes[ci]? = some (y.cls, T, N)) (hM : Cv (kl κ) (kx κ) y by_ maxL d' (.ref (xa (kx κ) q) :: As) s Q) (hd : decode cc pc = .ok (.invokevirtual ix, 3)) (hdd : d' + 1 ≤ d) (hst : st0 = As.reverse ++ .ref (xa (kx κ) q) :: st) (hn : As.length = n) (hr : (st.map fun v => v.category).sum ≤ 8) (k : ∀ (s' : St), Q s' → GW κ (pc + 3) lv st s') : GW κ pc lv st0 s :=
  R_cv (run_VN (Qc := fun sz => va_Qv Q (BW (kx κ) sz) (AS (kx κ) sz)) B Y I L O hc hM hd hdd hst hn hr) k
theorem R_cSi (B : Bs κ cc own nL d) {Q : Int32 → St → Prop} (Y : YF y by_ maxL ret n) (I : Cond.static y ∈ gws) (L : Cond.methodLink own ix y ∈ gws) (hM : Ct (kl κ) (kx κ) y by_ maxL ret d' As s Q) (hd : decode cc pc = .ok (.invokestatic ix, 3)) (hdd : d' + 1 ≤ d) (hst : st0 = As.reverse ++ st) (hn : As.length = n) (hr : (st.map fun v => v.category).sum ≤ 8) (k : ∀ (r : Int32) (s' : St), Q r s' → GW κ (pc + 3) lv (.int r :: st) s') : GW κ pc lv st0 s :=
  R_ci (run_S (Qc := fun sz => va_Qi Q (BW (kx κ) sz) (AS (kx κ) sz)) B Y I L hM hd hdd hst hn hr) k
theorem R_cSv (B : Bs κ cc own nL d) {Q : St → Prop} (Y : YF y by_ maxL none n) (I : Cond.static y ∈ gws) (L : Cond.methodLink own ix y ∈ gws) (hM : Cv (kl κ) (kx κ) y by_ maxL d' As s Q) (hd : decode cc pc = .ok (.invokestatic ix, 3)) (hdd : d' + 1 ≤ d) (hst : st0 = As.reverse ++ st) (hn : As.length = n) (hr : (st.map fun v => v.category).sum ≤ 8) (k : ∀ (s' : St), Q s' → GW κ (pc + 3) lv st s') : GW κ pc lv st0 s :=
  R_cv (run_S (Qc := fun sz => va_Qv Q (BW (kx κ) sz) (AS (kx κ) sz)) B Y I L hM hd hdd hst hn hr) k
theorem R_cSNi (B : Bs κ cc own nL d) {ho : String} {Q : Int32 → St → Prop} (Y : YF y by_ maxL ret n) (I : Cond.static y ∈ gws) (L : Cond.methodLinkNest own ix y ho ∈ nws) (hM : Ct (kl κ) (kx κ) y by_ maxL ret d' As s Q) (hd : decode cc pc = .ok (.invokestatic ix, 3)) (hdd : d' + 1 ≤ d) (hst : st0 = As.reverse ++ st) (hn : As.length = n) (hr : (st.map fun v => v.category).sum ≤ 8) (k : ∀ (r : Int32) (s' : St), Q r s' → GW κ (pc + 3) lv (.int r :: st) s') : GW κ pc lv st0 s :=
  R_ci (run_SN (Qc := fun sz => va_Qi Q (BW (kx κ) sz) (AS (kx κ) sz)) B Y I L hM hd hdd hst hn hr) k
/-- a call on a text constant -/
theorem R_cStri (B : Bs κ cc own nL d) {j : Nat} {Q : Int32 → St → Prop} (Y : YF y by_ maxL ret n) (I : IF y) (hy : y.cls = "java/lang/String") (L : Cond.methodLink own ix y ∈ gws) (hj : j < 4) (hM : Ct (kl κ) (kx κ) y by_ maxL ret d' (.ref (xK (kx κ) j) :: As) s Q) (hd : decode cc pc = .ok (.invokevirtual ix, 3)) (hdd : d' + 1 ≤ d) (hst : st0 = As.reverse ++ .ref (xK (kx κ) j) :: st) (hn : As.length = n) (hr : (st.map fun v => v.category).sum ≤ 8) (k : ∀ (r : Int32) (s' : St), Q r s' → GW κ (pc + 3) lv (.int r :: st) s') : GW κ pc lv st0 s := by
  refine R_ci (a := (Value.ref (xK (kx κ) j) :: As).toArray) (Q := Q) (st := st) ?_ k
  intro ls H locs h hP hD hS
  refine va_runV (nL := nL) (C := y.cls) ⟨B.1, B.2.1, B.2.2.1, B.2.2.2.1, B.2.2.2.2.1⟩ (hM H.size) ⟨callB_of n B.2.2.2.2.1 (good_ws Y.1) rfl rfl rfl (B.2.2.2.2.1 _ Y.2.1) (B.2.2.2.2.1 _ L) Y.2.2.1 (room_at B hdd Y.2.2.2.1), B.2.2.2.2.1 _ I.1, B.2.2.2.2.1 _ I.2⟩ ⟨PcW.blind, ?_, pre_at B hP hD hS⟩ rfl hn (B.2.2.1 ▸ h.1) hst (lv_room (ls := ls) (m := km κ) (pc := pc) (rest := st0) hr) hd ⟨B.2.2.2.2.2.2.2.2.2.1, B.2.2.2.2.2.2.2.2.2.2⟩
  rw [hy]
  exact vk_recv B.2.2.2.2.2.2.1.2.2.2.2.2.2 hj hS
-- static arrays
theorem R_gets0 (B : Bs κ cc own nL d) {ix : Nat} (L : Cond.fieldLink own ix "DanceCards$Tape" "LEAST" "[I" ∈ gws) (hd : decode cc pc = .ok (.getstatic ix, 3)) (k : GW κ (pc + 3) lv (.ref (xT (kx κ) 0) :: st) s) : GW κ pc lv st s :=
  fun ls H locs h hP hD hS => va_gets B.1 B.2.1 B.2.2.2.2.2.2.1.2.1.1 hS B.2.2.2.1 (B.2.2.2.2.1 _ L) (fun _ h9 => h9) hd (k ls H locs h hP hD hS)
theorem R_gets1 (B : Bs κ cc own nL d) {ix : Nat} (L : Cond.fieldLink own ix "DanceCards$Tape" "MOST" "[I" ∈ gws) (hd : decode cc pc = .ok (.getstatic ix, 3)) (k : GW κ (pc + 3) lv (.ref (xT (kx κ) 1) :: st) s) : GW κ pc lv st s :=
  fun ls H locs h hP hD hS => va_gets B.1 B.2.1 B.2.2.2.2.2.2.1.2.2.1.1 hS B.2.2.2.1 (B.2.2.2.2.1 _ L) (fun _ h9 => h9) hd (k ls H locs h hP hD hS)
theorem R_tld0 {T : Prop} (B : Bs κ cc own nL d) {i : Int32} (hd : decode cc pc = .ok (.iaload, 1)) (hw : vp_in i 4 ∧ T) (k : T → GW κ (pc + 1) lv (.int (c_LEAST i.toNatClampNeg) :: st) s) : GW κ pc lv (.int i :: .ref (xT (kx κ) 0) :: st) s :=
  fun ls H locs h hP hD hS => va_ti B.1 B.2.1 B.2.2.2.2.2.2.1.2.1.2 hS hw.1 rfl hd (k hw.2 ls H locs h hP hD hS)
theorem R_tld1 {T : Prop} (B : Bs κ cc own nL d) {i : Int32} (hd : decode cc pc = .ok (.iaload, 1)) (hw : vp_in i 4 ∧ T) (k : T → GW κ (pc + 1) lv (.int (c_MOST i.toNatClampNeg) :: st) s) : GW κ pc lv (.int i :: .ref (xT (kx κ) 1) :: st) s :=
  fun ls H locs h hP hD hS => va_ti B.1 B.2.1 B.2.2.2.2.2.2.1.2.2.1.2 hS hw.1 rfl hd (k hw.2 ls H locs h hP hD hS)
theorem R_getsCS (B : Bs κ cc own nL d) {ix : Nat} (L : Cond.fieldLink own ix "java/lang/String" "COMPACT_STRINGS" "Z" ∈ gws) (hd : decode cc pc = .ok (.getstatic ix, 3)) (k : GW κ (pc + 3) lv (.int 1 :: st) s) : GW κ pc lv st s :=
  fun ls H locs h hP hD hS => va_gets B.1 B.2.1 B.2.2.2.2.2.2.1.2.2.2.1 hS B.2.2.2.1 (B.2.2.2.2.1 _ L) (fun _ h9 => h9) hd (k ls H locs h hP hD hS)
theorem R_getsSF (B : Bs κ cc own nL d) {ix : Nat} (L : Cond.fieldLink own ix "jdk/internal/util/Preconditions" "SIOOBE_FORMATTER" "Ljava/util/function/BiFunction;" ∈ gws) (hd : decode cc pc = .ok (.getstatic ix, 3)) (k0 : GW κ (pc + 3) lv (.null :: st) s) (k1 : ∀ t : Nat, GW κ (pc + 3) lv (.ref t :: st) s) : GW κ pc lv st s :=
  fun ls H locs h hP hD hS => B.2.2.2.2.2.2.1.2.2.2.2.1.elim (fun hZ => va_gets B.1 B.2.1 hZ hS B.2.2.2.1 (B.2.2.2.2.1 _ L) (fun _ h9 => h9) hd (k0 ls H locs h hP hD hS)) (fun ⟨t, hZ⟩ => va_gets B.1 B.2.1 hZ hS B.2.2.2.1 (B.2.2.2.2.1 _ L) (fun _ h9 => h9) hd (k1 t ls H locs h hP hD hS))
-- text constants
theorem R_sval {T : Prop} (B : Bs κ cc own nL d) {ix j : Nat} (L : Cond.fieldLink own ix "java/lang/String" "value" "[B" ∈ gws) (hd : decode cc pc = .ok (.getfield ix, 3)) (hw : j < 4 ∧ T) (k : T → GW κ (pc + 3) lv (.ref (xV (kx κ) j) :: st) s) : GW κ pc lv (.ref (xK (kx κ) j) :: st) s :=
  fun ls H locs h hP hD hS => vk_getf B.1 B.2.1 (B.2.2.2.2.2.2.1.2.2.2.2.2.2.1 j hw.1).2.2.1 hS B.2.2.2.1 (B.2.2.2.2.1 _ L) (fun _ h9 => h9) hd (k hw.2 ls H locs h hP hD hS)
theorem R_scod {T : Prop} (B : Bs κ cc own nL d) {ix j : Nat} (L : Cond.fieldLink own ix "java/lang/String" "coder" "B" ∈ gws) (hd : decode cc pc = .ok (.getfield ix, 3)) (hw : j < 4 ∧ T) (k : T → GW κ (pc + 3) lv (.int 0 :: st) s) : GW κ pc lv (.ref (xK (kx κ) j) :: st) s :=
  fun ls H locs h hP hD hS => vk_getf B.1 B.2.1 (B.2.2.2.2.2.2.1.2.2.2.2.2.2.1 j hw.1).2.1 hS B.2.2.2.1 (B.2.2.2.2.1 _ L) (fun _ h9 => h9) hd (k hw.2 ls H locs h hP hD hS)
theorem R_svlen {T : Prop} (B : Bs κ cc own nL d) {j : Nat} (hd : decode cc pc = .ok (.arraylength, 1)) (hw : j < 4 ∧ T) (k : T → GW κ (pc + 1) lv (.int (Int32.ofNat (s_len.getD j 0)) :: st) s) : GW κ pc lv (.ref (xV (kx κ) j) :: st) s :=
  fun ls H locs h hP hD hS => va_tlen B.1 B.2.1 (B.2.2.2.2.2.2.1.2.2.2.2.2.2.1 j hw.1).2.2.2 hS rfl hd (k hw.2 ls H locs h hP hD hS)
theorem R_svld {T : Prop} (B : Bs κ cc own nL d) {j : Nat} {i : Int32} (hd : decode cc pc = .ok (.baload, 1)) (hw : j < 4 ∧ vp_in i (s_len.getD j 0) ∧ T) (k : T → GW κ (pc + 1) lv (.int ((s_byt.getD j []).getD i.toNatClampNeg 0) :: st) s) : GW κ pc lv (.int i :: .ref (xV (kx κ) j) :: st) s :=
  fun ls H locs h hP hD hS => va_tb B.1 B.2.1 (B.2.2.2.2.2.2.1.2.2.2.2.2.2.1 j hw.1).2.2.2 hS hw.2.1 rfl hd (k hw.2.2 ls H locs h hP hD hS)
theorem R_sldc (B : Bs κ cc "DanceCards$Tape" nL d) {ix : Nat} (j : Nat) (hj : j < 4) (hix : s_ix j = ix) (hd : decode cc pc = .ok (.ldc ix, 2)) (k : GW κ (pc + 2) lv (.ref (xK (kx κ) j) :: st) s) : GW κ pc lv st s := by
  subst hix
  exact fun ls H locs h hP hD hS => va_ldcS B.1 B.2.1 B.2.2.2.1 (B.2.2.2.2.2.2.1.2.2.2.2.2.1 j hj) hd (k ls H locs h hP hD hS)
-- arraycopy of the four customs
def cp4 (s : St) (q0 q1 : Nat) : St := stC s q1 (va_cpy (s.2 q0) (s.2 q1) 0 0 4)
theorem R_acopy (B : Bs κ cc own nL d) {q0 q1 ix : Nat} (A0 : AWd q0 0 4) (A1 : AWd q1 0 4) (L : Cond.methodLink own ix arraycopyName ∈ gws) (Wn : Cond.native arraycopyName ∈ gws) (Ws : Cond.static arraycopyName ∈ gws) (Wi : Cond.initialized "java/lang/System" ∈ gws) (hroom : 1 ≤ d) (hr : (st.map fun v => v.category).sum ≤ 8) (hd : decode cc pc = .ok (.invokestatic ix, 3)) (k : GW κ (pc + 3) lv st (cp4 s q0 q1)) : GW κ pc lv (.int 4 :: .int 0 :: .ref (xa (kx κ) q1) :: .int 0 :: .ref (xa (kx κ) q0) :: st) s := by
  intro ls H locs h hP hD hS
  obtain ⟨ra, rb⟩ := B.2.2.2.2.2.2.2.2.1
  refine va_copyi B.1 B.2.1 h.1.symm B.2.2.2.1 (B.2.2.2.2.1 _ L) (B.2.2.2.2.1 _ Wn) (B.2.2.2.2.1 _ Ws) (B.2.2.2.2.1 _ Wi) B.2.2.2.2.2.1 hP hD hS q0 q1 0 0 (A0.1 _ _) (A1.1 _ _) rfl rfl rfl (by decide) (by decide) (by decide) (by decide) (by decide) (fun i _ => rfl) (by omega) (Nat.le_trans (Nat.add_le_add_right hr _) (Nat.le_trans ?_ rb)) hd ?_
  · refine Nat.le_trans (show 8 + (nativeFrameWords "java/lang/System" "arraycopy" 5 + 11) ≤ 60 * 1 from by decide) (Nat.mul_le_mul_left 60 hroom)
  · intro H1 locs1 hP hD hS
    have e : (0 : Int32).toNatClampNeg = 0 := by decide
    have e4 : (4 : Int32).toNatClampNeg = 4 := by decide
    rw [e, e4, A1.2] at hP hD
    exact k ls H1 locs1 h hP hD hS
end GD
theorem tO {u v : Int32} {n : Int} (h : ¬ u = v) (hv : v.toInt = n) : u.toInt ≠ n := fun e => h (Int32.toInt_inj.mp (e.trans hv.symm))
/-- nameOf: a text constant by its place -/
def nm_of (i : Int32) : Nat := if i = 0 then 0 else if i = 1 then 1 else if i = 2 then 2 else 3
section GM
variable {κ : Kt} {cc : ByteArray} {own : String} {nL d : Nat} {pc : Nat} {lv : List (Nat × Value)} {st : List Value} {s : St}
theorem R_mmax (B : Bs κ cc own nL d) {ix : Nat} {u v : Int32} (L : Cond.methodLink own ix Lib.Math.max.name ∈ gws) (Ws : Cond.static Lib.Math.max.name ∈ gws) (Wi : Cond.initialized "java/lang/Math" ∈ gws) (Wc : Cond.code Lib.Math.max.name Lib.Math.max.code 2 (some .int) ∈ gws) (hroom : 1 ≤ d) (hr : (st.map fun v => v.category).sum ≤ 8) (hd : decode cc pc = .ok (.invokestatic ix, 3)) (k : GW κ (pc + 3) lv (.int (if u < v then v else u) :: st) s) : GW κ pc lv (.int v :: .int u :: st) s := fun ls H locs h hP hD hS => by
  obtain ⟨ra, rb⟩ := B.2.2.2.2.2.2.2.2.1
  exact va_mmax B.1 B.2.1 h.1.symm B.2.2.2.1 (B.2.2.2.2.1 _ L) (B.2.2.2.2.1 _ Ws) (B.2.2.2.2.1 _ Wi) (B.2.2.2.2.1 _ Wc) (by omega) (by omega) B.2.2.2.2.2.2.2.2.2.1 B.2.2.2.2.2.2.2.2.2.2 hd (k ls H locs h hP hD hS)
theorem R_mabs (B : Bs κ cc own nL d) {ix : Nat} {u : Int32} (L : Cond.methodLink own ix Lib.Math.abs.name ∈ gws) (Ws : Cond.static Lib.Math.abs.name ∈ gws) (Wi : Cond.initialized "java/lang/Math" ∈ gws) (Wc : Cond.code Lib.Math.abs.name Lib.Math.abs.code 1 (some .int) ∈ gws) (hroom : 1 ≤ d) (hr : (st.map fun v => v.category).sum ≤ 8) (hd : decode cc pc = .ok (.invokestatic ix, 3)) (k : GW κ (pc + 3) lv (.int (if 0 ≤ u then u else 0 - u) :: st) s) : GW κ pc lv (.int u :: st) s := fun ls H locs h hP hD hS => by
  obtain ⟨ra, rb⟩ := B.2.2.2.2.2.2.2.2.1
  exact va_mabs B.1 B.2.1 h.1.symm B.2.2.2.1 (B.2.2.2.2.1 _ L) (B.2.2.2.2.1 _ Ws) (B.2.2.2.2.1 _ Wi) (B.2.2.2.2.1 _ Wc) (by omega) (by omega) B.2.2.2.2.2.2.2.2.2.1 B.2.2.2.2.2.2.2.2.2.2 hd (k ls H locs h hP hD hS)
end GM
