/-! the constructors: worlds that grow -/
abbrev tyc (ca : Nat → ClassId) : List (ClassId × FieldType) := [(ca 0, .int), (ca 1, .boolean), (ca 2, .byte)]
abbrev Kn : Type := Program × Launch × Env × Room × State × MethodId × Array Value × List Frame × Method × Code × va_G × (Nat → ClassId) × (Nat → Prop) × (State → Prop)
abbrev np (κ : Kn) : Program := κ.1
abbrev nl (κ : Kn) : Launch := κ.2.1
abbrev ne (κ : Kn) : Env := κ.2.2.1
abbrev nR (κ : Kn) : Room := κ.2.2.2.1
abbrev ns (κ : Kn) : State := κ.2.2.2.2.1
abbrev nm (κ : Kn) : MethodId := κ.2.2.2.2.2.1
abbrev nar (κ : Kn) : Array Value := κ.2.2.2.2.2.2.1
abbrev nbe (κ : Kn) : List Frame := κ.2.2.2.2.2.2.2.1
abbrev nme (κ : Kn) : Method := κ.2.2.2.2.2.2.2.2.1
abbrev nc (κ : Kn) : Code := κ.2.2.2.2.2.2.2.2.2.1
abbrev nD (κ : Kn) : va_G := κ.2.2.2.2.2.2.2.2.2.2.1
abbrev nca (κ : Kn) : Nat → ClassId := κ.2.2.2.2.2.2.2.2.2.2.2.1
abbrev nA (κ : Kn) : Nat → Prop := κ.2.2.2.2.2.2.2.2.2.2.2.2.1
abbrev nQ (κ : Kn) : State → Prop := κ.2.2.2.2.2.2.2.2.2.2.2.2.2
def GN (κ : Kn) (cl sl pc : Nat) (lv : List (Nat × Value)) (st : List Value) (w : va_W) : Prop := ∀ (ls : Array Slot) (H : Heap) (locs : List Loc), lv_has ls (nc κ).maxLocals lv → va_P (nD κ) classes w H → va_D (nA κ) w → va_S (nA κ) (ns κ).heap H locs →
  W (np κ) (nl κ) (ne κ) (nR κ) (ns κ) (nm κ) (nar κ) (nbe κ) (nme κ) (nc κ) H locs cl sl (nQ κ) (F0 (nm κ) pc ls st)
def Bn (κ : Kn) (cc : ByteArray) (own : String) (nL d mc ms : Nat) : Prop :=
  (np κ).tables.exec = Jvm.exec ∧ (nc κ).code = cc ∧ (nc κ).maxLocals = nL ∧ (ns κ).vm.findClass own = some (nm κ).cls ∧ (∀ w ∈ gws, w.before (nar κ) (ns κ) = true) ∧ va_K (nD κ) classes (tyc (nca κ)) (ns κ) ∧ (∀ w ∈ nws, va_Nw w (ns κ)) ∧ (∀ q, (ns κ).heap.size ≤ q → nA κ q) ∧ (d ≤ (nR κ).frames ∧ 60 * d ≤ (nR κ).locals) ∧ mc ≤ (nR κ).cells ∧ ms ≤ (nR κ).slots
section GN1
variable {κ : Kn} {cc : ByteArray} {own : String} {nL d mc ms : Nat} {cl sl pc : Nat} {lv lv' : List (Nat × Value)} {st : List Value} {w w' : va_W}
theorem N_eq (e : w = w') (k : GN κ cl sl pc lv st w') : GN κ cl sl pc lv st w := e ▸ k
theorem N_cs {cl' sl' : Nat} (e : cl = cl') (e2 : sl = sl') (k : GN κ cl' sl' pc lv st w) : GN κ cl sl pc lv st w := e ▸ e2 ▸ k
theorem N_aload_n (B : Bn κ cc own nL d mc ms) {j : Fin 4} (a : Nat) {i v : Nat} (hd : decode cc pc = .ok (.aload_n j, 1)) (hj : (j : Nat) = i) (hk : lv[a]? = some (i, .ref v)) (k : GN κ cl sl (pc + 1) lv (.ref v :: st) w) : GN κ cl sl pc lv st w := fun ls H locs h hP hD hS => lv_aload_n B.1 B.2.1 hd hj (lv_at h a hk) (k ls H locs h hP hD hS)
theorem N_iload_n (B : Bn κ cc own nL d mc ms) {j : Fin 4} (a : Nat) {i : Nat} {v : Int32} (hd : decode cc pc = .ok (.iload_n j, 1)) (hj : (j : Nat) = i) (hk : lv[a]? = some (i, .int v)) (k : GN κ cl sl (pc + 1) lv (.int v :: st) w) : GN κ cl sl pc lv st w := fun ls H locs h hP hD hS => lv_iload_n B.1 B.2.1 hd hj (lv_at h a hk) (k ls H locs h hP hD hS)
theorem N_istore_n (B : Bn κ cc own nL d mc ms) {j : Fin 4} {i : Nat} {v : Int32} (hd : decode cc pc = .ok (.istore_n j, 1)) (hj : (j : Nat) = i) (hn : i < nL) (hl : (i, Value.int v) :: lv.filter (fun q => !(q.1 == i) && !(q.1 + 1 == i && q.2.category == 2)) = lv') (k : GN κ cl sl (pc + 1) lv' st w) : GN κ cl sl pc lv (.int v :: st) w := fun ls H locs h hP hD hS => lv_istore_n B.1 B.2.1 hd hj h (B.2.2.1.symm ▸ hn) hl (fun ls h => k ls H locs h hP hD hS)
theorem N_astore_n (B : Bn κ cc own nL d mc ms) {j : Fin 4} {i v : Nat} (hd : decode cc pc = .ok (.astore_n j, 1)) (hj : (j : Nat) = i) (hn : i < nL) (hl : (i, Value.ref v) :: lv.filter (fun q => !(q.1 == i) && !(q.1 + 1 == i && q.2.category == 2)) = lv') (k : GN κ cl sl (pc + 1) lv' st w) : GN κ cl sl pc lv (.ref v :: st) w := fun ls H locs h hP hD hS => lv_astore_n B.1 B.2.1 hd hj h (B.2.2.1.symm ▸ hn) hl (fun ls h => k ls H locs h hP hD hS)
theorem N_iinc (B : Bn κ cc own nL d mc ms) (a : Nat) {i : Nat} {n : Int} {u v : Int32} (hd : decode cc pc = .ok (.iinc i n, 3)) (hk : lv[a]? = some (i, .int u)) (hv : u + Int32.ofInt n = v) (hn : i < nL) (hl : (i, Value.int v) :: lv.filter (fun q => !(q.1 == i) && !(q.1 + 1 == i && q.2.category == 2)) = lv') (k : GN κ cl sl (pc + 3) lv' st w) : GN κ cl sl pc lv st w := fun ls H locs h hP hD hS => lv_iinc B.1 B.2.1 hd h hk hv (B.2.2.1.symm ▸ hn) hl (fun ls h => k ls H locs h hP hD hS)
theorem N_iconst (B : Bn κ cc own nL d mc ms) {n : Int} {v : Int32} (hd : decode cc pc = .ok (.iconst n, 1)) (hv : Int32.ofInt n = v) (k : GN κ cl sl (pc + 1) lv (.int v :: st) w) : GN κ cl sl pc lv st w := fun ls H locs h hP hD hS => lv_iconst B.1 B.2.1 hd hv (k ls H locs h hP hD hS)
theorem N_bipush (B : Bn κ cc own nL d mc ms) {n : Int} {v : Int32} (hd : decode cc pc = .ok (.bipush n, 2)) (hv : (Int8.ofInt n).toInt32 = v) (k : GN κ cl sl (pc + 2) lv (.int v :: st) w) : GN κ cl sl pc lv st w := fun ls H locs h hP hD hS => lv_bipush B.1 B.2.1 hd hv (k ls H locs h hP hD hS)
theorem N_sipush (B : Bn κ cc own nL d mc ms) {n : Int} {v : Int32} (hd : decode cc pc = .ok (.sipush n, 3)) (hv : (Int16.ofInt n).toInt32 = v) (k : GN κ cl sl (pc + 3) lv (.int v :: st) w) : GN κ cl sl pc lv st w := fun ls H locs h hP hD hS => lv_sipush B.1 B.2.1 hd hv (k ls H locs h hP hD hS)
theorem N_dup (B : Bn κ cc own nL d mc ms) {u : Nat} (hd : decode cc pc = .ok (.dup, 1)) (k : GN κ cl sl (pc + 1) lv (.ref u :: .ref u :: st) w) : GN κ cl sl pc lv (.ref u :: st) w := fun ls H locs h hP hD hS => lv_dup B.1 B.2.1 hd rfl (k ls H locs h hP hD hS)
theorem N_goto (B : Bn κ cc own nL d mc ms) {off : Int} (tgt : Nat) (hd : decode cc pc = .ok (.goto off, 3)) (ht : (pc : Int) + off = (tgt : Int)) (k : GN κ cl sl tgt lv st w) : GN κ cl sl pc lv st w := fun ls H locs h hP hD hS => lv_goto B.1 B.2.1 hd ht (k ls H locs h hP hD hS)
theorem N_icmp_ge (B : Bn κ cc own nL d mc ms) {u v : Int32} {off : Int} (tgt : Nat) (hd : decode cc pc = .ok (.if_icmp .ge off, 3)) (ht : (pc : Int) + off = (tgt : Int)) (k1 : v ≤ u → GN κ cl sl tgt lv st w) (k2 : ¬ v ≤ u → GN κ cl sl (pc + 3) lv st w) : GN κ cl sl pc lv (.int v :: .int u :: st) w := fun ls H locs h hP hD hS => lv_icmp_ge B.1 B.2.1 hd ht (fun hc => k1 hc ls H locs h hP hD hS) (fun hc => k2 hc ls H locs h hP hD hS)
theorem N_obj (B : Bn κ cc own nL d mc ms) {q ix : Nat} (L : Cond.methodLink own ix objectInit ∈ gws) (L2 : Cond.instanceMethod objectInit ∈ gws) (L3 : Cond.code objectInit ⟨#[0xb1]⟩ 1 none ∈ gws) (hst : st = []) (h1 : 1 ≤ d) (hd : decode cc pc = .ok (.invokespecial ix, 3)) (k : GN κ cl sl (pc + 3) lv st w) : GN κ cl sl pc lv (.ref q :: st) w := by
  subst hst
  intro ls H locs h hP hD hS
  obtain ⟨ra, rb⟩ := B.2.2.2.2.2.2.2.2.1
  exact W.objInit B.1 B.2.1 B.2.2.2.1 (B.2.2.2.2.1 _ L) (B.2.2.2.2.1 _ L2) (B.2.2.2.2.1 _ L3) rfl h.1 rfl hd (by omega) (by show 12 ≤ _; omega) (W.eq (g2 := F0 (nm κ) (pc + 3) ls []) rfl (k ls H locs h hP hD hS))
theorem N_newa (B : Bn κ cc own nL d mc ms) (t : Nat) {at_ : ArrayType} {ty : FieldType} {n : Int32} {N : Nat} (L : Cond.arrayClass (newarray.typeOf at_) ∈ gws) (hty : newarray.typeOf at_ = ty) (ht : ∀ ca : Nat → ClassId, (tyc ca)[t]? = some (ca t, ty)) (hra : ∀ (U : State) (cA : ClassId), va_RA U cA ty → U.vm.findClass ("[" ++ ty.toString) = some cA) (ha : ∀ cA : ClassId, vp_cell cA (N, .inl (fun _ => (0 : Int32))) = arrV cA N (fun _ => defaultValue ty)) (hn : ¬ n < 0) (hN : n.toNatClampNeg = N) (hb : N * componentBytes ty ≤ 536870912) (hc : cl + 1 ≤ mc) (hs : sl + N ≤ ms) (hd : decode cc pc = .ok (.newarray at_, 2)) (k : ∀ q : Nat, GN κ (cl + 1) (sl + N) (pc + 2) lv (.ref q :: st) (w ++ [(q, .inl (nca κ t, N, .inl (fun _ => (0 : Int32))))])) : GN κ cl sl pc lv (.int n :: st) w := by
  intro ls H locs h hP hD hS
  refine va_newa (a0 := (N, .inl (fun _ => (0 : Int32)))) B.1 B.2.1 (B.2.2.2.2.1 _ L) hty B.2.2.2.2.2.1 hP hD hS B.2.2.2.2.2.2.2.1 ha hn hN hb (Nat.le_trans hc B.2.2.2.2.2.2.2.2.2.1) (Nat.le_trans hs B.2.2.2.2.2.2.2.2.2.2) hd (fun q cA H1 hK hP hD hS => ?_)
  have e1 := hra _ _ (hK.2 3 (cA, ty) rfl).2
  have e2 := hra _ _ (B.2.2.2.2.2.1.2 t _ (ht _)).2
  have e3 : nca κ t = cA := Option.some.inj (e2.symm.trans e1)
  subst e3
  exact k q ls H1 locs h hP hD hS
theorem N_putF (B : Bn κ cc own nL d mc ms) {ix ci sl1 N v a : Nat} (p : Nat) {C : String} {T : u_T} {ty0 : Nat → FieldType} {ty : FieldType} {fs : List Value} (L : FL own ix ci C T N sl1) (hin : (nme κ).name = "<init>") (hty : ∀ k, k < N → parseFieldDescriptor (T k).2.2.1 = some (ty0 k)) (hnm : ∀ a, a < N → ∀ b, b < N → a ≠ b → (T a).2.1 ≠ (T b).2.1) (hfin : (T sl1).2.2.2 = true) (hdc : (T sl1).1 = own) (hpt : parseFieldDescriptor (T sl1).2.2.1 = some ty) (hnr : narrow ty (.ref v) = .ref v) (hft : fits ty (.ref v) = true) (hl : sl1 < fs.length) (he : w[p]? = some (a, .inr (ci, fs))) (hd : decode cc pc = .ok (.putfield ix, 3)) (k : GN κ cl sl (pc + 3) lv st (w.set p (a, .inr (ci, fs.set sl1 (.ref v))))) : GN κ cl sl pc lv (.ref v :: .ref a :: st) w := fun ls H locs h hP hD hS =>
  va_putF B.1 B.2.1 B.2.2.2.2.1 L.1 ty0 hty hnm B.2.2.2.1 B.2.2.2.2.2.1 hP hD hS p he L.2.1 sl1 L.2.2.1 (B.2.2.2.2.1 _ L.2.2.2) (fun _ h9 => h9) hfin hin hdc hpt hnr hft hl hd (fun H1 locs1 hP hD hS => k ls H1 locs1 h hP hD hS)
theorem N_getR (B : Bn κ cc own nL d mc ms) {ix ci sl1 N v a : Nat} (p : Nat) {C : String} {T : u_T} {fs : List Value} (L : FL own ix ci C T N sl1) (he : w[p]? = some (a, .inr (ci, fs))) (hv : fs[sl1]? = some (.ref v)) (hd : decode cc pc = .ok (.getfield ix, 3)) (k : GN κ cl sl (pc + 3) lv (.ref v :: st) w) : GN κ cl sl pc lv (.ref a :: st) w := fun ls H locs h hP hD hS =>
  va_get B.1 B.2.1 B.2.2.2.2.1 L.1 B.2.2.2.1 B.2.2.2.2.2.1 hP p he L.2.1 sl1 L.2.2.1 (B.2.2.2.2.1 _ L.2.2.2) (fun _ h9 => h9) hv hd (k ls H locs h hP hD hS)
theorem N_iast (B : Bn κ cc own nL d mc ms) {a n : Nat} {f : Nat → Int32} {i v : Int32} (p : Nat) (he : w[p]? = some (a, .inl (nca κ 0, n, .inl f))) (hi : vp_in i n) (hd : decode cc pc = .ok (.iastore, 1)) (k : GN κ cl sl (pc + 1) lv st (w.set p (a, .inl (nca κ 0, n, .inl (upd f i.toNatClampNeg v))))) : GN κ cl sl pc lv (.int v :: .int i :: .ref a :: st) w := fun ls H locs h hP hD hS =>
  va_iast B.1 B.2.1 B.2.2.2.2.2.1 hP hD hS p 0 he rfl hi hd (fun H1 locs1 hP hD hS => k ls H1 locs1 h hP hD hS)
theorem N_alen (B : Bn κ cc own nL d mc ms) {a n : Nat} {f : Nat → Int32} (p : Nat) (he : w[p]? = some (a, .inl (nca κ 0, n, .inl f))) (hd : decode cc pc = .ok (.arraylength, 1)) (k : GN κ cl sl (pc + 1) lv (.int (nI n) :: st) w) : GN κ cl sl pc lv (.ref a :: st) w := fun ls H locs h hP hD hS =>
  va_alen B.1 B.2.1 B.2.2.2.2.2.1 hP p 0 he rfl rfl hd (k ls H locs h hP hD hS)
theorem N_new (B : Bn κ cc own nL d mc ms) {C : String} {T : u_T} {N ci ix : Nat} (hin : ∀ x ∈ u_ws C T N, x ∈ gws) (ty : Nat → FieldType) (hty : ∀ k, k < N → parseFieldDescriptor (T k).2.2.1 = some (ty k)) (L : Cond.classLink own ix C ∈ gws) (L2 : Cond.instantiable C N ∈ gws) (L3 : Cond.initialized C ∈ gws) (hc : classes[ci]? = some (C, T, N)) {fs : List Value} (hfs : ∀ j, j < N → defaultValue (ty j) = vp_V fs j) (hcc : cl + 1 ≤ mc) (hss : sl + N ≤ ms) (hd : decode cc pc = .ok (.new ix, 3)) (k : ∀ q : Nat, GN κ (cl + 1) (sl + N) (pc + 3) lv (.ref q :: st) (w ++ [(q, .inr (ci, fs))])) : GN κ cl sl pc lv st w := fun ls H locs h hP hD hS =>
  va_new B.1 B.2.1 B.2.2.2.2.1 hin ty hty B.2.2.2.1 (B.2.2.2.2.1 _ L) (B.2.2.2.2.1 _ L2) (B.2.2.2.2.1 _ L3) B.2.2.2.2.2.1 hP hD hS B.2.2.2.2.2.2.2.1 hc hfs (Nat.le_trans hcc B.2.2.2.2.2.2.2.2.2.1) (Nat.le_trans hss B.2.2.2.2.2.2.2.2.2.2) hd (fun q H1 hP hD hS => k q ls H1 locs h hP hD hS)
end GN1
def rmN (d mc ms : Nat) : Room := { frames := d, cells := mc, slots := ms, locals := 60 * d }
def PcC (D : va_G) (ca : Nat → ClassId) (As : List Value) (w : va_W) (sz : Nat) : Array Value → State → Prop := va_Pc As (fun U => U.heap.size = sz ∧ va_P D classes w U.heap ∧ va_K D classes (tyc ca) U ∧ va_D (fun _ => True) w ∧ ∀ v ∈ nws, va_Nw v U)
def BC (D : va_G) (ca : Nat → ClassId) (A : Nat → Prop) (w : va_W) (t : State) : Prop := va_P D classes w t.heap ∧ va_K D classes (tyc ca) t ∧ va_D A w
theorem PcC.blind {D : va_G} {ca : Nat → ClassId} {As : List Value} {w : va_W} {sz : Nat} : FrameBlind (PcC D ca As w sz) := by
  intro a U g mk q
  obtain ⟨q0, q1, q2, q3, q4, q5⟩ := q
  exact ⟨q0, q1, q2, va_K.moved (u := U) (U := U.calling g mk a) (Vm.Alike.refl U.vm) q3, q4, fun v hv => va_Nw.same (u := U) (U := U.calling g mk a) (nest_tab (List.mem_filter.mp hv).2) rfl (q5 v hv)⟩
/-- a constructor's contract: its own cell alone, then its cell and what it has made -/
def Cc (l : Launch) (D : va_G) (ca : Nat → ClassId) (y : MethodName) (by_ : ByteArray) (maxL d mc ms h0 ci : Nat) (fs : List Value) (post : Nat → (Nat → Nat) → va_W) : Prop := ∀ sz : Nat, Met l y (.code y by_ maxL none :: gws) (rmN d mc ms) (PcC D ca [.ref h0] [(h0, .inr (ci, fs))] sz) (va_Qv (fun _ : Nat → Nat => True) (fun u => BC D ca (va_A [(h0, .inr (ci, fs))] sz) (post h0 u)) (va_A [(h0, .inr (ci, fs))] sz)) mc ms (va_A [(h0, .inr (ci, fs))] sz)
theorem Cc.of {l : Launch} {D : va_G} {ca : Nat → ClassId} {y : MethodName} {by_ : ByteArray} {maxL d mc ms h0 ci n : Nat} {fs : List Value} {post : Nat → (Nat → Nat) → va_W} (Y : YF y by_ maxL none n) (hy : y.name = "<init>") (hL : 1 ≤ maxL)
    (h : ∀ κ : Kn, Bn κ by_ y.cls maxL d mc ms → (nme κ).name = "<init>" → nD κ = D → nca κ = ca → nl κ = l → (∀ (u : Nat → Nat) (pc : Nat) (lv : List (Nat × Value)), decode by_ pc = .ok (.return_, 1) → GN κ mc ms pc lv [] (post h0 u)) → GN κ 0 0 0 [(0, .ref h0)] [] [(h0, .inr (ci, fs))]) : Cc l D ca y by_ maxL d mc ms h0 ci fs post := by
  intro sz
  refine Met.ofW (cc := by_) (maxL := maxL) (ret := none) Y.2.2.2.2 rfl ?_
  intro p e s0 m args below meth c s₁ B hml hv
  obtain ⟨rfl, rfl, hP, hK, hD0, hE⟩ := hv
  have hts := atoms_spec (ws := .code y by_ maxL none :: gws) B.pre
  have hl := lv_entry [.ref h0] (n := maxL) hL
  rw [lg_entry_eq]
  generalize (lg_sl [.ref h0] ++ List.replicate (maxL - (lg_sl [.ref h0]).length) Slot.unset).toArray = ls at hl ⊢
  have hlk := B.notSynchronized
  have hrt := B.returns
  have BB : Bn (p, l, e, rmN d mc ms, s0, m, [Value.ref h0].toArray, below, meth, c, D, ca, va_A [(h0, .inr (ci, fs))] s0.heap.size, MQ below (va_Qv (fun _ : Nat → Nat => True) (fun u => BC D ca (va_A [(h0, .inr (ci, fs))] s0.heap.size) (post h0 u)) (va_A [(h0, .inr (ci, fs))] s0.heap.size)) [Value.ref h0].toArray s0 mc ms (va_A [(h0, .inr (ci, fs))] s0.heap.size)) by_ y.cls maxL d mc ms := ⟨B.exec, B.bytes, hml, findClass_of_methodNamed B.named, fun w hw => hts w (List.mem_cons_of_mem _ hw), hK, hE, fun q hq => Or.inr hq, ⟨Nat.le_refl d, Nat.le_refl (60 * d)⟩, Nat.le_refl _, Nat.le_refl _⟩
  refine h _ BB (hy ▸ (name_of_methodNamed B.named B.method).1) rfl rfl rfl (fun u pc lv hd => ?_) ls s0.heap [] (hml ▸ hl) hP hD0.self va_S.rf
  intro ls H locs h hP hD hS
  exact W.vret BB.1 BB.2.1 hrt (fun t ht hW => ⟨⟨u, rfl, trivial, by rw [ht]; exact hP, va_K.moved hW.alike hK, hD⟩, hS.F ht⟩) hS.2.2 hd hlk
theorem sub_last {wr : va_W} {c : Nat × va_E} : [wr.length].map (fun i => (wr ++ [c])[i]?) = [c].map some := by simp
theorem sub_init {wr : va_W} {c : Nat × va_E} : (List.range wr.length).map (fun i => (wr ++ [c])[i]?) = wr.map some := by
  apply List.ext_getElem?
  intro i
  rw [List.getElem?_map, List.getElem?_map]
  by_cases h : i < wr.length
  · rw [List.getElem?_range h, Option.map_some, List.getElem?_append_left h, List.getElem?_eq_getElem h]; rfl
  · rw [List.getElem?_eq_none (by simpa using h), List.getElem?_eq_none (by simpa using h)]; rfl
theorem nd_of : ∀ l : List Nat, l.Nodup → va_nd l = true
  | [], _ => rfl
  | a :: l, h => by
    rw [List.nodup_cons] at h
    simp [va_nd, h.1, nd_of l h.2]
section GN2
variable {κ : Kn} {cc : ByteArray} {own : String} {nL d mc ms : Nat} {cl sl pc : Nat} {lv lv' : List (Nat × Value)} {st : List Value} {w w' wr : va_W}
variable {y : MethodName} {by_ : ByteArray} {maxL n d' mc' ms' ix q ci : Nat} {fs : List Value} {post : Nat → (Nat → Nat) → va_W}
theorem N_after (B : Bn κ cc own nL d mc ms) (k : ∀ u : Nat → Nat, GN κ (cl + mc') (sl + ms') (pc + 3) lv st (wr ++ post q u)) (hrun : ∀ (ls : Array Slot) (H : Heap) (locs : List Loc), lv_has ls (nc κ).maxLocals lv → (∀ U : State, U.heap = H → (ns κ).WarmedH U.vm → PcC (nD κ) (nca κ) [.ref q] [(q, .inr (ci, fs))] H.size [Value.ref q].toArray U) → va_Run (np κ) (nl κ) (ne κ) (nR κ) (ns κ) (nm κ) (nar κ) (nbe κ) (nme κ) (nc κ) H locs cl sl mc' ms' (F0 (nm κ) pc ls (.ref q :: st)) st (va_Qv (fun _ : Nat → Nat => True) (fun u => BC (nD κ) (nca κ) (va_A [(q, .inr (ci, fs))] H.size) (post q u)) (va_A [(q, .inr (ci, fs))] H.size) [Value.ref q].toArray) (va_A [(q, .inr (ci, fs))] H.size)) : GN κ cl sl pc lv (.ref q :: st) (wr ++ [(q, .inr (ci, fs))]) := by
  intro ls H locs h hP hD hS
  have hPc := hP.sub (ws' := [(q, .inr (ci, fs))]) [wr.length] (by simp)
  have hDc := hD.sub (ws' := [(q, .inr (ci, fs))]) [wr.length] rfl sub_last
  have hFc := va_free (wc := [(q, .inr (ci, fs))]) hD hS B.2.2.2.2.2.2.2.1 [wr.length] sub_last
  refine va_callv (hrun ls H locs h (fun U hU hW => ⟨rfl, by rw [hU], by rw [hU]; exact hPc, va_K.moved hW.alike B.2.2.2.2.2.1, hDc.weaken (fun _ _ _ _ => trivial), fun v hv => nest_warm hW (List.mem_filter.mp hv).2 (B.2.2.2.2.2.2.1 v hv)⟩)) hS (fun q _ h => hFc q h) hFc (fun u t H1 locs1 ht hvm hw hB hz1 hk1 hS1 => ?_)
  obtain ⟨hP1, hK1, hD1⟩ := hB
  rw [ht] at hP1
  obtain ⟨hP2, hD2⟩ := va_join (wr := wr) (w1 := post q u) hP hD [wr.length] (List.range wr.length) sub_last sub_init (nd_of _ List.nodup_range) (fun i hi => by simp at hi ⊢; omega) hk1 hFc hP1 hD1
  exact k u ls H1 locs1 h hP2 hD2 hS1
theorem roomN (B : Bn κ cc own nL d mc ms) (h1 : d' + 1 ≤ d) (h2 : maxL ≤ 41) : (rmN d' mc' ms').frames + 1 ≤ (nR κ).frames ∧ 8 + (maxL + 11) + (rmN d' mc' ms').locals ≤ (nR κ).locals := by
  obtain ⟨a, b⟩ := B.2.2.2.2.2.2.2.2.1
  constructor
  · show d' + 1 ≤ _; omega
  · show 8 + (maxL + 11) + 60 * d' ≤ _; omega
theorem N_callN (B : Bn κ cc own nL d mc ms) {ho : String} (Y : YF y by_ maxL none 0) (hy : y.name = "<init>") (I : Cond.instanceMethod y ∈ gws) (L : Cond.methodLinkNest own ix y ho ∈ nws) (hM : Cc (nl κ) (nD κ) (nca κ) y by_ maxL d' mc' ms' q ci fs post) (hd : decode cc pc = .ok (.invokespecial ix, 3)) (hdd : d' + 1 ≤ d) (hr : (st.map fun v => v.category).sum ≤ 8) (hc : cl + mc' ≤ mc) (hs : sl + ms' ≤ ms) (k : ∀ u : Nat → Nat, GN κ (cl + mc') (sl + ms') (pc + 3) lv st (wr ++ post q u)) : GN κ cl sl pc lv (.ref q :: st) (wr ++ [(q, .inr (ci, fs))]) :=
  N_after B k (fun ls H locs h hp => va_runIN (nL := nL) (As := []) ⟨B.1, B.2.1, B.2.2.1, B.2.2.2.1, B.2.2.2.2.1⟩ (hM H.size) ⟨va_cnB 0 B.2.2.2.2.1 (good_ws Y.1) rfl rfl rfl (B.2.2.2.2.2.2.1 _ L) (B.2.2.2.2.1 _ Y.2.1) Y.2.2.1 (roomN B hdd Y.2.2.2.1), hy, B.2.2.2.2.1 _ I⟩ ⟨PcC.blind, hp⟩ rfl rfl (B.2.2.1 ▸ h.1) rfl (lv_room (ls := ls) (m := nm κ) (pc := pc) (rest := .ref q :: st) hr) hd ⟨Nat.le_trans hc B.2.2.2.2.2.2.2.2.2.1, Nat.le_trans hs B.2.2.2.2.2.2.2.2.2.2⟩)
theorem N_callP (B : Bn κ cc own nL d mc ms) (Y : YF y by_ maxL none 0) (hy : y.name = "<init>") (I : Cond.instanceMethod y ∈ gws) (L : Cond.methodLink own ix y ∈ gws) (hM : Cc (nl κ) (nD κ) (nca κ) y by_ maxL d' mc' ms' q ci fs post) (hd : decode cc pc = .ok (.invokespecial ix, 3)) (hdd : d' + 1 ≤ d) (hr : (st.map fun v => v.category).sum ≤ 8) (hc : cl + mc' ≤ mc) (hs : sl + ms' ≤ ms) (k : ∀ u : Nat → Nat, GN κ (cl + mc') (sl + ms') (pc + 3) lv st (wr ++ post q u)) : GN κ cl sl pc lv (.ref q :: st) (wr ++ [(q, .inr (ci, fs))]) :=
  N_after B k (fun ls H locs h hp => va_runI (nL := nL) (As := []) ⟨B.1, B.2.1, B.2.2.1, B.2.2.2.1, B.2.2.2.2.1⟩ (hM H.size) ⟨callB_of 0 B.2.2.2.2.1 (good_ws Y.1) rfl rfl rfl (B.2.2.2.2.1 _ Y.2.1) (B.2.2.2.2.1 _ L) Y.2.2.1 (roomN B hdd Y.2.2.2.1), hy, B.2.2.2.2.1 _ I⟩ ⟨PcC.blind, hp⟩ rfl rfl (B.2.2.1 ▸ h.1) rfl (lv_room (ls := ls) (m := nm κ) (pc := pc) (rest := .ref q :: st) hr) hd ⟨Nat.le_trans hc B.2.2.2.2.2.2.2.2.2.1, Nat.le_trans hs B.2.2.2.2.2.2.2.2.2.2⟩)
end GN2
/-- Arrays.fill over a row of any world -/
def flf (n : Nat) (v : Int32) (f : Nat → Int32) : Nat → Int32 := fun j => if j < n then v else f j
theorem flf_0 (v : Int32) (f : Nat → Int32) : flf 0 v f = f := by funext j; simp [flf]
theorem flf_s (k : Nat) (v : Int32) (f : Nat → Int32) : upd (flf k v f) k v = flf (k + 1) v f := by
  funext j
  unfold upd flf
  by_cases h : j = k
  · rw [if_pos h, if_pos (by omega)]
  · rw [if_neg h]
    by_cases h2 : j < k
    · rw [if_pos h2, if_pos (by omega)]
    · rw [if_neg h2, if_neg (by omega)]
theorem set_get {w : va_W} {p : Nat} {a b : Nat × va_E} (h : w[p]? = some a) : (w.set p b)[p]? = some b := by
  have := (List.getElem?_eq_some_iff.mp h).1
  rw [List.getElem?_set_self this]
theorem set_id {w : va_W} {p : Nat} {a : Nat × va_E} (h : w[p]? = some a) : w.set p a = w := by
  obtain ⟨h1, h2⟩ := List.getElem?_eq_some_iff.mp h
  rw [← h2]; exact List.set_getElem_self h1
theorem fill_loop {κ : Kn} {nL d : Nat} (B : Bn κ cJ7_fill_53178 "java/util/Arrays" 4 d 0 0) {w : va_W} {p a n : Nat} {f : Nat → Int32} {v : Int32} (he : w[p]? = some (a, .inl (nca κ 0, n, .inl f))) (hn : n < 2 ^ 31)
    (hend : GN κ 0 0 20 [(2, .int (nI n)), (3, .int (nI n)), (0, .ref a), (1, .int v)] [] (w.set p (a, .inl (nca κ 0, n, .inl (flf n v f))))) : ∀ m k : Nat, k + m = n → GN κ 0 0 5 [(2, .int (nI k)), (3, .int (nI n)), (0, .ref a), (1, .int v)] [] (w.set p (a, .inl (nca κ 0, n, .inl (flf k v f)))) := by
  intro m
  induction m with
  | zero =>
    intro k hk
    have : k = n := by omega
    subst this
    refine N_iload_n (pc := 5) B 0 dJ7_fill_53178_5 rfl rfl (N_iload_n (pc := 6) B 1 dJ7_fill_53178_6 rfl rfl (N_icmp_ge (pc := 7) B 20 dJ7_fill_53178_7 (by decide) (fun _ => hend) (fun hc => absurd (nI_le (Nat.le_refl k) hn) hc)))
  | succ m ih =>
    intro k hk
    refine N_iload_n (pc := 5) B 0 dJ7_fill_53178_5 rfl rfl (N_iload_n (pc := 6) B 1 dJ7_fill_53178_6 rfl rfl (N_icmp_ge (pc := 7) B 20 dJ7_fill_53178_7 (by decide) (fun hc => absurd hc (nI_ge (by omega) hn)) (fun _ => ?_)))
    refine N_aload_n (pc := 10) B 2 dJ7_fill_53178_10 rfl rfl (N_iload_n (pc := 11) B 0 dJ7_fill_53178_11 rfl rfl (N_iload_n (pc := 12) B 3 dJ7_fill_53178_12 rfl rfl (N_iast (pc := 13) B p (set_get he) (vp_in_nI (by omega) hn) dJ7_fill_53178_13 ?_)))
    rw [nI_clamp (by omega), flf_s, List.set_set]
    refine N_iinc (pc := 14) (v := nI (k + 1)) (lv' := [(2, .int (nI (k + 1))), (3, .int (nI n)), (0, .ref a), (1, .int v)]) B 0 dJ7_fill_53178_14 rfl (by rw [nI_succ]; exact ii_1 _) (by decide) rfl ?_
    exact N_goto (pc := 17) B 5 dJ7_fill_53178_17 (by decide) (ih (k + 1) (by omega))
theorem c_fill {l : Launch} {D : va_G} {ca : Nat → ClassId} {w : va_W} {p a n : Nat} {f : Nat → Int32} {v : Int32} (he : w[p]? = some (a, .inl (ca 0, n, .inl f))) (hn : n < 2 ^ 31) (sz : Nat) : Met l yJ7_fill_53178 (.code yJ7_fill_53178 cJ7_fill_53178 4 none :: gws) (rmN 0 0 0) (PcC D ca [.ref a, .int v] w sz) (va_Qv (fun _ : Unit => True) (fun _ => BC D ca (va_A w sz) (w.set p (a, .inl (ca 0, n, .inl (flf n v f))))) (va_A w sz)) 0 0 (va_A w sz) := by
  refine Met.ofW (cc := cJ7_fill_53178) (maxL := 4) (ret := none) yf_J7_fill_53178.2.2.2.2 rfl ?_
  intro pp e s0 m args below meth c s₁ B hml hv
  obtain ⟨rfl, rfl, hP, hK, hD0, hE⟩ := hv
  have hts := atoms_spec (ws := .code yJ7_fill_53178 cJ7_fill_53178 4 none :: gws) B.pre
  have hl := lv_entry [.ref a, .int v] (n := 4) (Nat.le_of_ble_eq_true rfl)
  rw [lg_entry_eq]
  generalize (lg_sl [.ref a, .int v] ++ List.replicate (4 - (lg_sl [.ref a, .int v]).length) Slot.unset).toArray = ls at hl ⊢
  have hlk := B.notSynchronized
  have hrt := B.returns
  have BB : Bn (pp, l, e, rmN 0 0 0, s0, m, [Value.ref a, Value.int v].toArray, below, meth, c, D, ca, va_A w s0.heap.size, MQ below (va_Qv (fun _ : Unit => True) (fun _ => BC D ca (va_A w s0.heap.size) (w.set p (a, .inl (ca 0, n, .inl (flf n v f))))) (va_A w s0.heap.size)) [Value.ref a, Value.int v].toArray s0 0 0 (va_A w s0.heap.size)) cJ7_fill_53178 "java/util/Arrays" 4 0 0 0 := ⟨B.exec, B.bytes, hml, findClass_of_methodNamed B.named, fun w hw => hts w (List.mem_cons_of_mem _ hw), hK, hE, fun q hq => Or.inr hq, ⟨Nat.le_refl 0, Nat.le_refl (60 * 0)⟩, Nat.le_refl _, Nat.le_refl _⟩
  have G : GN (pp, l, e, rmN 0 0 0, s0, m, [Value.ref a, Value.int v].toArray, below, meth, c, D, ca, va_A w s0.heap.size, MQ below (va_Qv (fun _ : Unit => True) (fun _ => BC D ca (va_A w s0.heap.size) (w.set p (a, .inl (ca 0, n, .inl (flf n v f))))) (va_A w s0.heap.size)) [Value.ref a, Value.int v].toArray s0 0 0 (va_A w s0.heap.size)) 0 0 0 [(0, .ref a), (1, .int v)] [] w := by
    refine N_iconst (pc := 0) BB dJ7_fill_53178_0 ic_0 (N_istore_n (pc := 1) (lv' := [(2, .int 0), (0, .ref a), (1, .int v)]) BB dJ7_fill_53178_1 rfl (by decide) rfl (N_aload_n (pc := 2) BB 1 dJ7_fill_53178_2 rfl rfl (N_alen (pc := 3) BB p he dJ7_fill_53178_3 (N_istore_n (pc := 4) (lv' := [(3, .int (nI n)), (2, .int 0), (0, .ref a), (1, .int v)]) BB dJ7_fill_53178_4 rfl (by decide) rfl ?_))))
    have hloop := fill_loop (nL := 4) (v := v) BB he hn (by
      intro ls H locs h hP hD hS
      exact W.vret BB.1 BB.2.1 hrt (fun t ht hW => ⟨⟨(), rfl, trivial, by rw [ht]; exact hP, va_K.moved hW.alike hK, hD⟩, hS.F ht⟩) hS.2.2 dJ7_fill_53178_20 hlk) n 0 (by omega)
    rw [flf_0, set_id he, nI_0] at hloop
    intro ls H locs h hP hD hS
    exact hloop ls H locs (lv_sub h [1, 0, 2, 3] rfl) hP hD hS
  exact G ls s0.heap [] (hml ▸ hl) hP hD0.self va_S.rf
theorem N_fill {κ : Kn} {cc : ByteArray} {own : String} {nL d mc ms : Nat} {cl sl pc ix : Nat} {lv : List (Nat × Value)} {st : List Value} {w : va_W} {a n : Nat} {f : Nat → Int32} {v : Int32} (B : Bn κ cc own nL d mc ms) (p : Nat) (I : Cond.static yJ7_fill_53178 ∈ gws) (L : Cond.methodLink own ix yJ7_fill_53178 ∈ gws) (he : w[p]? = some (a, .inl (nca κ 0, n, .inl f))) (hn : n < 2 ^ 31) (hd : decode cc pc = .ok (.invokestatic ix, 3)) (hdd : 0 + 1 ≤ d) (hr : (st.map fun v => v.category).sum ≤ 8) (hc : cl ≤ mc) (hs : sl ≤ ms) (k : GN κ cl sl (pc + 3) lv st (w.set p (a, .inl (nca κ 0, n, .inl (flf n v f))))) : GN κ cl sl pc lv (.int v :: .ref a :: st) w := by
  intro ls H locs h hP hD hS
  have hF : ∀ q, va_A w H.size q → nA κ q := fun q hq => hq.elim (fun ⟨k, e, h⟩ => hD.2 k (q, e) h) (fun h => B.2.2.2.2.2.2.2.1 q (Nat.le_trans hS.1 h))
  refine va_callv (va_runS (nL := nL) (As := [.ref a, .int v]) (n := 2) ⟨B.1, B.2.1, B.2.2.1, B.2.2.2.1, B.2.2.2.2.1⟩ (c_fill (l := nl κ) (D := nD κ) (ca := nca κ) (v := v) he hn H.size) ⟨callB_of 2 B.2.2.2.2.1 (good_ws yf_J7_fill_53178.1) rfl rfl rfl (B.2.2.2.2.1 _ yf_J7_fill_53178.2.1) (B.2.2.2.2.1 _ L) yf_J7_fill_53178.2.2.1 (roomN B hdd (by decide)), B.2.2.2.2.1 _ I⟩ ⟨PcC.blind, fun U hU hW => ⟨rfl, by rw [hU], by rw [hU]; exact hP, va_K.moved hW.alike B.2.2.2.2.2.1, hD.weaken (fun _ _ _ _ => trivial), fun v hv => nest_warm hW (List.mem_filter.mp hv).2 (B.2.2.2.2.2.2.1 v hv)⟩⟩ rfl rfl (B.2.2.1 ▸ h.1) rfl (lv_room (ls := ls) (m := nm κ) (pc := pc) (rest := .int v :: .ref a :: st) hr) hd ⟨Nat.le_trans hc B.2.2.2.2.2.2.2.2.2.1, Nat.le_trans hs B.2.2.2.2.2.2.2.2.2.2⟩) hS (fun q _ h => hF q h) hF (fun u t H1 locs1 ht hvm hw hB hz1 hk1 hS1 => ?_)
  obtain ⟨hP1, hK1, hD1⟩ := hB
  rw [ht] at hP1
  exact k ls H1 locs1 h hP1 (hD1.weaken (fun _ q _ h => hF q.1 h)) hS1
