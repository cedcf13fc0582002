/-! The judgement of a method's walk over the one world, and its rows -/
theorem mem_g {w : Cond} {i : Nat} (h : tables_1[i]? = some w) (hg : goodWord w = true) : w ∈ gws := List.mem_filter.mpr ⟨List.mem_append_right _ (List.mem_of_getElem? h), hg⟩
theorem mem_s {q : MethodName × Nat} {i : Nat} (h : lw_privs[i]? = some q) (hg : goodWord (Cond.selects q.1.cls q.1 q.1) = true) : Cond.selects q.1.cls q.1 q.1 ∈ gws := List.mem_filter.mpr ⟨List.mem_append_left _ (List.mem_map.mpr ⟨q, List.mem_of_getElem? h, rfl⟩), hg⟩
theorem mem_n {w : Cond} {i : Nat} (h : tables_1[i]? = some w) (hg : isNest w = true) : w ∈ nws := List.mem_filter.mpr ⟨List.mem_append_right _ (List.mem_of_getElem? h), hg⟩
theorem good_g : ∀ w ∈ gws, (w.onTables && w.keeps) = true ∨ ∃ ty, w = .arrayClass ty := fun w hw => good_of_word (List.mem_filter.mp hw).2
theorem good_ws {w : Cond} (h : w ∈ gws) : GoodIn gws (w :: gws) := fun v hv => (List.mem_cons.mp hv).elim (fun e => e ▸ ⟨h, good_g _ h⟩) (fun h2 => ⟨h2, good_g _ h2⟩)
theorem nest_warm {s U : State} (hW : s.WarmedH U.vm) {w : Cond} (hw : isNest w = true) (h : va_Nw w s) : va_Nw w U := by
  cases w <;> first | exact va_Nw.warmF hW h | exact va_Nw.warmM hW h | (exact absurd hw Bool.false_ne_true)
theorem nest_tab {w : Cond} (hw : isNest w = true) : w.onTables = true := by
  cases w <;> first | rfl | (exact absurd hw Bool.false_ne_true)
/-- what lies outside the world and is only read: the links to nest mates, the static arrays, the text constants -/
def EX (x : Cx) (A : Nat → Prop) (U : State) (H : Heap) : Prop :=
  (∀ w ∈ nws, va_Nw w U) ∧ (va_Z "DanceCards$Tape" "LEAST" "[I" (.ref (xT x 0)) A U H ∧ va_T .int (xT x 0) 4 (fun j => .int (c_LEAST j)) A U H) ∧ (va_Z "DanceCards$Tape" "MOST" "[I" (.ref (xT x 1)) A U H ∧ va_T .int (xT x 1) 4 (fun j => .int (c_MOST j)) A U H) ∧ va_Z "java/lang/String" "COMPACT_STRINGS" "Z" (.int 1) A U H ∧ va_Zq "jdk/internal/util/Preconditions" "SIOOBE_FORMATTER" "Ljava/util/function/BiFunction;" A U H ∧ (∀ k, k < 4 → vk_R "DanceCards$Tape" (s_ix k) (s_tx k) (xK x k) U) ∧ vk_S 4 s_len s_byt (xK x) (xV x) A U H
theorem Zq_moved {C n d : String} {A : Nat → Prop} {u U : State} {H : Heap} (hvm : u.vm.Alike U.vm) (h : va_Zq C n d A u H) : va_Zq C n d A U H := h.elim (fun h => Or.inl (va_Z.moved hvm h)) (fun ⟨t, h⟩ => Or.inr ⟨t, va_Z.moved hvm h⟩)
theorem Zq_kept {C n d : String} {A : Nat → Prop} {U : State} {H H1 : Heap} (h : va_Zq C n d A U H) (hq : ∀ a : Nat, a < H.size → ¬ A a → H1[a]? = H[a]?) : va_Zq C n d A U H1 := h.elim (fun h => Or.inl (h.kept hq)) (fun ⟨t, h⟩ => Or.inr ⟨t, h.kept hq⟩)
theorem Zq_narrow {C n d : String} {A B : Nat → Prop} {U : State} {H : Heap} (h : va_Zq C n d A U H) (hAB : ∀ q, B q → A q) : va_Zq C n d B U H := h.elim (fun h => Or.inl (h.narrow hAB)) (fun ⟨t, h⟩ => Or.inr ⟨t, h.narrow hAB⟩)
theorem EX.tr {x : Cx} {A B : Nat → Prop} {s U : State} {H H1 : Heap} (h : EX x A s H) (hW : s.WarmedH U.vm) (hq : ∀ a : Nat, a < H.size → ¬ A a → H1[a]? = H[a]?) (hAB : ∀ q, B q → A q) : EX x B U H1 := by
  obtain ⟨h1, ⟨h2, h3⟩, ⟨h4, h5⟩, h6, h7, h8, h9⟩ := h
  have al := hW.alike
  exact ⟨fun w hw => nest_warm hW (List.mem_filter.mp hw).2 (h1 w hw), ⟨((va_Z.moved al h2).kept hq).narrow hAB, ((va_T.moved al h3).kept hq).narrow hAB⟩, ⟨((va_Z.moved al h4).kept hq).narrow hAB, ((va_T.moved al h5).kept hq).narrow hAB⟩, ((va_Z.moved al h6).kept hq).narrow hAB, Zq_narrow (Zq_kept (Zq_moved al h7) hq) hAB, fun k hk => (h8 k hk).warm hW, ((vk_S.moved al h9).kept hq).narrow hAB⟩
theorem EX.same {x : Cx} {A : Nat → Prop} {u U : State} {H : Heap} (h : EX x A u H) (hv : U.vm = u.vm) : EX x A U H := by
  obtain ⟨h1, ⟨h2, h3⟩, ⟨h4, h5⟩, h6, h7, h8, h9⟩ := h
  have al : u.vm.Alike U.vm := hv ▸ Vm.Alike.refl _
  exact ⟨fun w hw => va_Nw.same (nest_tab (List.mem_filter.mp hw).2) hv.symm (h1 w hw), ⟨va_Z.moved al h2, va_T.moved al h3⟩, ⟨va_Z.moved al h4, va_T.moved al h5⟩, va_Z.moved al h6, Zq_moved al h7, fun k hk => (h8 k hk).same hv, vk_S.moved al h9⟩
/-- which cells may change: the world's, and new ones -/
def AS (x : Cx) (sz : Nat) : Nat → Prop := fun q => (∃ k : Nat, k < nCells ∧ q = xa x k) ∨ sz ≤ q
theorem AS.mono {x : Cx} {a b : Nat} (h : a ≤ b) {q : Nat} (hq : AS x b q) : AS x a q := hq.elim Or.inl (fun h2 => Or.inr (Nat.le_trans h h2))
abbrev tyx (x : Cx) : List (ClassId × FieldType) := [(x.2.1 0, .int), (x.2.1 1, .boolean), (x.2.1 2, .byte)]
theorem wd_AS {x : Cx} {s : St} {sz : Nat} {B : Nat → Prop} (h : va_D B (wd x s)) : va_D (AS x sz) (wd x s) := ⟨h.1, fun k q hk => Or.inl (wd_ad hk)⟩
abbrev Kt : Type := Program × Launch × Env × Room × State × MethodId × Array Value × List Frame × Method × Code × Cx × (State → Prop) × Nat × Nat
abbrev kp (κ : Kt) : Program := κ.1
abbrev kl (κ : Kt) : Launch := κ.2.1
abbrev ke (κ : Kt) : Env := κ.2.2.1
abbrev kR (κ : Kt) : Room := κ.2.2.2.1
abbrev ks (κ : Kt) : State := κ.2.2.2.2.1
abbrev km (κ : Kt) : MethodId := κ.2.2.2.2.2.1
abbrev kar (κ : Kt) : Array Value := κ.2.2.2.2.2.2.1
abbrev kbe (κ : Kt) : List Frame := κ.2.2.2.2.2.2.2.1
abbrev kme (κ : Kt) : Method := κ.2.2.2.2.2.2.2.2.1
abbrev kc (κ : Kt) : Code := κ.2.2.2.2.2.2.2.2.2.1
abbrev kx (κ : Kt) : Cx := κ.2.2.2.2.2.2.2.2.2.2.1
abbrev kQ (κ : Kt) : State → Prop := κ.2.2.2.2.2.2.2.2.2.2.2.1
abbrev kcl (κ : Kt) : Nat := κ.2.2.2.2.2.2.2.2.2.2.2.2.1
abbrev ksl (κ : Kt) : Nat := κ.2.2.2.2.2.2.2.2.2.2.2.2.2
abbrev kA (κ : Kt) : Nat → Prop := AS (kx κ) (ks κ).heap.size
def GW (κ : Kt) (pc : Nat) (lv : List (Nat × Value)) (st : List Value) (s : St) : Prop := ∀ (ls : Array Slot) (H : Heap) (locs : List Loc), lv_has ls (kc κ).maxLocals lv → va_P (kx κ).1 classes (wd (kx κ) s) H → va_D (kA κ) (wd (kx κ) s) → va_S (kA κ) (ks κ).heap H locs →
  W (kp κ) (kl κ) (ke κ) (kR κ) (ks κ) (km κ) (kar κ) (kbe κ) (kme κ) (kc κ) H locs (kcl κ) (ksl κ) (kQ κ) (F0 (km κ) pc ls st)
def Bs (κ : Kt) (cc : ByteArray) (own : String) (nL d : Nat) : Prop :=
  (kp κ).tables.exec = Jvm.exec ∧ (kc κ).code = cc ∧ (kc κ).maxLocals = nL ∧ (ks κ).vm.findClass own = some (km κ).cls ∧ (∀ w ∈ gws, w.before (kar κ) (ks κ) = true) ∧ va_K (kx κ).1 classes (tyx (kx κ)) (ks κ) ∧ EX (kx κ) (kA κ) (ks κ) (ks κ).heap ∧ (kme κ).locks = false ∧ (d ≤ (kR κ).frames ∧ 60 * d ≤ (kR κ).locals) ∧ kcl κ ≤ (kR κ).cells ∧ ksl κ ≤ (kR κ).slots
theorem it_t {c : Prop} [Decidable c] {T1 T2 : Prop} (hc : c) (h : if c then T1 else T2) : T1 := by rw [if_pos hc] at h; exact h
theorem it_f {c : Prop} [Decidable c] {T1 T2 : Prop} (hc : ¬ c) (h : if c then T1 else T2) : T2 := by rw [if_neg hc] at h; exact h
section GR
variable {κ : Kt} {cc : ByteArray} {own : String} {nL d : Nat} {pc : Nat} {lv lv' : List (Nat × Value)} {st : List Value} {s : St}
/-- fewer locals -/
theorem R_sub (ks : List Nat) (hl : lv_pick lv ks = lv') (k : GW κ pc lv' st s) : GW κ pc lv st s := fun ls H locs h hP hD hS => k ls H locs (lv_sub h ks hl) hP hD hS
theorem R_iload_n (B : Bs κ cc own nL d) {j : Fin 4} (a : Nat) {i : Nat} {v : Int32} (hd : decode cc pc = .ok (.iload_n j, 1)) (hj : (j : Nat) = i) (hk : lv[a]? = some (i, .int v)) (k : GW κ (pc + 1) lv (.int v :: st) s) : GW κ pc lv st s := fun ls H locs h hP hD hS => lv_iload_n B.1 B.2.1 hd hj (lv_at h a hk) (k ls H locs h hP hD hS)
theorem R_iload (B : Bs κ cc own nL d) (a : Nat) {i : Nat} {v : Int32} (hd : decode cc pc = .ok (.iload i, 2)) (hk : lv[a]? = some (i, .int v)) (k : GW κ (pc + 2) lv (.int v :: st) s) : GW κ pc lv st s := fun ls H locs h hP hD hS => lv_iload B.1 B.2.1 hd (lv_at h a hk) (k ls H locs h hP hD hS)
theorem R_lload_n (B : Bs κ cc own nL d) {j : Fin 4} (a : Nat) {i : Nat} {v : Int64} (hd : decode cc pc = .ok (.lload_n j, 1)) (hj : (j : Nat) = i) (hk : lv[a]? = some (i, .long v)) (k : GW κ (pc + 1) lv (.long v :: st) s) : GW κ pc lv st s := fun ls H locs h hP hD hS => lv_lload_n B.1 B.2.1 hd hj (lv_at h a hk) (k ls H locs h hP hD hS)
theorem R_lload (B : Bs κ cc own nL d) (a : Nat) {i : Nat} {v : Int64} (hd : decode cc pc = .ok (.lload i, 2)) (hk : lv[a]? = some (i, .long v)) (k : GW κ (pc + 2) lv (.long v :: st) s) : GW κ pc lv st s := fun ls H locs h hP hD hS => lv_lload B.1 B.2.1 hd (lv_at h a hk) (k ls H locs h hP hD hS)
theorem R_aload_n (B : Bs κ cc own nL d) {j : Fin 4} (a : Nat) {i : Nat} {v : Nat} (hd : decode cc pc = .ok (.aload_n j, 1)) (hj : (j : Nat) = i) (hk : lv[a]? = some (i, .ref v)) (k : GW κ (pc + 1) lv (.ref v :: st) s) : GW κ pc lv st s := fun ls H locs h hP hD hS => lv_aload_n B.1 B.2.1 hd hj (lv_at h a hk) (k ls H locs h hP hD hS)
theorem R_aload (B : Bs κ cc own nL d) (a : Nat) {i : Nat} {v : Nat} (hd : decode cc pc = .ok (.aload i, 2)) (hk : lv[a]? = some (i, .ref v)) (k : GW κ (pc + 2) lv (.ref v :: st) s) : GW κ pc lv st s := fun ls H locs h hP hD hS => lv_aload B.1 B.2.1 hd (lv_at h a hk) (k ls H locs h hP hD hS)
theorem R_istore_n (B : Bs κ cc own nL d) {j : Fin 4} {i : Nat} {v : Int32} (hd : decode cc pc = .ok (.istore_n j, 1)) (hj : (j : Nat) = i) (hn : i < nL) (hl : (i, Value.int v) :: lv.filter (fun q => !(q.1 == i) && !(q.1 + 1 == i && q.2.category == 2)) = lv') (k : GW κ (pc + 1) lv' st s) : GW κ pc lv (.int v :: st) s := fun ls H locs h hP hD hS => lv_istore_n B.1 B.2.1 hd hj h (B.2.2.1.symm ▸ hn) hl (fun ls h => k ls H locs h hP hD hS)
theorem R_istore (B : Bs κ cc own nL d) {i : Nat} {v : Int32} (hd : decode cc pc = .ok (.istore i, 2)) (hn : i < nL) (hl : (i, Value.int v) :: lv.filter (fun q => !(q.1 == i) && !(q.1 + 1 == i && q.2.category == 2)) = lv') (k : GW κ (pc + 2) lv' st s) : GW κ pc lv (.int v :: st) s := fun ls H locs h hP hD hS => lv_istore B.1 B.2.1 hd h (B.2.2.1.symm ▸ hn) hl (fun ls h => k ls H locs h hP hD hS)
theorem R_astore_n (B : Bs κ cc own nL d) {j : Fin 4} {i : Nat} {v : Nat} (hd : decode cc pc = .ok (.astore_n j, 1)) (hj : (j : Nat) = i) (hn : i < nL) (hl : (i, Value.ref v) :: lv.filter (fun q => !(q.1 == i) && !(q.1 + 1 == i && q.2.category == 2)) = lv') (k : GW κ (pc + 1) lv' st s) : GW κ pc lv (.ref v :: st) s := fun ls H locs h hP hD hS => lv_astore_n B.1 B.2.1 hd hj h (B.2.2.1.symm ▸ hn) hl (fun ls h => k ls H locs h hP hD hS)
theorem R_astore (B : Bs κ cc own nL d) {i : Nat} {v : Nat} (hd : decode cc pc = .ok (.astore i, 2)) (hn : i < nL) (hl : (i, Value.ref v) :: lv.filter (fun q => !(q.1 == i) && !(q.1 + 1 == i && q.2.category == 2)) = lv') (k : GW κ (pc + 2) lv' st s) : GW κ pc lv (.ref v :: st) s := fun ls H locs h hP hD hS => lv_astore B.1 B.2.1 hd h (B.2.2.1.symm ▸ hn) hl (fun ls h => k ls H locs h hP hD hS)
theorem R_lstore_n (B : Bs κ cc own nL d) {j : Fin 4} {i : Nat} {v : Int64} (hd : decode cc pc = .ok (.lstore_n j, 1)) (hj : (j : Nat) = i) (hn : i + 1 < nL) (hl : (i, Value.long v) :: lv.filter (fun q => !(q.1 == i) && (!(q.1 == i + 1) && !(q.1 + 1 == i && q.2.category == 2))) = lv') (k : GW κ (pc + 1) lv' st s) : GW κ pc lv (.long v :: st) s := fun ls H locs h hP hD hS => lv_lstore_n B.1 B.2.1 hd hj h (B.2.2.1.symm ▸ hn) hl (fun ls h => k ls H locs h hP hD hS)
theorem R_lstore (B : Bs κ cc own nL d) {i : Nat} {v : Int64} (hd : decode cc pc = .ok (.lstore i, 2)) (hn : i + 1 < nL) (hl : (i, Value.long v) :: lv.filter (fun q => !(q.1 == i) && (!(q.1 == i + 1) && !(q.1 + 1 == i && q.2.category == 2))) = lv') (k : GW κ (pc + 2) lv' st s) : GW κ pc lv (.long v :: st) s := fun ls H locs h hP hD hS => lv_lstore B.1 B.2.1 hd h (B.2.2.1.symm ▸ hn) hl (fun ls h => k ls H locs h hP hD hS)
theorem R_iinc (B : Bs κ cc own nL d) (a : Nat) {i : Nat} {n : Int} {u v : Int32} (hd : decode cc pc = .ok (.iinc i n, 3)) (hk : lv[a]? = some (i, .int u)) (hv : u + Int32.ofInt n = v) (hn : i < nL) (hl : (i, Value.int v) :: lv.filter (fun q => !(q.1 == i) && !(q.1 + 1 == i && q.2.category == 2)) = lv') (k : GW κ (pc + 3) lv' st s) : GW κ pc lv st s := fun ls H locs h hP hD hS => lv_iinc B.1 B.2.1 hd h hk hv (B.2.2.1.symm ▸ hn) hl (fun ls h => k ls H locs h hP hD hS)
theorem R_iconst (B : Bs κ cc own nL d) {n : Int} {v : Int32} (hd : decode cc pc = .ok (.iconst n, 1)) (hv : Int32.ofInt n = v) (k : GW κ (pc + 1) lv (.int v :: st) s) : GW κ pc lv st s := fun ls H locs h hP hD hS => lv_iconst B.1 B.2.1 hd hv (k ls H locs h hP hD hS)
theorem R_bipush (B : Bs κ cc own nL d) {n : Int} {v : Int32} (hd : decode cc pc = .ok (.bipush n, 2)) (hv : (Int8.ofInt n).toInt32 = v) (k : GW κ (pc + 2) lv (.int v :: st) s) : GW κ pc lv st s := fun ls H locs h hP hD hS => lv_bipush B.1 B.2.1 hd hv (k ls H locs h hP hD hS)
theorem R_sipush (B : Bs κ cc own nL d) {n : Int} {v : Int32} (hd : decode cc pc = .ok (.sipush n, 3)) (hv : (Int16.ofInt n).toInt32 = v) (k : GW κ (pc + 3) lv (.int v :: st) s) : GW κ pc lv st s := fun ls H locs h hP hD hS => lv_sipush B.1 B.2.1 hd hv (k ls H locs h hP hD hS)
theorem R_lconst (B : Bs κ cc own nL d) {n : Fin 2} {v : Int64} (hd : decode cc pc = .ok (.lconst n, 1)) (hv : Int64.ofNat (n : Nat) = v) (k : GW κ (pc + 1) lv (.long v :: st) s) : GW κ pc lv st s := fun ls H locs h hP hD hS => lv_lconst B.1 B.2.1 hd hv (k ls H locs h hP hD hS)
theorem R_ldc (B : Bs κ cc own nL d) {ix : Nat} {v : Int32} (L : Cond.constant own ix v ∈ gws) (hd : decode cc pc = .ok (.ldc ix, 2)) (k : GW κ (pc + 2) lv (.int v :: st) s) : GW κ pc lv st s := fun ls H locs h hP hD hS => lv_ldc B.1 B.2.1 B.2.2.2.1 (B.2.2.2.2.1 _ L) hd (k ls H locs h hP hD hS)
theorem R_ldc_w (B : Bs κ cc own nL d) {ix : Nat} {v : Int32} (L : Cond.constant own ix v ∈ gws) (hd : decode cc pc = .ok (.ldc_w ix, 3)) (k : GW κ (pc + 3) lv (.int v :: st) s) : GW κ pc lv st s := fun ls H locs h hP hD hS => lv_ldcw B.1 B.2.1 B.2.2.2.1 (B.2.2.2.2.1 _ L) hd (k ls H locs h hP hD hS)
theorem R_ldc2 (B : Bs κ cc own nL d) {ix : Nat} {v : Int64} (L : Cond.constantLong own ix v ∈ gws) (hd : decode cc pc = .ok (.ldc2_w ix, 3)) (k : GW κ (pc + 3) lv (.long v :: st) s) : GW κ pc lv st s := fun ls H locs h hP hD hS => lv_ldc2 B.1 B.2.1 B.2.2.2.1 (B.2.2.2.2.1 _ L) hd (k ls H locs h hP hD hS)
theorem R_iadd (B : Bs κ cc own nL d) {u v : Int32} (hd : decode cc pc = .ok (.iadd, 1)) (k : GW κ (pc + 1) lv (.int (u + v) :: st) s) : GW κ pc lv (.int v :: .int u :: st) s := fun ls H locs h hP hD hS => lv_iadd B.1 B.2.1 hd (k ls H locs h hP hD hS)
theorem R_isub (B : Bs κ cc own nL d) {u v : Int32} (hd : decode cc pc = .ok (.isub, 1)) (k : GW κ (pc + 1) lv (.int (u - v) :: st) s) : GW κ pc lv (.int v :: .int u :: st) s := fun ls H locs h hP hD hS => lv_isub B.1 B.2.1 hd (k ls H locs h hP hD hS)
theorem R_imul (B : Bs κ cc own nL d) {u v : Int32} (hd : decode cc pc = .ok (.imul, 1)) (k : GW κ (pc + 1) lv (.int (u * v) :: st) s) : GW κ pc lv (.int v :: .int u :: st) s := fun ls H locs h hP hD hS => lv_imul B.1 B.2.1 hd (k ls H locs h hP hD hS)
theorem R_iand (B : Bs κ cc own nL d) {u v : Int32} (hd : decode cc pc = .ok (.iand, 1)) (k : GW κ (pc + 1) lv (.int (u &&& v) :: st) s) : GW κ pc lv (.int v :: .int u :: st) s := fun ls H locs h hP hD hS => lv_iand B.1 B.2.1 hd (k ls H locs h hP hD hS)
theorem R_ior (B : Bs κ cc own nL d) {u v : Int32} (hd : decode cc pc = .ok (.ior, 1)) (k : GW κ (pc + 1) lv (.int (u ||| v) :: st) s) : GW κ pc lv (.int v :: .int u :: st) s := fun ls H locs h hP hD hS => lv_ior B.1 B.2.1 hd (k ls H locs h hP hD hS)
theorem R_ixor (B : Bs κ cc own nL d) {u v : Int32} (hd : decode cc pc = .ok (.ixor, 1)) (k : GW κ (pc + 1) lv (.int (u ^^^ v) :: st) s) : GW κ pc lv (.int v :: .int u :: st) s := fun ls H locs h hP hD hS => lv_ixor B.1 B.2.1 hd (k ls H locs h hP hD hS)
theorem R_ishl (B : Bs κ cc own nL d) {u v : Int32} (hd : decode cc pc = .ok (.ishl, 1)) (k : GW κ (pc + 1) lv (.int (u <<< (v &&& 31)) :: st) s) : GW κ pc lv (.int v :: .int u :: st) s := fun ls H locs h hP hD hS => lv_ishl B.1 B.2.1 hd (k ls H locs h hP hD hS)
theorem R_ishr (B : Bs κ cc own nL d) {u v : Int32} (hd : decode cc pc = .ok (.ishr, 1)) (k : GW κ (pc + 1) lv (.int (u >>> (v &&& 31)) :: st) s) : GW κ pc lv (.int v :: .int u :: st) s := fun ls H locs h hP hD hS => lv_ishr B.1 B.2.1 hd (k ls H locs h hP hD hS)
theorem R_iushr (B : Bs κ cc own nL d) {u v : Int32} (hd : decode cc pc = .ok (.iushr, 1)) (k : GW κ (pc + 1) lv (.int (u.toUInt32 >>> (v.toUInt32 &&& Int32.toUInt32 31)).toInt32 :: st) s) : GW κ pc lv (.int v :: .int u :: st) s := fun ls H locs h hP hD hS => lv_iushr B.1 B.2.1 hd rfl (k ls H locs h hP hD hS)
theorem R_ineg (B : Bs κ cc own nL d) {u : Int32} (hd : decode cc pc = .ok (.ineg, 1)) (k : GW κ (pc + 1) lv (.int (-u) :: st) s) : GW κ pc lv (.int u :: st) s := fun ls H locs h hP hD hS => lv_ineg B.1 B.2.1 hd (k ls H locs h hP hD hS)
theorem R_ladd (B : Bs κ cc own nL d) {u v : Int64} (hd : decode cc pc = .ok (.ladd, 1)) (k : GW κ (pc + 1) lv (.long (u + v) :: st) s) : GW κ pc lv (.long v :: .long u :: st) s := fun ls H locs h hP hD hS => lv_ladd B.1 B.2.1 hd (k ls H locs h hP hD hS)
theorem R_land (B : Bs κ cc own nL d) {u v : Int64} (hd : decode cc pc = .ok (.land, 1)) (k : GW κ (pc + 1) lv (.long (u &&& v) :: st) s) : GW κ pc lv (.long v :: .long u :: st) s := fun ls H locs h hP hD hS => lv_land B.1 B.2.1 hd (k ls H locs h hP hD hS)
theorem R_lor (B : Bs κ cc own nL d) {u v : Int64} (hd : decode cc pc = .ok (.lor, 1)) (k : GW κ (pc + 1) lv (.long (u ||| v) :: st) s) : GW κ pc lv (.long v :: .long u :: st) s := fun ls H locs h hP hD hS => lv_lor B.1 B.2.1 hd (k ls H locs h hP hD hS)
theorem R_lshl (B : Bs κ cc own nL d) {u : Int64} {v : Int32} (hd : decode cc pc = .ok (.lshl, 1)) (k : GW κ (pc + 1) lv (.long (u <<< (v.toInt64 &&& 63)) :: st) s) : GW κ pc lv (.int v :: .long u :: st) s := fun ls H locs h hP hD hS => lv_lshl B.1 B.2.1 hd rfl (k ls H locs h hP hD hS)
theorem R_lshr (B : Bs κ cc own nL d) {u : Int64} {v : Int32} (hd : decode cc pc = .ok (.lshr, 1)) (k : GW κ (pc + 1) lv (.long (u >>> (v.toInt64 &&& 63)) :: st) s) : GW κ pc lv (.int v :: .long u :: st) s := fun ls H locs h hP hD hS => lv_lshr B.1 B.2.1 hd rfl (k ls H locs h hP hD hS)
theorem R_lushr (B : Bs κ cc own nL d) {u : Int64} {v : Int32} (hd : decode cc pc = .ok (.lushr, 1)) (k : GW κ (pc + 1) lv (.long (u.toUInt64 >>> (v.toInt64.toUInt64 &&& Int64.toUInt64 63)).toInt64 :: st) s) : GW κ pc lv (.int v :: .long u :: st) s := fun ls H locs h hP hD hS => lv_lushr B.1 B.2.1 hd rfl (k ls H locs h hP hD hS)
theorem R_lcmp (B : Bs κ cc own nL d) {u v : Int64} (hd : decode cc pc = .ok (.lcmp, 1)) (k : GW κ (pc + 1) lv (.int (lg_cmp u v) :: st) s) : GW κ pc lv (.long v :: .long u :: st) s := fun ls H locs h hP hD hS => W.lcmp B.1 B.2.1 hd (k ls H locs h hP hD hS)
theorem R_i2l (B : Bs κ cc own nL d) {u : Int32} (hd : decode cc pc = .ok (.i2l, 1)) (k : GW κ (pc + 1) lv (.long (u.toInt64) :: st) s) : GW κ pc lv (.int u :: st) s := fun ls H locs h hP hD hS => lv_i2l B.1 B.2.1 hd rfl (k ls H locs h hP hD hS)
theorem R_l2i (B : Bs κ cc own nL d) {u : Int64} (hd : decode cc pc = .ok (.l2i, 1)) (k : GW κ (pc + 1) lv (.int (u.toInt32) :: st) s) : GW κ pc lv (.long u :: st) s := fun ls H locs h hP hD hS => lv_l2i B.1 B.2.1 hd rfl (k ls H locs h hP hD hS)
theorem R_i2b (B : Bs κ cc own nL d) {u : Int32} (hd : decode cc pc = .ok (.i2b, 1)) (k : GW κ (pc + 1) lv (.int (u.toInt8.toInt32) :: st) s) : GW κ pc lv (.int u :: st) s := fun ls H locs h hP hD hS => lv_i2b B.1 B.2.1 hd rfl (k ls H locs h hP hD hS)
theorem R_i2s (B : Bs κ cc own nL d) {u : Int32} (hd : decode cc pc = .ok (.i2s, 1)) (k : GW κ (pc + 1) lv (.int (u.toInt16.toInt32) :: st) s) : GW κ pc lv (.int u :: st) s := fun ls H locs h hP hD hS => lv_i2s B.1 B.2.1 hd rfl (k ls H locs h hP hD hS)
theorem R_i2c (B : Bs κ cc own nL d) {u : Int32} (hd : decode cc pc = .ok (.i2c, 1)) (k : GW κ (pc + 1) lv (.int ((u.toUInt32 % 65536).toInt32) :: st) s) : GW κ pc lv (.int u :: st) s := fun ls H locs h hP hD hS => lv_i2c B.1 B.2.1 hd rfl (k ls H locs h hP hD hS)
theorem R_idiv {T : Prop} (B : Bs κ cc own nL d) {u v : Int32} (hd : decode cc pc = .ok (.idiv, 1)) (hw : ¬ v = 0 ∧ T) (k : T → GW κ (pc + 1) lv (.int (u / v) :: st) s) : GW κ pc lv (.int v :: .int u :: st) s := fun ls H locs h hP hD hS => lv_idiv B.1 B.2.1 hd hw.1 (k hw.2 ls H locs h hP hD hS)
theorem R_irem {T : Prop} (B : Bs κ cc own nL d) {u v : Int32} (hd : decode cc pc = .ok (.irem, 1)) (hw : ¬ v = 0 ∧ T) (k : T → GW κ (pc + 1) lv (.int (u - u / v * v) :: st) s) : GW κ pc lv (.int v :: .int u :: st) s := fun ls H locs h hP hD hS => lv_irem B.1 B.2.1 hd hw.1 (k hw.2 ls H locs h hP hD hS)
theorem R_dup (B : Bs κ cc own nL d) {u : Value} (hd : decode cc pc = .ok (.dup, 1)) (hu : u.category = 1) (k : GW κ (pc + 1) lv (u :: u :: st) s) : GW κ pc lv (u :: st) s := fun ls H locs h hP hD hS => lv_dup B.1 B.2.1 hd hu (k ls H locs h hP hD hS)
theorem R_dup2 (B : Bs κ cc own nL d) {u v : Value} (hd : decode cc pc = .ok (.dup2, 1)) (hu : u.category = 1) (hv : v.category = 1) (k : GW κ (pc + 1) lv (u :: v :: u :: v :: st) s) : GW κ pc lv (u :: v :: st) s := fun ls H locs h hP hD hS => lv_dup2_11 B.1 B.2.1 hd hu hv (k ls H locs h hP hD hS)
theorem R_pop (B : Bs κ cc own nL d) {u : Value} (hd : decode cc pc = .ok (.pop, 1)) (hu : u.category = 1) (k : GW κ (pc + 1) lv st s) : GW κ pc lv (u :: st) s := fun ls H locs h hP hD hS => lv_pop B.1 B.2.1 hd hu (k ls H locs h hP hD hS)
theorem R_goto (B : Bs κ cc own nL d) {off : Int} (tgt : Nat) (hd : decode cc pc = .ok (.goto off, 3)) (ht : (pc : Int) + off = (tgt : Int)) (k : GW κ tgt lv st s) : GW κ pc lv st s := fun ls H locs h hP hD hS => lv_goto B.1 B.2.1 hd ht (k ls H locs h hP hD hS)
theorem R_if_eq {T1 T2 : Prop} (B : Bs κ cc own nL d) {u : Int32} {off : Int} (tgt : Nat) (hd : decode cc pc = .ok (.ifCond .eq off, 3)) (ht : (pc : Int) + off = (tgt : Int)) (hw : if u = 0 then T1 else T2) (k1 : T1 → GW κ tgt lv st s) (k2 : T2 → GW κ (pc + 3) lv st s) : GW κ pc lv (.int u :: st) s := fun ls H locs h hP hD hS => lv_if_eq B.1 B.2.1 hd ht (fun hc => k1 (it_t hc hw) ls H locs h hP hD hS) (fun hc => k2 (it_f hc hw) ls H locs h hP hD hS)
theorem R_icmp_eq {T1 T2 : Prop} (B : Bs κ cc own nL d) {u v : Int32} {off : Int} (tgt : Nat) (hd : decode cc pc = .ok (.if_icmp .eq off, 3)) (ht : (pc : Int) + off = (tgt : Int)) (hw : if u = v then T1 else T2) (k1 : T1 → GW κ tgt lv st s) (k2 : T2 → GW κ (pc + 3) lv st s) : GW κ pc lv (.int v :: .int u :: st) s := fun ls H locs h hP hD hS => lv_icmp_eq B.1 B.2.1 hd ht (fun hc => k1 (it_t hc hw) ls H locs h hP hD hS) (fun hc => k2 (it_f hc hw) ls H locs h hP hD hS)
theorem R_if_ne {T1 T2 : Prop} (B : Bs κ cc own nL d) {u : Int32} {off : Int} (tgt : Nat) (hd : decode cc pc = .ok (.ifCond .ne off, 3)) (ht : (pc : Int) + off = (tgt : Int)) (hw : if u = 0 then T2 else T1) (k1 : T1 → GW κ tgt lv st s) (k2 : T2 → GW κ (pc + 3) lv st s) : GW κ pc lv (.int u :: st) s := fun ls H locs h hP hD hS => lv_if_ne B.1 B.2.1 hd ht (fun hc => k1 (it_f hc hw) ls H locs h hP hD hS) (fun hc => k2 (it_t hc hw) ls H locs h hP hD hS)
theorem R_icmp_ne {T1 T2 : Prop} (B : Bs κ cc own nL d) {u v : Int32} {off : Int} (tgt : Nat) (hd : decode cc pc = .ok (.if_icmp .ne off, 3)) (ht : (pc : Int) + off = (tgt : Int)) (hw : if u = v then T2 else T1) (k1 : T1 → GW κ tgt lv st s) (k2 : T2 → GW κ (pc + 3) lv st s) : GW κ pc lv (.int v :: .int u :: st) s := fun ls H locs h hP hD hS => lv_icmp_ne B.1 B.2.1 hd ht (fun hc => k1 (it_f hc hw) ls H locs h hP hD hS) (fun hc => k2 (it_t hc hw) ls H locs h hP hD hS)
theorem R_if_lt {T1 T2 : Prop} (B : Bs κ cc own nL d) {u : Int32} {off : Int} (tgt : Nat) (hd : decode cc pc = .ok (.ifCond .lt off, 3)) (ht : (pc : Int) + off = (tgt : Int)) (hw : if u < 0 then T1 else T2) (k1 : T1 → GW κ tgt lv st s) (k2 : T2 → GW κ (pc + 3) lv st s) : GW κ pc lv (.int u :: st) s := fun ls H locs h hP hD hS => lv_if_lt B.1 B.2.1 hd ht (fun hc => k1 (it_t hc hw) ls H locs h hP hD hS) (fun hc => k2 (it_f hc hw) ls H locs h hP hD hS)
theorem R_icmp_lt {T1 T2 : Prop} (B : Bs κ cc own nL d) {u v : Int32} {off : Int} (tgt : Nat) (hd : decode cc pc = .ok (.if_icmp .lt off, 3)) (ht : (pc : Int) + off = (tgt : Int)) (hw : if u < v then T1 else T2) (k1 : T1 → GW κ tgt lv st s) (k2 : T2 → GW κ (pc + 3) lv st s) : GW κ pc lv (.int v :: .int u :: st) s := fun ls H locs h hP hD hS => lv_icmp_lt B.1 B.2.1 hd ht (fun hc => k1 (it_t hc hw) ls H locs h hP hD hS) (fun hc => k2 (it_f hc hw) ls H locs h hP hD hS)
theorem R_if_ge {T1 T2 : Prop} (B : Bs κ cc own nL d) {u : Int32} {off : Int} (tgt : Nat) (hd : decode cc pc = .ok (.ifCond .ge off, 3)) (ht : (pc : Int) + off = (tgt : Int)) (hw : if 0 ≤ u then T1 else T2) (k1 : T1 → GW κ tgt lv st s) (k2 : T2 → GW κ (pc + 3) lv st s) : GW κ pc lv (.int u :: st) s := fun ls H locs h hP hD hS => lv_if_ge B.1 B.2.1 hd ht (fun hc => k1 (it_t hc hw) ls H locs h hP hD hS) (fun hc => k2 (it_f hc hw) ls H locs h hP hD hS)
theorem R_icmp_ge {T1 T2 : Prop} (B : Bs κ cc own nL d) {u v : Int32} {off : Int} (tgt : Nat) (hd : decode cc pc = .ok (.if_icmp .ge off, 3)) (ht : (pc : Int) + off = (tgt : Int)) (hw : if v ≤ u then T1 else T2) (k1 : T1 → GW κ tgt lv st s) (k2 : T2 → GW κ (pc + 3) lv st s) : GW κ pc lv (.int v :: .int u :: st) s := fun ls H locs h hP hD hS => lv_icmp_ge B.1 B.2.1 hd ht (fun hc => k1 (it_t hc hw) ls H locs h hP hD hS) (fun hc => k2 (it_f hc hw) ls H locs h hP hD hS)
theorem R_if_gt {T1 T2 : Prop} (B : Bs κ cc own nL d) {u : Int32} {off : Int} (tgt : Nat) (hd : decode cc pc = .ok (.ifCond .gt off, 3)) (ht : (pc : Int) + off = (tgt : Int)) (hw : if 0 < u then T1 else T2) (k1 : T1 → GW κ tgt lv st s) (k2 : T2 → GW κ (pc + 3) lv st s) : GW κ pc lv (.int u :: st) s := fun ls H locs h hP hD hS => lv_if_gt B.1 B.2.1 hd ht (fun hc => k1 (it_t hc hw) ls H locs h hP hD hS) (fun hc => k2 (it_f hc hw) ls H locs h hP hD hS)
theorem R_icmp_gt {T1 T2 : Prop} (B : Bs κ cc own nL d) {u v : Int32} {off : Int} (tgt : Nat) (hd : decode cc pc = .ok (.if_icmp .gt off, 3)) (ht : (pc : Int) + off = (tgt : Int)) (hw : if v < u then T1 else T2) (k1 : T1 → GW κ tgt lv st s) (k2 : T2 → GW κ (pc + 3) lv st s) : GW κ pc lv (.int v :: .int u :: st) s := fun ls H locs h hP hD hS => lv_icmp_gt B.1 B.2.1 hd ht (fun hc => k1 (it_t hc hw) ls H locs h hP hD hS) (fun hc => k2 (it_f hc hw) ls H locs h hP hD hS)
theorem R_if_le {T1 T2 : Prop} (B : Bs κ cc own nL d) {u : Int32} {off : Int} (tgt : Nat) (hd : decode cc pc = .ok (.ifCond .le off, 3)) (ht : (pc : Int) + off = (tgt : Int)) (hw : if u ≤ 0 then T1 else T2) (k1 : T1 → GW κ tgt lv st s) (k2 : T2 → GW κ (pc + 3) lv st s) : GW κ pc lv (.int u :: st) s := fun ls H locs h hP hD hS => lv_if_le B.1 B.2.1 hd ht (fun hc => k1 (it_t hc hw) ls H locs h hP hD hS) (fun hc => k2 (it_f hc hw) ls H locs h hP hD hS)
theorem R_icmp_le {T1 T2 : Prop} (B : Bs κ cc own nL d) {u v : Int32} {off : Int} (tgt : Nat) (hd : decode cc pc = .ok (.if_icmp .le off, 3)) (ht : (pc : Int) + off = (tgt : Int)) (hw : if u ≤ v then T1 else T2) (k1 : T1 → GW κ tgt lv st s) (k2 : T2 → GW κ (pc + 3) lv st s) : GW κ pc lv (.int v :: .int u :: st) s := fun ls H locs h hP hD hS => lv_icmp_le B.1 B.2.1 hd ht (fun hc => k1 (it_t hc hw) ls H locs h hP hD hS) (fun hc => k2 (it_f hc hw) ls H locs h hP hD hS)
theorem R_ite {c T1 T2 G : Prop} [Decidable c] (hw : if c then T1 else T2) (k1 : c → T1 → G) (k2 : ¬ c → T2 → G) : G := by
  by_cases hc : c
  · exact k1 hc (it_t hc hw)
  · exact k2 hc (it_f hc hw)
theorem R_tabI (B : Bs κ cc own nL d) {dflt lo hi : Int} {offs : Array Int} {len : Nat} {u v : Int32} {off : Int} (tgt : Nat) (hd : decode cc pc = .ok (.tableswitch dflt lo hi offs, len)) (hu : u = v) (h1 : ¬ v.toInt < lo) (h2 : ¬ hi < v.toInt) (ho : offs[(v.toInt - lo).toNat]? = some off) (ht : (pc : Int) + off = (tgt : Int)) (k : GW κ tgt lv st s) : GW κ pc lv (.int u :: st) s := by
  subst hu
  exact fun ls H locs h hP hD hS => lv_tableIn B.1 B.2.1 hd h1 h2 ho ht (k ls H locs h hP hD hS)
theorem R_tabO (B : Bs κ cc own nL d) {dflt lo hi : Int} {offs : Array Int} {len : Nat} {u : Int32} (tgt : Nat) (hd : decode cc pc = .ok (.tableswitch dflt lo hi offs, len)) (h1 : u.toInt < lo ∨ hi < u.toInt) (ht : (pc : Int) + dflt = (tgt : Int)) (k : GW κ tgt lv st s) : GW κ pc lv (.int u :: st) s :=
  fun ls H locs h hP hD hS => lv_tableOut B.1 B.2.1 hd h1 ht (k ls H locs h hP hD hS)
theorem R_look (B : Bs κ cc own nL d) {dflt : Int} {ps : Array (Int × Int)} {len : Nat} {u : Int32} {off : Int} (tgt : Nat) (hd : decode cc pc = .ok (.lookupswitch dflt ps, len)) (hp : (ps.toList.zip (ps.toList.drop 1)).all (fun (a, next) => a.1 < next.1) = true) (ho : Op.lookupswitch.offset ps.toList dflt u.toInt = off) (ht : (pc : Int) + off = (tgt : Int)) (k : GW κ tgt lv st s) : GW κ pc lv (.int u :: st) s :=
  fun ls H locs h hP hD hS => lv_lookup B.1 B.2.1 hd hp ho ht (k ls H locs h hP hD hS)
-- fields
theorem R_getI (B : Bs κ cc own nL d) {q ci ix sl n N : Nat} {f : Cx → St → List Value} {C : String} {T : u_T} (O : OBd q ci f) (L : FL own ix ci C T N sl) (hv : ∀ x s, (f x s)[sl]? = some (.int (gF s n))) (hd : decode cc pc = .ok (.getfield ix, 3)) (k : GW κ (pc + 3) lv (.int (gF s n) :: st) s) : GW κ pc lv (.ref (xa (kx κ) q) :: st) s :=
  fun ls H locs h hP hD hS => va_get B.1 B.2.1 B.2.2.2.2.1 L.1 B.2.2.2.1 B.2.2.2.2.2.1 hP q (O _ _) L.2.1 sl L.2.2.1 (B.2.2.2.2.1 _ L.2.2.2) (fun _ h9 => h9) (hv _ _) hd (k ls H locs h hP hD hS)
theorem R_getR (B : Bs κ cc own nL d) {q ci ix sl q2 N : Nat} {f : Cx → St → List Value} {C : String} {T : u_T} (O : OBd q ci f) (L : FL own ix ci C T N sl) (hv : ∀ x s, (f x s)[sl]? = some (.ref (xa x q2))) (hd : decode cc pc = .ok (.getfield ix, 3)) (k : GW κ (pc + 3) lv (.ref (xa (kx κ) q2) :: st) s) : GW κ pc lv (.ref (xa (kx κ) q) :: st) s :=
  fun ls H locs h hP hD hS => va_get B.1 B.2.1 B.2.2.2.2.1 L.1 B.2.2.2.1 B.2.2.2.2.2.1 hP q (O _ _) L.2.1 sl L.2.2.1 (B.2.2.2.2.1 _ L.2.2.2) (fun _ h9 => h9) (hv _ _) hd (k ls H locs h hP hD hS)
theorem R_getIN (B : Bs κ cc own nL d) {q ci ix sl n N : Nat} {f : Cx → St → List Value} {C ho : String} {T : u_T} (O : OBd q ci f) (L : FLN own ix ci C T N sl ho) (hv : ∀ x s, (f x s)[sl]? = some (.int (gF s n))) (hd : decode cc pc = .ok (.getfield ix, 3)) (k : GW κ (pc + 3) lv (.int (gF s n) :: st) s) : GW κ pc lv (.ref (xa (kx κ) q) :: st) s :=
  fun ls H locs h hP hD hS => va_getN B.1 B.2.1 B.2.2.2.2.1 L.1 B.2.2.2.1 B.2.2.2.2.2.1 hP q (O _ _) L.2.1 sl L.2.2.1 (va_Nw.use rfl (B.2.2.2.2.2.2.1.1 _ L.2.2.2)) (fun _ h9 => h9) (hv _ _) hd (k ls H locs h hP hD hS)
theorem R_getRN (B : Bs κ cc own nL d) {q ci ix sl q2 N : Nat} {f : Cx → St → List Value} {C ho : String} {T : u_T} (O : OBd q ci f) (L : FLN own ix ci C T N sl ho) (hv : ∀ x s, (f x s)[sl]? = some (.ref (xa x q2))) (hd : decode cc pc = .ok (.getfield ix, 3)) (k : GW κ (pc + 3) lv (.ref (xa (kx κ) q2) :: st) s) : GW κ pc lv (.ref (xa (kx κ) q) :: st) s :=
  fun ls H locs h hP hD hS => va_getN B.1 B.2.1 B.2.2.2.2.1 L.1 B.2.2.2.1 B.2.2.2.2.2.1 hP q (O _ _) L.2.1 sl L.2.2.1 (va_Nw.use rfl (B.2.2.2.2.2.2.1.1 _ L.2.2.2)) (fun _ h9 => h9) (hv _ _) hd (k ls H locs h hP hD hS)
theorem R_put (B : Bs κ cc own nL d) {q ci ix sl n N : Nat} {f : Cx → St → List Value} {C : String} {T : u_T} {ty0 : Nat → FieldType} {ty : FieldType} {v : Int32} (O : OBd q ci f) (L : FL own ix ci C T N sl) (P : PLt T N ty0 sl ty) (hs : ∀ x s v, (wd x s).set q (xa x q, .inr (ci, (f x s).set sl (.int v))) = wd x (stF s n v)) (hl : ∀ x s, sl < (f x s).length) (hn : narrow ty (.int v) = .int v) (hf : fits ty (.int v) = true) (hd : decode cc pc = .ok (.putfield ix, 3)) (k : GW κ (pc + 3) lv st (stF s n v)) : GW κ pc lv (.int v :: .ref (xa (kx κ) q) :: st) s :=
  fun ls H locs h hP hD hS => va_put B.1 B.2.1 B.2.2.2.2.1 L.1 ty0 P.1 P.2.1 B.2.2.2.1 B.2.2.2.2.2.1 hP hD hS q (O _ _) L.2.1 sl L.2.2.1 (B.2.2.2.2.1 _ L.2.2.2) (fun _ h9 => h9) P.2.2.1 P.2.2.2 hn hf (hl _ _) hd (fun H1 locs1 hP hD hS => k ls H1 locs1 h (by rw [hs] at hP; exact hP) (by rw [hs] at hD; exact hD) hS)
-- arrays
theorem R_iald {T : Prop} (B : Bs κ cc own nL d) {q n : Nat} {i : Int32} (A : AWd q 0 n) (hd : decode cc pc = .ok (.iaload, 1)) (hw : vp_in i n ∧ T) (k : T → GW κ (pc + 1) lv (.int (gA s q i) :: st) s) : GW κ pc lv (.int i :: .ref (xa (kx κ) q) :: st) s :=
  fun ls H locs h hP hD hS => va_iald B.1 B.2.1 B.2.2.2.2.2.1 hP q 0 (A.1 _ _) rfl hw.1 hd (k hw.2 ls H locs h hP hD hS)
theorem R_zald {T : Prop} (B : Bs κ cc own nL d) {q n : Nat} {i : Int32} (A : AWd q 1 n) (hd : decode cc pc = .ok (.baload, 1)) (hw : vp_in i n ∧ T) (k : T → GW κ (pc + 1) lv (.int (gA s q i) :: st) s) : GW κ pc lv (.int i :: .ref (xa (kx κ) q) :: st) s :=
  fun ls H locs h hP hD hS => va_zald B.1 B.2.1 B.2.2.2.2.2.1 hP q 1 (A.1 _ _) rfl hw.1 hd (k hw.2 ls H locs h hP hD hS)
theorem R_bald {T : Prop} (B : Bs κ cc own nL d) {q n : Nat} {i : Int32} (A : AWd q 2 n) (hd : decode cc pc = .ok (.baload, 1)) (hw : vp_in i n ∧ T) (k : T → GW κ (pc + 1) lv (.int (gA s q i) :: st) s) : GW κ pc lv (.int i :: .ref (xa (kx κ) q) :: st) s :=
  fun ls H locs h hP hD hS => va_bald B.1 B.2.1 B.2.2.2.2.2.1 hP q 2 (A.1 _ _) rfl hw.1 hd (k hw.2 ls H locs h hP hD hS)
theorem R_iast {T : Prop} (B : Bs κ cc own nL d) {q n : Nat} {i v : Int32} (A : AWd q 0 n) (hd : decode cc pc = .ok (.iastore, 1)) (hw : vp_in i n ∧ T) (k : T → GW κ (pc + 1) lv st (stA s q i v)) : GW κ pc lv (.int v :: .int i :: .ref (xa (kx κ) q) :: st) s :=
  fun ls H locs h hP hD hS => va_iast B.1 B.2.1 B.2.2.2.2.2.1 hP hD hS q 0 (A.1 _ _) rfl hw.1 hd (fun H1 locs1 hP hD hS => k hw.2 ls H1 locs1 h (by rw [A.2] at hP; exact hP) (by rw [A.2] at hD; exact hD) hS)
theorem R_zast {T : Prop} (B : Bs κ cc own nL d) {q n : Nat} {i v : Int32} (A : AWd q 1 n) (hd : decode cc pc = .ok (.bastore, 1)) (hw : vp_in i n ∧ T) (k : T → GW κ (pc + 1) lv st (stA s q i (vp_nar .boolean v))) : GW κ pc lv (.int v :: .int i :: .ref (xa (kx κ) q) :: st) s :=
  fun ls H locs h hP hD hS => va_zast B.1 B.2.1 B.2.2.2.2.2.1 hP hD hS q 1 (A.1 _ _) rfl hw.1 hd (fun H1 locs1 hP hD hS => k hw.2 ls H1 locs1 h (by rw [A.2] at hP; exact hP) (by rw [A.2] at hD; exact hD) hS)
theorem R_bast {T : Prop} (B : Bs κ cc own nL d) {q n : Nat} {i v : Int32} (A : AWd q 2 n) (hd : decode cc pc = .ok (.bastore, 1)) (hw : vp_in i n ∧ T) (k : T → GW κ (pc + 1) lv st (stA s q i (vp_nar .byte v))) : GW κ pc lv (.int v :: .int i :: .ref (xa (kx κ) q) :: st) s :=
  fun ls H locs h hP hD hS => va_bast B.1 B.2.1 B.2.2.2.2.2.1 hP hD hS q 2 (A.1 _ _) rfl hw.1 hd (fun H1 locs1 hP hD hS => k hw.2 ls H1 locs1 h (by rw [A.2] at hP; exact hP) (by rw [A.2] at hD; exact hD) hS)
theorem R_alen (B : Bs κ cc own nL d) {q t n : Nat} {v : Int32} {ty : FieldType} (A : AWd q t n) (ht : ∀ x, (tyx x)[t]? = some (x.2.1 t, ty)) (hv : Int32.ofNat n = v) (hd : decode cc pc = .ok (.arraylength, 1)) (k : GW κ (pc + 1) lv (.int v :: st) s) : GW κ pc lv (.ref (xa (kx κ) q) :: st) s :=
  fun ls H locs h hP hD hS => va_alen B.1 B.2.1 B.2.2.2.2.2.1 hP q t (A.1 _ _) (ht _) hv hd (k ls H locs h hP hD hS)
end GR
/-- a method's contract over the one world: its room by the depth of its calls -/
def rmD (d : Nat) : Room := { frames := d, cells := 0, slots := 0, locals := 60 * d }
def PcW (x : Cx) (As : List Value) (s : St) (sz : Nat) : Array Value → State → Prop := va_Pc As (fun U => U.heap.size = sz ∧ va_P x.1 classes (wd x s) U.heap ∧ va_K x.1 classes (tyx x) U ∧ va_D (fun _ => True) (wd x s) ∧ EX x (AS x sz) U U.heap)
def BW (x : Cx) (sz : Nat) (s : St) (t : State) : Prop := va_P x.1 classes (wd x s) t.heap ∧ va_K x.1 classes (tyx x) t ∧ va_D (AS x sz) (wd x s)
theorem PcW.blind {x : Cx} {As : List Value} {s : St} {sz : Nat} : FrameBlind (PcW x As s sz) := by
  intro a U g mk q
  obtain ⟨q0, q1, q2, q3, q4, q5⟩ := q
  exact ⟨q0, q1, q2, va_K.moved (u := U) (U := U.calling g mk a) (Vm.Alike.refl U.vm) q3, q4, q5.same rfl⟩
def Ct (l : Launch) (x : Cx) (y : MethodName) (by_ : ByteArray) (maxL : Nat) (ret : Option FieldType) (d : Nat) (As : List Value) (s : St) (Q : Int32 → St → Prop) : Prop := ∀ sz : Nat, Met l y (.code y by_ maxL ret :: gws) (rmD d) (PcW x As s sz) (va_Qi Q (BW x sz) (AS x sz)) 0 0 (AS x sz)
def Cv (l : Launch) (x : Cx) (y : MethodName) (by_ : ByteArray) (maxL : Nat) (d : Nat) (As : List Value) (s : St) (Q : St → Prop) : Prop := ∀ sz : Nat, Met l y (.code y by_ maxL none :: gws) (rmD d) (PcW x As s sz) (va_Qv Q (BW x sz) (AS x sz)) 0 0 (AS x sz)
/-- facts of a method: its code, its class, its descriptor -/
def YF (y : MethodName) (by_ : ByteArray) (maxL : Nat) (ret : Option FieldType) (n : Nat) : Prop := Cond.code y by_ maxL ret ∈ gws ∧ Cond.initialized y.cls ∈ gws ∧ (y.cls ≠ "java/lang/invoke/MethodHandle" ∧ y.cls ≠ "java/lang/invoke/VarHandle" ∧ (parseMethodDescriptor y.desc).map (fun d => d.parameters.length) = some n) ∧ maxL ≤ 41 ∧ plainName y.cls = true
def IF (y : MethodName) : Prop := Cond.instanceMethod y ∈ gws ∧ Cond.selects y.cls y y ∈ gws
section GC
variable {κ : Kt} {cc : ByteArray} {own : String} {nL d : Nat} {pc : Nat} {lv lv' : List (Nat × Value)} {st st0 : List Value} {s : St}
variable {y : MethodName} {by_ : ByteArray} {maxL n d' ix q ci : Nat} {ret : Option FieldType} {As : List Value} {Qc : Nat → Array Value → State → Outcome → State → Prop}
abbrev RunG (κ : Kt) (pc : Nat) (lv : List (Nat × Value)) (st0 st : List Value) (s : St) (Qa : Nat → State → Outcome → State → Prop) : Prop := ∀ (ls : Array Slot) (H : Heap) (locs : List Loc), lv_has ls (kc κ).maxLocals lv → va_P (kx κ).1 classes (wd (kx κ) s) H → va_D (kA κ) (wd (kx κ) s) → va_S (kA κ) (ks κ).heap H locs →
  va_Run (kp κ) (kl κ) (ke κ) (kR κ) (ks κ) (km κ) (kar κ) (kbe κ) (kme κ) (kc κ) H locs (kcl κ) (ksl κ) 0 0 (F0 (km κ) pc ls st0) st (Qa H.size) (AS (kx κ) H.size)
theorem pre_at (B : Bs κ cc own nL d) {H : Heap} {locs : List Loc} (hP : va_P (kx κ).1 classes (wd (kx κ) s) H) (hD : va_D (kA κ) (wd (kx κ) s)) (hS : va_S (kA κ) (ks κ).heap H locs) : ∀ U : State, U.heap = H → (ks κ).WarmedH U.vm → PcW (kx κ) As s H.size As.toArray U := fun U hU hW =>
  ⟨rfl, by rw [hU], by rw [hU]; exact hP, va_K.moved hW.alike B.2.2.2.2.2.1, hD.weaken (fun _ _ _ _ => trivial), by rw [hU]; exact B.2.2.2.2.2.2.1.tr hW hS.2.1 (fun q h => h.mono hS.1)⟩
theorem room_at (B : Bs κ cc own nL d) (h1 : d' + 1 ≤ d) (h2 : maxL ≤ 41) : (rmD d').frames + 1 ≤ (kR κ).frames ∧ 8 + (maxL + 11) + (rmD d').locals ≤ (kR κ).locals := by
  obtain ⟨a, b⟩ := B.2.2.2.2.2.2.2.2.1
  constructor
  · show d' + 1 ≤ _; omega
  · show 8 + (maxL + 11) + 60 * d' ≤ _; omega
theorem run_V (B : Bs κ cc own nL d) {f : Cx → St → List Value} {T : u_T} {N : Nat} (Y : YF y by_ maxL ret n) (I : IF y) (L : Cond.methodLink own ix y ∈ gws) (O : OBd q ci f) (hc : classes[ci]? = some (y.cls, T, N)) (hM : ∀ sz, Met (kl κ) y (.code y by_ maxL ret :: gws) (rmD d') (PcW (kx κ) (.ref (xa (kx κ) q) :: As) s sz) (Qc sz) 0 0 (AS (kx κ) sz)) (hd : decode cc pc = .ok (.invokevirtual ix, 3)) (hdd : d' + 1 ≤ d) (hst : st0 = As.reverse ++ .ref (xa (kx κ) q) :: st) (hn : As.length = n) (hr : (st.map fun v => v.category).sum ≤ 8) : RunG κ pc lv st0 st s (fun sz => Qc sz (Value.ref (xa (kx κ) q) :: As).toArray) := by
  intro ls H locs h hP hD hS
  exact va_runV (nL := nL) ⟨B.1, B.2.1, B.2.2.1, B.2.2.2.1, B.2.2.2.2.1⟩ (hM H.size) ⟨callB_of n B.2.2.2.2.1 (good_ws Y.1) rfl rfl rfl (B.2.2.2.2.1 _ Y.2.1) (B.2.2.2.2.1 _ L) Y.2.2.1 (room_at B hdd Y.2.2.2.1), B.2.2.2.2.1 _ I.1, B.2.2.2.2.1 _ I.2⟩ ⟨PcW.blind, va_recv B.2.2.2.2.2.1 hP hc (O _ _), pre_at B hP hD hS⟩ rfl hn (B.2.2.1 ▸ h.1) hst (lv_room (ls := ls) (m := km κ) (pc := pc) (rest := st0) hr) hd ⟨B.2.2.2.2.2.2.2.2.2.1, B.2.2.2.2.2.2.2.2.2.2⟩
theorem run_VN (B : Bs κ cc own nL d) {f : Cx → St → List Value} {T : u_T} {N : Nat} {ho : String} (Y : YF y by_ maxL ret n) (I : IF y) (L : Cond.methodLinkNest own ix y ho ∈ nws) (O : OBd q ci f) (hc : classes[ci]? = some (y.cls, T, N)) (hM : ∀ sz, Met (kl κ) y (.code y by_ maxL ret :: gws) (rmD d') (PcW (kx κ) (.ref (xa (kx κ) q) :: As) s sz) (Qc sz) 0 0 (AS (kx κ) sz)) (hd : decode cc pc = .ok (.invokevirtual ix, 3)) (hdd : d' + 1 ≤ d) (hst : st0 = As.reverse ++ .ref (xa (kx κ) q) :: st) (hn : As.length = n) (hr : (st.map fun v => v.category).sum ≤ 8) : RunG κ pc lv st0 st s (fun sz => Qc sz (Value.ref (xa (kx κ) q) :: As).toArray) := by
  intro ls H locs h hP hD hS
  exact va_runVN (nL := nL) ⟨B.1, B.2.1, B.2.2.1, B.2.2.2.1, B.2.2.2.2.1⟩ (hM H.size) ⟨va_cnB n B.2.2.2.2.1 (good_ws Y.1) rfl rfl rfl (B.2.2.2.2.2.2.1.1 _ L) (B.2.2.2.2.1 _ Y.2.1) Y.2.2.1 (room_at B hdd Y.2.2.2.1), B.2.2.2.2.1 _ I.1, B.2.2.2.2.1 _ I.2⟩ ⟨PcW.blind, va_recv B.2.2.2.2.2.1 hP hc (O _ _), pre_at B hP hD hS⟩ rfl hn (B.2.2.1 ▸ h.1) hst (lv_room (ls := ls) (m := km κ) (pc := pc) (rest := st0) hr) hd ⟨B.2.2.2.2.2.2.2.2.2.1, B.2.2.2.2.2.2.2.2.2.2⟩
theorem run_S (B : Bs κ cc own nL d) (Y : YF y by_ maxL ret n) (I : Cond.static y ∈ gws) (L : Cond.methodLink own ix y ∈ gws) (hM : ∀ sz, Met (kl κ) y (.code y by_ maxL ret :: gws) (rmD d') (PcW (kx κ) As s sz) (Qc sz) 0 0 (AS (kx κ) sz)) (hd : decode cc pc = .ok (.invokestatic ix, 3)) (hdd : d' + 1 ≤ d) (hst : st0 = As.reverse ++ st) (hn : As.length = n) (hr : (st.map fun v => v.category).sum ≤ 8) : RunG κ pc lv st0 st s (fun sz => Qc sz As.toArray) := by
  intro ls H locs h hP hD hS
  exact va_runS (nL := nL) ⟨B.1, B.2.1, B.2.2.1, B.2.2.2.1, B.2.2.2.2.1⟩ (hM H.size) ⟨callB_of n B.2.2.2.2.1 (good_ws Y.1) rfl rfl rfl (B.2.2.2.2.1 _ Y.2.1) (B.2.2.2.2.1 _ L) Y.2.2.1 (room_at B hdd Y.2.2.2.1), B.2.2.2.2.1 _ I⟩ ⟨PcW.blind, pre_at B hP hD hS⟩ rfl hn (B.2.2.1 ▸ h.1) hst (lv_room (ls := ls) (m := km κ) (pc := pc) (rest := st0) hr) hd ⟨B.2.2.2.2.2.2.2.2.2.1, B.2.2.2.2.2.2.2.2.2.2⟩
theorem run_SN (B : Bs κ cc own nL d) {ho : String} (Y : YF y by_ maxL ret n) (I : Cond.static y ∈ gws) (L : Cond.methodLinkNest own ix y ho ∈ nws) (hM : ∀ sz, Met (kl κ) y (.code y by_ maxL ret :: gws) (rmD d') (PcW (kx κ) As s sz) (Qc sz) 0 0 (AS (kx κ) sz)) (hd : decode cc pc = .ok (.invokestatic ix, 3)) (hdd : d' + 1 ≤ d) (hst : st0 = As.reverse ++ st) (hn : As.length = n) (hr : (st.map fun v => v.category).sum ≤ 8) : RunG κ pc lv st0 st s (fun sz => Qc sz As.toArray) := by
  intro ls H locs h hP hD hS
  exact va_runSN (nL := nL) ⟨B.1, B.2.1, B.2.2.1, B.2.2.2.1, B.2.2.2.2.1⟩ (hM H.size) ⟨va_cnB n B.2.2.2.2.1 (good_ws Y.1) rfl rfl rfl (B.2.2.2.2.2.2.1.1 _ L) (B.2.2.2.2.1 _ Y.2.1) Y.2.2.1 (room_at B hdd Y.2.2.2.1), B.2.2.2.2.1 _ I, trivial⟩ ⟨PcW.blind, pre_at B hP hD hS⟩ rfl hn (B.2.2.1 ▸ h.1) hst (lv_room (ls := ls) (m := km κ) (pc := pc) (rest := st0) hr) hd ⟨B.2.2.2.2.2.2.2.2.2.1, B.2.2.2.2.2.2.2.2.2.2⟩
theorem R_ci {Q : Int32 → St → Prop} {a : Array Value} (hr : RunG κ pc lv st0 st s (fun sz => va_Qi Q (BW (kx κ) sz) (AS (kx κ) sz) a)) (k : ∀ (r : Int32) (s' : St), Q r s' → GW κ (pc + 3) lv (.int r :: st) s') : GW κ pc lv st0 s := by
  intro ls H locs h hP hD hS
  refine va_calli (hr ls H locs h hP hD hS) hS (fun q _ h => h.mono hS.1) (fun q h => h.mono hS.1) (fun r u t H1 locs1 ht hvm hw hB hz1 hk1 hS1 => ?_)
  obtain ⟨hP1, hK1, hD1⟩ := hB
  rw [ht] at hP1
  exact k r u hw ls H1 locs1 h hP1 (hD1.weaken (fun _ _ _ h => h.mono hS.1)) hS1
theorem R_cv {Q : St → Prop} {a : Array Value} (hr : RunG κ pc lv st0 st s (fun sz => va_Qv Q (BW (kx κ) sz) (AS (kx κ) sz) a)) (k : ∀ (s' : St), Q s' → GW κ (pc + 3) lv st s') : GW κ pc lv st0 s := by
  intro ls H locs h hP hD hS
  refine va_callv (hr ls H locs h hP hD hS) hS (fun q _ h => h.mono hS.1) (fun q h => h.mono hS.1) (fun u t H1 locs1 ht hvm hw hB hz1 hk1 hS1 => ?_)
  obtain ⟨hP1, hK1, hD1⟩ := hB
  rw [ht] at hP1
  exact k u hw ls H1 locs1 h hP1 (hD1.weaken (fun _ _ _ h => h.mono hS.1)) hS1
end GC
/-- the end of a method that answers an int, and of one that answers nothing -/
def qfI (x : Cx) (be : List Frame) (ar : Array Value) (s0 : State) (Q : Int32 → St → Prop) : State → Prop := MQ be (va_Qi Q (BW x s0.heap.size) (AS x s0.heap.size)) ar s0 0 0 (AS x s0.heap.size)
def qfV (x : Cx) (be : List Frame) (ar : Array Value) (s0 : State) (Q : St → Prop) : State → Prop := MQ be (va_Qv Q (BW x s0.heap.size) (AS x s0.heap.size)) ar s0 0 0 (AS x s0.heap.size)
/-- a frame whose end is such a one -/
def BI (κ : Kt) (ret : Option FieldType) (Q : Int32 → St → Prop) : Prop := kQ κ = qfI (kx κ) (kbe κ) (kar κ) (ks κ) Q ∧ kcl κ = 0 ∧ ksl κ = 0 ∧ (kme κ).sig.returnType = ret
def BV (κ : Kt) (Q : St → Prop) : Prop := kQ κ = qfV (kx κ) (kbe κ) (kar κ) (ks κ) Q ∧ kcl κ = 0 ∧ ksl κ = 0 ∧ (kme κ).sig.returnType = none
theorem R_iret {κ : Kt} {cc : ByteArray} {own : String} {nL d pc : Nat} {lv : List (Nat × Value)} {s : St} {v : Int32} {Q : Int32 → St → Prop} (B : Bs κ cc own nL d) (E : BI κ (some .int) Q) (hd : decode cc pc = .ok (.ireturn, 1)) (hw : Q v s) : GW κ pc lv [.int v] s := by
  intro ls H locs h hP hD hS
  obtain ⟨p, l, e, R, s0, m, ar, be, me, c, x, QF, cl, sl⟩ := κ
  obtain ⟨e1, e2, e3, e4⟩ := E
  dsimp only [kQ, kcl, ksl, kx, kbe, kar, ks, kme] at e1 e2 e3 e4
  subst e1; subst e2; subst e3
  exact W.iret B.1 B.2.1 e4 (fun t ht hW => ⟨⟨v, s, rfl, hw, by rw [ht]; exact hP, va_K.moved hW.alike B.2.2.2.2.2.1, hD⟩, hS.F ht⟩) hS.2.2 hd B.2.2.2.2.2.2.2.1
theorem R_zret {κ : Kt} {cc : ByteArray} {own : String} {nL d pc : Nat} {lv : List (Nat × Value)} {s : St} {v : Int32} {ty : FieldType} {Q : Int32 → St → Prop} (B : Bs κ cc own nL d) (E : BI κ (some ty) Q) (hd : decode cc pc = .ok (.ireturn, 1)) (hw : narrow ty (.int v) = .int v ∧ Q v s) : GW κ pc lv [.int v] s := by
  intro ls H locs h hP hD hS
  obtain ⟨p, l, e, R, s0, m, ar, be, me, c, x, QF, cl, sl⟩ := κ
  obtain ⟨e1, e2, e3, e4⟩ := E
  dsimp only [kQ, kcl, ksl, kx, kbe, kar, ks, kme] at e1 e2 e3 e4
  subst e1; subst e2; subst e3
  exact W.zret B.1 B.2.1 e4 hw.1 (fun t ht hW => ⟨⟨v, s, rfl, hw.2, by rw [ht]; exact hP, va_K.moved hW.alike B.2.2.2.2.2.1, hD⟩, hS.F ht⟩) hS.2.2 hd B.2.2.2.2.2.2.2.1
theorem R_vret {κ : Kt} {cc : ByteArray} {own : String} {nL d pc : Nat} {lv : List (Nat × Value)} {s : St} {Q : St → Prop} (B : Bs κ cc own nL d) (E : BV κ Q) (hd : decode cc pc = .ok (.return_, 1)) (hw : Q s) : GW κ pc lv [] s := by
  intro ls H locs h hP hD hS
  obtain ⟨p, l, e, R, s0, m, ar, be, me, c, x, QF, cl, sl⟩ := κ
  obtain ⟨e1, e2, e3, e4⟩ := E
  dsimp only [kQ, kcl, ksl, kx, kbe, kar, ks, kme] at e1 e2 e3 e4
  subst e1; subst e2; subst e3
  exact W.vret B.1 B.2.1 e4 (fun t ht hW => ⟨⟨s, rfl, hw, by rw [ht]; exact hP, va_K.moved hW.alike B.2.2.2.2.2.1, hD⟩, hS.F ht⟩) hS.2.2 hd B.2.2.2.2.2.2.2.1
theorem Ct.of {l : Launch} {x : Cx} {y : MethodName} {by_ : ByteArray} {maxL n d : Nat} {ret : Option FieldType} {As : List Value} {s : St} {Q : Int32 → St → Prop} (Y : YF y by_ maxL ret n) (hL : (lg_sl As).length ≤ maxL)
    (h : ∀ κ : Kt, Bs κ by_ y.cls maxL d → BI κ ret Q → kx κ = x → kl κ = l → GW κ 0 (lv_args 0 As) [] s) : Ct l x y by_ maxL ret d As s Q := by
  intro sz
  refine Met.ofW (cc := by_) (maxL := maxL) (ret := ret) Y.2.2.2.2 rfl ?_
  intro p e s0 m args below meth c s₁ B hml hv
  obtain ⟨rfl, rfl, hP, hK, hD0, hE⟩ := hv
  have hts := atoms_spec (ws := .code y by_ maxL ret :: gws) B.pre
  have hl := lv_entry As (n := maxL) hL
  rw [lg_entry_eq]
  generalize (lg_sl As ++ List.replicate (maxL - (lg_sl As).length) Slot.unset).toArray = ls at hl ⊢
  exact h (p, l, e, rmD d, s0, m, As.toArray, below, meth, c, x, qfI x below As.toArray s0 Q, 0, 0) ⟨B.exec, B.bytes, hml, findClass_of_methodNamed B.named, fun w hw => hts w (List.mem_cons_of_mem _ hw), hK, hE, B.notSynchronized, ⟨Nat.le_refl d, Nat.le_refl (60 * d)⟩, Nat.zero_le _, Nat.zero_le _⟩ ⟨rfl, rfl, rfl, B.returns⟩ rfl rfl ls s0.heap [] (hml ▸ hl) hP (wd_AS hD0) va_S.rf
theorem Cv.of {l : Launch} {x : Cx} {y : MethodName} {by_ : ByteArray} {maxL n d : Nat} {As : List Value} {s : St} {Q : St → Prop} (Y : YF y by_ maxL none n) (hL : (lg_sl As).length ≤ maxL)
    (h : ∀ κ : Kt, Bs κ by_ y.cls maxL d → BV κ Q → kx κ = x → kl κ = l → GW κ 0 (lv_args 0 As) [] s) : Cv l x y by_ maxL d As s Q := by
  intro sz
  refine Met.ofW (cc := by_) (maxL := maxL) (ret := none) Y.2.2.2.2 rfl ?_
  intro p e s0 m args below meth c s₁ B hml hv
  obtain ⟨rfl, rfl, hP, hK, hD0, hE⟩ := hv
  have hts := atoms_spec (ws := .code y by_ maxL none :: gws) B.pre
  have hl := lv_entry As (n := maxL) hL
  rw [lg_entry_eq]
  generalize (lg_sl As ++ List.replicate (maxL - (lg_sl As).length) Slot.unset).toArray = ls at hl ⊢
  exact h (p, l, e, rmD d, s0, m, As.toArray, below, meth, c, x, qfV x below As.toArray s0 Q, 0, 0) ⟨B.exec, B.bytes, hml, findClass_of_methodNamed B.named, fun w hw => hts w (List.mem_cons_of_mem _ hw), hK, hE, B.notSynchronized, ⟨Nat.le_refl d, Nat.le_refl (60 * d)⟩, Nat.zero_le _, Nat.zero_le _⟩ ⟨rfl, rfl, rfl, B.returns⟩ rfl rfl ls s0.heap [] (hml ▸ hl) hP (wd_AS hD0) va_S.rf
