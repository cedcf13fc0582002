/-! the fixed things, the state, the one world -/
abbrev Cx : Type := va_G × (Nat → ClassId) × (Nat → Nat) × (Nat → Nat) × (Nat → Nat) × (Nat → Nat)
abbrev xa (x : Cx) : Nat → Nat := x.2.2.1
abbrev xK (x : Cx) : Nat → Nat := x.2.2.2.1
abbrev xV (x : Cx) : Nat → Nat := x.2.2.2.2.1
abbrev xT (x : Cx) : Nat → Nat := x.2.2.2.2.2
abbrev St : Type := (Nat → Int32) × (Nat → Nat → Int32)
def gF (s : St) (k : Nat) : Int32 := s.1 k
def gA (s : St) (k : Nat) (i : Int32) : Int32 := s.2 k i.toNatClampNeg
def stF (s : St) (k : Nat) (v : Int32) : St := (va_up s.1 k v, s.2)
def stC (s : St) (k : Nat) (f : Nat → Int32) : St := (s.1, va_up s.2 k f)
def stA (s : St) (k : Nat) (i : Int32) (v : Int32) : St := stC s k (upd (s.2 k) i.toNatClampNeg v)
def ofs_0 (x : Cx) (s : St) : List Value := [.ref (xa x 1), .ref (xa x 7), .ref (xa x 11), .ref (xa x 13), .ref (xa x 17), .ref (xa x 21), .ref (xa x 24)]
def ofs_1 (x : Cx) (s : St) : List Value := [.int (gF s 100), .ref (xa x 2), .ref (xa x 3), .ref (xa x 4), .ref (xa x 5), .ref (xa x 6)]
def ofs_7 (x : Cx) (s : St) : List Value := [.ref (xa x 8), .int (gF s 701), .int (gF s 702), .ref (xa x 9), .ref (xa x 10), .int (gF s 705), .int (gF s 706), .int (gF s 707), .int (gF s 708)]
def ofs_11 (x : Cx) (s : St) : List Value := [.ref (xa x 12)]
def ofs_13 (x : Cx) (s : St) : List Value := [.ref (xa x 14), .ref (xa x 15), .ref (xa x 16), .int (gF s 1303)]
def ofs_17 (x : Cx) (s : St) : List Value := [.ref (xa x 18), .ref (xa x 19), .ref (xa x 20)]
def ofs_21 (x : Cx) (s : St) : List Value := [.ref (xa x 22), .ref (xa x 23), .int (gF s 2102)]
def ofs_24 (x : Cx) (s : St) : List Value := [.int (gF s 2400), .ref (xa x 25), .ref (xa x 26), .ref (xa x 27), .ref (xa x 28), .ref (xa x 29)]
def ofs_30 (x : Cx) (s : St) : List Value := [.int (gF s 3000), .ref (xa x 31), .ref (xa x 32), .ref (xa x 33), .ref (xa x 34), .ref (xa x 35), .ref (xa x 36), .ref (xa x 37), .ref (xa x 38), .int (gF s 3009), .int (gF s 3010), .ref (xa x 39), .ref (xa x 40), .int (gF s 3013), .int (gF s 3014), .int (gF s 3015), .int (gF s 3016), .int (gF s 3017), .int (gF s 3018), .ref (xa x 41), .ref (xa x 42), .ref (xa x 43), .ref (xa x 44), .ref (xa x 45), .ref (xa x 46), .ref (xa x 47), .ref (xa x 48), .ref (xa x 49), .int (gF s 3028), .ref (xa x 50), .ref (xa x 51), .int (gF s 3031)]
def nCells : Nat := 52
def wd (x : Cx) (s : St) : va_W := [(xa x 0, .inr (7, ofs_0 x s)), (xa x 1, .inr (2, ofs_1 x s)), (xa x 2, .inl (x.2.1 1, 16, .inl (s.2 2))), (xa x 3, .inl (x.2.1 1, 16, .inl (s.2 3))), (xa x 4, .inl (x.2.1 0, 16, .inl (s.2 4))), (xa x 5, .inl (x.2.1 0, 16, .inl (s.2 5))), (xa x 6, .inl (x.2.1 0, 16, .inl (s.2 6))), (xa x 7, .inr (5, ofs_7 x s)), (xa x 8, .inl (x.2.1 2, 100, .inl (s.2 8))), (xa x 9, .inl (x.2.1 0, 4, .inl (s.2 9))), (xa x 10, .inl (x.2.1 0, 4, .inl (s.2 10))), (xa x 11, .inr (0, ofs_11 x s)), (xa x 12, .inl (x.2.1 0, 384, .inl (s.2 12))), (xa x 13, .inr (3, ofs_13 x s)), (xa x 14, .inl (x.2.1 0, 16, .inl (s.2 14))), (xa x 15, .inl (x.2.1 0, 16, .inl (s.2 15))), (xa x 16, .inl (x.2.1 0, 16, .inl (s.2 16))), (xa x 17, .inr (4, ofs_17 x s)), (xa x 18, .inl (x.2.1 0, 4, .inl (s.2 18))), (xa x 19, .inl (x.2.1 0, 4, .inl (s.2 19))), (xa x 20, .inl (x.2.1 0, 240, .inl (s.2 20))), (xa x 21, .inr (6, ofs_21 x s)), (xa x 22, .inl (x.2.1 0, 256, .inl (s.2 22))), (xa x 23, .inl (x.2.1 0, 1024, .inl (s.2 23))), (xa x 24, .inr (1, ofs_24 x s)), (xa x 25, .inl (x.2.1 0, 8, .inl (s.2 25))), (xa x 26, .inl (x.2.1 0, 8, .inl (s.2 26))), (xa x 27, .inl (x.2.1 0, 8, .inl (s.2 27))), (xa x 28, .inl (x.2.1 0, 8, .inl (s.2 28))), (xa x 29, .inl (x.2.1 0, 8, .inl (s.2 29))), (xa x 30, .inr (8, ofs_30 x s)), (xa x 31, .inl (x.2.1 1, 16, .inl (s.2 31))), (xa x 32, .inl (x.2.1 0, 16, .inl (s.2 32))), (xa x 33, .inl (x.2.1 1, 16, .inl (s.2 33))), (xa x 34, .inl (x.2.1 1, 256, .inl (s.2 34))), (xa x 35, .inl (x.2.1 1, 256, .inl (s.2 35))), (xa x 36, .inl (x.2.1 0, 256, .inl (s.2 36))), (xa x 37, .inl (x.2.1 0, 384, .inl (s.2 37))), (xa x 38, .inl (x.2.1 0, 100, .inl (s.2 38))), (xa x 39, .inl (x.2.1 0, 4, .inl (s.2 39))), (xa x 40, .inl (x.2.1 0, 4, .inl (s.2 40))), (xa x 41, .inl (x.2.1 1, 256, .inl (s.2 41))), (xa x 42, .inl (x.2.1 0, 16, .inl (s.2 42))), (xa x 43, .inl (x.2.1 1, 16, .inl (s.2 43))), (xa x 44, .inl (x.2.1 0, 16, .inl (s.2 44))), (xa x 45, .inl (x.2.1 0, 16, .inl (s.2 45))), (xa x 46, .inl (x.2.1 0, 4, .inl (s.2 46))), (xa x 47, .inl (x.2.1 0, 4, .inl (s.2 47))), (xa x 48, .inl (x.2.1 0, 240, .inl (s.2 48))), (xa x 49, .inl (x.2.1 0, 1024, .inl (s.2 49))), (xa x 50, .inl (x.2.1 0, 8, .inl (s.2 50))), (xa x 51, .inl (x.2.1 0, 9, .inl (s.2 51)))]
theorem wd_fst (x : Cx) (s : St) : (wd x s).map Prod.fst = (List.range nCells).map (xa x) := rfl
theorem wd_ad {x : Cx} {s : St} {k : Nat} {q : Nat × va_E} (h : (wd x s)[k]? = some q) : ∃ j : Nat, j < nCells ∧ q.1 = xa x j := by
  have h1 : ((wd x s).map Prod.fst)[k]? = some q.1 := by rw [List.getElem?_map, h]; rfl
  rw [wd_fst, List.getElem?_map] at h1
  cases hr : (List.range nCells)[k]? with
  | none => rw [hr] at h1; cases h1
  | some j =>
    rw [hr] at h1
    exact ⟨j, List.mem_range.mp (List.mem_of_getElem? hr), (Option.some.inj h1).symm⟩
def OBd (q ci : Nat) (f : Cx → St → List Value) : Prop := ∀ x s, (wd x s)[q]? = some (xa x q, .inr (ci, f x s))
def AWd (q t n : Nat) : Prop := (∀ x s, (wd x s)[q]? = some (xa x q, .inl (x.2.1 t, n, .inl (s.2 q)))) ∧ ∀ x s f, (wd x s).set q (xa x q, .inl (x.2.1 t, n, .inl f)) = wd x (stC s q f)
def FL (own : String) (ix ci : Nat) (C : String) (T : u_T) (N sl : Nat) : Prop := (∀ w ∈ u_ws C T N, w ∈ gws) ∧ classes[ci]? = some (C, T, N) ∧ sl < N ∧ Cond.fieldLink own ix (T sl).1 (T sl).2.1 (T sl).2.2.1 ∈ gws
def FLN (own : String) (ix ci : Nat) (C : String) (T : u_T) (N sl : Nat) (ho : String) : Prop := (∀ w ∈ u_ws C T N, w ∈ gws) ∧ classes[ci]? = some (C, T, N) ∧ sl < N ∧ Cond.fieldLinkNest own ix (T sl).1 (T sl).2.1 (T sl).2.2.1 ho ∈ nws
def PLt (T : u_T) (N : Nat) (ty0 : Nat → FieldType) (sl : Nat) (ty : FieldType) : Prop := (∀ k, k < N → parseFieldDescriptor (T k).2.2.1 = some (ty0 k)) ∧ (∀ a, a < N → ∀ b, b < N → a ≠ b → (T a).2.1 ≠ (T b).2.1) ∧ (T sl).2.2.2 = false ∧ parseFieldDescriptor (T sl).2.2.1 = some ty
theorem ob_0 : OBd 0 7 ofs_0 := fun _ _ => rfl
theorem fv_0_0 : ∀ x s, (ofs_0 x s)[0]? = some (.ref (xa x 1)) := fun _ _ => rfl
theorem fv_0_1 : ∀ x s, (ofs_0 x s)[1]? = some (.ref (xa x 7)) := fun _ _ => rfl
theorem fv_0_2 : ∀ x s, (ofs_0 x s)[2]? = some (.ref (xa x 11)) := fun _ _ => rfl
theorem fv_0_3 : ∀ x s, (ofs_0 x s)[3]? = some (.ref (xa x 13)) := fun _ _ => rfl
theorem fv_0_4 : ∀ x s, (ofs_0 x s)[4]? = some (.ref (xa x 17)) := fun _ _ => rfl
theorem fv_0_5 : ∀ x s, (ofs_0 x s)[5]? = some (.ref (xa x 21)) := fun _ _ => rfl
theorem fv_0_6 : ∀ x s, (ofs_0 x s)[6]? = some (.ref (xa x 24)) := fun _ _ => rfl
theorem fn_0 : ∀ x s, (ofs_0 x s).length = 7 := fun _ _ => rfl
theorem ob_1 : OBd 1 2 ofs_1 := fun _ _ => rfl
theorem fv_1_0 : ∀ x s, (ofs_1 x s)[0]? = some (.int (gF s 100)) := fun _ _ => rfl
theorem fs_1_0 : ∀ x s v, (wd x s).set 1 (xa x 1, .inr (2, (ofs_1 x s).set 0 (.int v))) = wd x (stF s 100 v) := fun _ _ _ => rfl
theorem fv_1_1 : ∀ x s, (ofs_1 x s)[1]? = some (.ref (xa x 2)) := fun _ _ => rfl
theorem fv_1_2 : ∀ x s, (ofs_1 x s)[2]? = some (.ref (xa x 3)) := fun _ _ => rfl
theorem fv_1_3 : ∀ x s, (ofs_1 x s)[3]? = some (.ref (xa x 4)) := fun _ _ => rfl
theorem fv_1_4 : ∀ x s, (ofs_1 x s)[4]? = some (.ref (xa x 5)) := fun _ _ => rfl
theorem fv_1_5 : ∀ x s, (ofs_1 x s)[5]? = some (.ref (xa x 6)) := fun _ _ => rfl
theorem fn_1 : ∀ x s, (ofs_1 x s).length = 6 := fun _ _ => rfl
theorem ob_7 : OBd 7 5 ofs_7 := fun _ _ => rfl
theorem fv_7_0 : ∀ x s, (ofs_7 x s)[0]? = some (.ref (xa x 8)) := fun _ _ => rfl
theorem fv_7_1 : ∀ x s, (ofs_7 x s)[1]? = some (.int (gF s 701)) := fun _ _ => rfl
theorem fs_7_1 : ∀ x s v, (wd x s).set 7 (xa x 7, .inr (5, (ofs_7 x s).set 1 (.int v))) = wd x (stF s 701 v) := fun _ _ _ => rfl
theorem fv_7_2 : ∀ x s, (ofs_7 x s)[2]? = some (.int (gF s 702)) := fun _ _ => rfl
theorem fs_7_2 : ∀ x s v, (wd x s).set 7 (xa x 7, .inr (5, (ofs_7 x s).set 2 (.int v))) = wd x (stF s 702 v) := fun _ _ _ => rfl
theorem fv_7_3 : ∀ x s, (ofs_7 x s)[3]? = some (.ref (xa x 9)) := fun _ _ => rfl
theorem fv_7_4 : ∀ x s, (ofs_7 x s)[4]? = some (.ref (xa x 10)) := fun _ _ => rfl
theorem fv_7_5 : ∀ x s, (ofs_7 x s)[5]? = some (.int (gF s 705)) := fun _ _ => rfl
theorem fs_7_5 : ∀ x s v, (wd x s).set 7 (xa x 7, .inr (5, (ofs_7 x s).set 5 (.int v))) = wd x (stF s 705 v) := fun _ _ _ => rfl
theorem fv_7_6 : ∀ x s, (ofs_7 x s)[6]? = some (.int (gF s 706)) := fun _ _ => rfl
theorem fs_7_6 : ∀ x s v, (wd x s).set 7 (xa x 7, .inr (5, (ofs_7 x s).set 6 (.int v))) = wd x (stF s 706 v) := fun _ _ _ => rfl
theorem fv_7_7 : ∀ x s, (ofs_7 x s)[7]? = some (.int (gF s 707)) := fun _ _ => rfl
theorem fs_7_7 : ∀ x s v, (wd x s).set 7 (xa x 7, .inr (5, (ofs_7 x s).set 7 (.int v))) = wd x (stF s 707 v) := fun _ _ _ => rfl
theorem fv_7_8 : ∀ x s, (ofs_7 x s)[8]? = some (.int (gF s 708)) := fun _ _ => rfl
theorem fs_7_8 : ∀ x s v, (wd x s).set 7 (xa x 7, .inr (5, (ofs_7 x s).set 8 (.int v))) = wd x (stF s 708 v) := fun _ _ _ => rfl
theorem fn_7 : ∀ x s, (ofs_7 x s).length = 9 := fun _ _ => rfl
theorem ob_11 : OBd 11 0 ofs_11 := fun _ _ => rfl
theorem fv_11_0 : ∀ x s, (ofs_11 x s)[0]? = some (.ref (xa x 12)) := fun _ _ => rfl
theorem fn_11 : ∀ x s, (ofs_11 x s).length = 1 := fun _ _ => rfl
theorem ob_13 : OBd 13 3 ofs_13 := fun _ _ => rfl
theorem fv_13_0 : ∀ x s, (ofs_13 x s)[0]? = some (.ref (xa x 14)) := fun _ _ => rfl
theorem fv_13_1 : ∀ x s, (ofs_13 x s)[1]? = some (.ref (xa x 15)) := fun _ _ => rfl
theorem fv_13_2 : ∀ x s, (ofs_13 x s)[2]? = some (.ref (xa x 16)) := fun _ _ => rfl
theorem fv_13_3 : ∀ x s, (ofs_13 x s)[3]? = some (.int (gF s 1303)) := fun _ _ => rfl
theorem fs_13_3 : ∀ x s v, (wd x s).set 13 (xa x 13, .inr (3, (ofs_13 x s).set 3 (.int v))) = wd x (stF s 1303 v) := fun _ _ _ => rfl
theorem fn_13 : ∀ x s, (ofs_13 x s).length = 4 := fun _ _ => rfl
theorem ob_17 : OBd 17 4 ofs_17 := fun _ _ => rfl
theorem fv_17_0 : ∀ x s, (ofs_17 x s)[0]? = some (.ref (xa x 18)) := fun _ _ => rfl
theorem fv_17_1 : ∀ x s, (ofs_17 x s)[1]? = some (.ref (xa x 19)) := fun _ _ => rfl
theorem fv_17_2 : ∀ x s, (ofs_17 x s)[2]? = some (.ref (xa x 20)) := fun _ _ => rfl
theorem fn_17 : ∀ x s, (ofs_17 x s).length = 3 := fun _ _ => rfl
theorem ob_21 : OBd 21 6 ofs_21 := fun _ _ => rfl
theorem fv_21_0 : ∀ x s, (ofs_21 x s)[0]? = some (.ref (xa x 22)) := fun _ _ => rfl
theorem fv_21_1 : ∀ x s, (ofs_21 x s)[1]? = some (.ref (xa x 23)) := fun _ _ => rfl
theorem fv_21_2 : ∀ x s, (ofs_21 x s)[2]? = some (.int (gF s 2102)) := fun _ _ => rfl
theorem fs_21_2 : ∀ x s v, (wd x s).set 21 (xa x 21, .inr (6, (ofs_21 x s).set 2 (.int v))) = wd x (stF s 2102 v) := fun _ _ _ => rfl
theorem fn_21 : ∀ x s, (ofs_21 x s).length = 3 := fun _ _ => rfl
theorem ob_24 : OBd 24 1 ofs_24 := fun _ _ => rfl
theorem fv_24_0 : ∀ x s, (ofs_24 x s)[0]? = some (.int (gF s 2400)) := fun _ _ => rfl
theorem fs_24_0 : ∀ x s v, (wd x s).set 24 (xa x 24, .inr (1, (ofs_24 x s).set 0 (.int v))) = wd x (stF s 2400 v) := fun _ _ _ => rfl
theorem fv_24_1 : ∀ x s, (ofs_24 x s)[1]? = some (.ref (xa x 25)) := fun _ _ => rfl
theorem fv_24_2 : ∀ x s, (ofs_24 x s)[2]? = some (.ref (xa x 26)) := fun _ _ => rfl
theorem fv_24_3 : ∀ x s, (ofs_24 x s)[3]? = some (.ref (xa x 27)) := fun _ _ => rfl
theorem fv_24_4 : ∀ x s, (ofs_24 x s)[4]? = some (.ref (xa x 28)) := fun _ _ => rfl
theorem fv_24_5 : ∀ x s, (ofs_24 x s)[5]? = some (.ref (xa x 29)) := fun _ _ => rfl
theorem fn_24 : ∀ x s, (ofs_24 x s).length = 6 := fun _ _ => rfl
theorem ob_30 : OBd 30 8 ofs_30 := fun _ _ => rfl
theorem fv_30_0 : ∀ x s, (ofs_30 x s)[0]? = some (.int (gF s 3000)) := fun _ _ => rfl
theorem fs_30_0 : ∀ x s v, (wd x s).set 30 (xa x 30, .inr (8, (ofs_30 x s).set 0 (.int v))) = wd x (stF s 3000 v) := fun _ _ _ => rfl
theorem fv_30_1 : ∀ x s, (ofs_30 x s)[1]? = some (.ref (xa x 31)) := fun _ _ => rfl
theorem fv_30_2 : ∀ x s, (ofs_30 x s)[2]? = some (.ref (xa x 32)) := fun _ _ => rfl
theorem fv_30_3 : ∀ x s, (ofs_30 x s)[3]? = some (.ref (xa x 33)) := fun _ _ => rfl
theorem fv_30_4 : ∀ x s, (ofs_30 x s)[4]? = some (.ref (xa x 34)) := fun _ _ => rfl
theorem fv_30_5 : ∀ x s, (ofs_30 x s)[5]? = some (.ref (xa x 35)) := fun _ _ => rfl
theorem fv_30_6 : ∀ x s, (ofs_30 x s)[6]? = some (.ref (xa x 36)) := fun _ _ => rfl
theorem fv_30_7 : ∀ x s, (ofs_30 x s)[7]? = some (.ref (xa x 37)) := fun _ _ => rfl
theorem fv_30_8 : ∀ x s, (ofs_30 x s)[8]? = some (.ref (xa x 38)) := fun _ _ => rfl
theorem fv_30_9 : ∀ x s, (ofs_30 x s)[9]? = some (.int (gF s 3009)) := fun _ _ => rfl
theorem fs_30_9 : ∀ x s v, (wd x s).set 30 (xa x 30, .inr (8, (ofs_30 x s).set 9 (.int v))) = wd x (stF s 3009 v) := fun _ _ _ => rfl
theorem fv_30_10 : ∀ x s, (ofs_30 x s)[10]? = some (.int (gF s 3010)) := fun _ _ => rfl
theorem fs_30_10 : ∀ x s v, (wd x s).set 30 (xa x 30, .inr (8, (ofs_30 x s).set 10 (.int v))) = wd x (stF s 3010 v) := fun _ _ _ => rfl
theorem fv_30_11 : ∀ x s, (ofs_30 x s)[11]? = some (.ref (xa x 39)) := fun _ _ => rfl
theorem fv_30_12 : ∀ x s, (ofs_30 x s)[12]? = some (.ref (xa x 40)) := fun _ _ => rfl
theorem fv_30_13 : ∀ x s, (ofs_30 x s)[13]? = some (.int (gF s 3013)) := fun _ _ => rfl
theorem fs_30_13 : ∀ x s v, (wd x s).set 30 (xa x 30, .inr (8, (ofs_30 x s).set 13 (.int v))) = wd x (stF s 3013 v) := fun _ _ _ => rfl
theorem fv_30_14 : ∀ x s, (ofs_30 x s)[14]? = some (.int (gF s 3014)) := fun _ _ => rfl
theorem fs_30_14 : ∀ x s v, (wd x s).set 30 (xa x 30, .inr (8, (ofs_30 x s).set 14 (.int v))) = wd x (stF s 3014 v) := fun _ _ _ => rfl
theorem fv_30_15 : ∀ x s, (ofs_30 x s)[15]? = some (.int (gF s 3015)) := fun _ _ => rfl
theorem fs_30_15 : ∀ x s v, (wd x s).set 30 (xa x 30, .inr (8, (ofs_30 x s).set 15 (.int v))) = wd x (stF s 3015 v) := fun _ _ _ => rfl
theorem fv_30_16 : ∀ x s, (ofs_30 x s)[16]? = some (.int (gF s 3016)) := fun _ _ => rfl
theorem fs_30_16 : ∀ x s v, (wd x s).set 30 (xa x 30, .inr (8, (ofs_30 x s).set 16 (.int v))) = wd x (stF s 3016 v) := fun _ _ _ => rfl
theorem fv_30_17 : ∀ x s, (ofs_30 x s)[17]? = some (.int (gF s 3017)) := fun _ _ => rfl
theorem fs_30_17 : ∀ x s v, (wd x s).set 30 (xa x 30, .inr (8, (ofs_30 x s).set 17 (.int v))) = wd x (stF s 3017 v) := fun _ _ _ => rfl
theorem fv_30_18 : ∀ x s, (ofs_30 x s)[18]? = some (.int (gF s 3018)) := fun _ _ => rfl
theorem fs_30_18 : ∀ x s v, (wd x s).set 30 (xa x 30, .inr (8, (ofs_30 x s).set 18 (.int v))) = wd x (stF s 3018 v) := fun _ _ _ => rfl
theorem fv_30_19 : ∀ x s, (ofs_30 x s)[19]? = some (.ref (xa x 41)) := fun _ _ => rfl
theorem fv_30_20 : ∀ x s, (ofs_30 x s)[20]? = some (.ref (xa x 42)) := fun _ _ => rfl
theorem fv_30_21 : ∀ x s, (ofs_30 x s)[21]? = some (.ref (xa x 43)) := fun _ _ => rfl
theorem fv_30_22 : ∀ x s, (ofs_30 x s)[22]? = some (.ref (xa x 44)) := fun _ _ => rfl
theorem fv_30_23 : ∀ x s, (ofs_30 x s)[23]? = some (.ref (xa x 45)) := fun _ _ => rfl
theorem fv_30_24 : ∀ x s, (ofs_30 x s)[24]? = some (.ref (xa x 46)) := fun _ _ => rfl
theorem fv_30_25 : ∀ x s, (ofs_30 x s)[25]? = some (.ref (xa x 47)) := fun _ _ => rfl
theorem fv_30_26 : ∀ x s, (ofs_30 x s)[26]? = some (.ref (xa x 48)) := fun _ _ => rfl
theorem fv_30_27 : ∀ x s, (ofs_30 x s)[27]? = some (.ref (xa x 49)) := fun _ _ => rfl
theorem fv_30_28 : ∀ x s, (ofs_30 x s)[28]? = some (.int (gF s 3028)) := fun _ _ => rfl
theorem fs_30_28 : ∀ x s v, (wd x s).set 30 (xa x 30, .inr (8, (ofs_30 x s).set 28 (.int v))) = wd x (stF s 3028 v) := fun _ _ _ => rfl
theorem fv_30_29 : ∀ x s, (ofs_30 x s)[29]? = some (.ref (xa x 50)) := fun _ _ => rfl
theorem fv_30_30 : ∀ x s, (ofs_30 x s)[30]? = some (.ref (xa x 51)) := fun _ _ => rfl
theorem fv_30_31 : ∀ x s, (ofs_30 x s)[31]? = some (.int (gF s 3031)) := fun _ _ => rfl
theorem fs_30_31 : ∀ x s v, (wd x s).set 30 (xa x 30, .inr (8, (ofs_30 x s).set 31 (.int v))) = wd x (stF s 3031 v) := fun _ _ _ => rfl
theorem fn_30 : ∀ x s, (ofs_30 x s).length = 32 := fun _ _ => rfl
theorem aw_2 : AWd 2 1 16 := ⟨fun _ _ => rfl, fun _ _ _ => rfl⟩
theorem aw_3 : AWd 3 1 16 := ⟨fun _ _ => rfl, fun _ _ _ => rfl⟩
theorem aw_4 : AWd 4 0 16 := ⟨fun _ _ => rfl, fun _ _ _ => rfl⟩
theorem aw_5 : AWd 5 0 16 := ⟨fun _ _ => rfl, fun _ _ _ => rfl⟩
theorem aw_6 : AWd 6 0 16 := ⟨fun _ _ => rfl, fun _ _ _ => rfl⟩
theorem aw_8 : AWd 8 2 100 := ⟨fun _ _ => rfl, fun _ _ _ => rfl⟩
theorem aw_9 : AWd 9 0 4 := ⟨fun _ _ => rfl, fun _ _ _ => rfl⟩
theorem aw_10 : AWd 10 0 4 := ⟨fun _ _ => rfl, fun _ _ _ => rfl⟩
theorem aw_12 : AWd 12 0 384 := ⟨fun _ _ => rfl, fun _ _ _ => rfl⟩
theorem aw_14 : AWd 14 0 16 := ⟨fun _ _ => rfl, fun _ _ _ => rfl⟩
theorem aw_15 : AWd 15 0 16 := ⟨fun _ _ => rfl, fun _ _ _ => rfl⟩
theorem aw_16 : AWd 16 0 16 := ⟨fun _ _ => rfl, fun _ _ _ => rfl⟩
theorem aw_18 : AWd 18 0 4 := ⟨fun _ _ => rfl, fun _ _ _ => rfl⟩
theorem aw_19 : AWd 19 0 4 := ⟨fun _ _ => rfl, fun _ _ _ => rfl⟩
theorem aw_20 : AWd 20 0 240 := ⟨fun _ _ => rfl, fun _ _ _ => rfl⟩
theorem aw_22 : AWd 22 0 256 := ⟨fun _ _ => rfl, fun _ _ _ => rfl⟩
theorem aw_23 : AWd 23 0 1024 := ⟨fun _ _ => rfl, fun _ _ _ => rfl⟩
theorem aw_25 : AWd 25 0 8 := ⟨fun _ _ => rfl, fun _ _ _ => rfl⟩
theorem aw_26 : AWd 26 0 8 := ⟨fun _ _ => rfl, fun _ _ _ => rfl⟩
theorem aw_27 : AWd 27 0 8 := ⟨fun _ _ => rfl, fun _ _ _ => rfl⟩
theorem aw_28 : AWd 28 0 8 := ⟨fun _ _ => rfl, fun _ _ _ => rfl⟩
theorem aw_29 : AWd 29 0 8 := ⟨fun _ _ => rfl, fun _ _ _ => rfl⟩
theorem aw_31 : AWd 31 1 16 := ⟨fun _ _ => rfl, fun _ _ _ => rfl⟩
theorem aw_32 : AWd 32 0 16 := ⟨fun _ _ => rfl, fun _ _ _ => rfl⟩
theorem aw_33 : AWd 33 1 16 := ⟨fun _ _ => rfl, fun _ _ _ => rfl⟩
theorem aw_34 : AWd 34 1 256 := ⟨fun _ _ => rfl, fun _ _ _ => rfl⟩
theorem aw_35 : AWd 35 1 256 := ⟨fun _ _ => rfl, fun _ _ _ => rfl⟩
theorem aw_36 : AWd 36 0 256 := ⟨fun _ _ => rfl, fun _ _ _ => rfl⟩
theorem aw_37 : AWd 37 0 384 := ⟨fun _ _ => rfl, fun _ _ _ => rfl⟩
theorem aw_38 : AWd 38 0 100 := ⟨fun _ _ => rfl, fun _ _ _ => rfl⟩
theorem aw_39 : AWd 39 0 4 := ⟨fun _ _ => rfl, fun _ _ _ => rfl⟩
theorem aw_40 : AWd 40 0 4 := ⟨fun _ _ => rfl, fun _ _ _ => rfl⟩
theorem aw_41 : AWd 41 1 256 := ⟨fun _ _ => rfl, fun _ _ _ => rfl⟩
theorem aw_42 : AWd 42 0 16 := ⟨fun _ _ => rfl, fun _ _ _ => rfl⟩
theorem aw_43 : AWd 43 1 16 := ⟨fun _ _ => rfl, fun _ _ _ => rfl⟩
theorem aw_44 : AWd 44 0 16 := ⟨fun _ _ => rfl, fun _ _ _ => rfl⟩
theorem aw_45 : AWd 45 0 16 := ⟨fun _ _ => rfl, fun _ _ _ => rfl⟩
theorem aw_46 : AWd 46 0 4 := ⟨fun _ _ => rfl, fun _ _ _ => rfl⟩
theorem aw_47 : AWd 47 0 4 := ⟨fun _ _ => rfl, fun _ _ _ => rfl⟩
theorem aw_48 : AWd 48 0 240 := ⟨fun _ _ => rfl, fun _ _ _ => rfl⟩
theorem aw_49 : AWd 49 0 1024 := ⟨fun _ _ => rfl, fun _ _ _ => rfl⟩
theorem aw_50 : AWd 50 0 8 := ⟨fun _ _ => rfl, fun _ _ _ => rfl⟩
theorem aw_51 : AWd 51 0 9 := ⟨fun _ _ => rfl, fun _ _ _ => rfl⟩
