/-! the nine constructors -/
theorem wg_22 : (Jvm.Cond.code ({ cls := "DanceCards", name := "<init>", desc := "()V" } : Jvm.MethodName) prog_1_method_1_code (1 : Nat) (Option.none : Option Jvm.ClassFile.FieldType)) ∈ gws := mem_g (i := 22) (by decide +kernel) (by decide +kernel)
theorem wg_23 : (Jvm.Cond.methodLink "DanceCards" (1 : Nat) ({ cls := "java/lang/Object", name := "<init>", desc := "()V" } : Jvm.MethodName)) ∈ gws := mem_g (i := 23) (by decide +kernel) (by decide +kernel)
theorem wg_24 : (Jvm.Cond.instanceMethod ({ cls := "java/lang/Object", name := "<init>", desc := "()V" } : Jvm.MethodName)) ∈ gws := mem_g (i := 24) (by decide +kernel) (by decide +kernel)
theorem wg_25 : (Jvm.Cond.code ({ cls := "java/lang/Object", name := "<init>", desc := "()V" } : Jvm.MethodName) object_method_1_code (1 : Nat) (Option.none : Option Jvm.ClassFile.FieldType)) ∈ gws := mem_g (i := 25) (by decide +kernel) (by decide +kernel)
theorem wg_26 : (Jvm.Cond.classLink "DanceCards" (7 : Nat) "DanceCards$Guests") ∈ gws := mem_g (i := 26) (by decide +kernel) (by decide +kernel)
theorem wg_27 : (Jvm.Cond.instantiable "DanceCards$Guests" (6 : Nat)) ∈ gws := mem_g (i := 27) (by decide +kernel) (by decide +kernel)
theorem wg_29 : (Jvm.Cond.instanceMethod ({ cls := "DanceCards$Guests", name := "<init>", desc := "()V" } : Jvm.MethodName)) ∈ gws := mem_g (i := 29) (by decide +kernel) (by decide +kernel)
theorem wg_30 : (Jvm.Cond.code ({ cls := "DanceCards$Guests", name := "<init>", desc := "()V" } : Jvm.MethodName) prog_4_method_1_code (1 : Nat) (Option.none : Option Jvm.ClassFile.FieldType)) ∈ gws := mem_g (i := 30) (by decide +kernel) (by decide +kernel)
theorem wg_31 : (Jvm.Cond.methodLink "DanceCards$Guests" (3 : Nat) ({ cls := "java/lang/Object", name := "<init>", desc := "()V" } : Jvm.MethodName)) ∈ gws := mem_g (i := 31) (by decide +kernel) (by decide +kernel)
theorem wg_52 : (Jvm.Cond.arrayClass Jvm.ClassFile.FieldType.boolean) ∈ gws := mem_g (i := 52) (by decide +kernel) (by decide +kernel)
theorem wg_53 : (Jvm.Cond.arrayClass Jvm.ClassFile.FieldType.int) ∈ gws := mem_g (i := 53) (by decide +kernel) (by decide +kernel)
theorem wg_54 : (Jvm.Cond.classLink "DanceCards" (16 : Nat) "DanceCards$Tape") ∈ gws := mem_g (i := 54) (by decide +kernel) (by decide +kernel)
theorem wg_55 : (Jvm.Cond.instantiable "DanceCards$Tape" (9 : Nat)) ∈ gws := mem_g (i := 55) (by decide +kernel) (by decide +kernel)
theorem wg_57 : (Jvm.Cond.instanceMethod ({ cls := "DanceCards$Tape", name := "<init>", desc := "()V" } : Jvm.MethodName)) ∈ gws := mem_g (i := 57) (by decide +kernel) (by decide +kernel)
theorem wg_58 : (Jvm.Cond.code ({ cls := "DanceCards$Tape", name := "<init>", desc := "()V" } : Jvm.MethodName) prog_7_method_1_code (1 : Nat) (Option.none : Option Jvm.ClassFile.FieldType)) ∈ gws := mem_g (i := 58) (by decide +kernel) (by decide +kernel)
theorem wg_59 : (Jvm.Cond.methodLink "DanceCards$Tape" (3 : Nat) ({ cls := "java/lang/Object", name := "<init>", desc := "()V" } : Jvm.MethodName)) ∈ gws := mem_g (i := 59) (by decide +kernel) (by decide +kernel)
theorem wg_94 : (Jvm.Cond.arrayClass Jvm.ClassFile.FieldType.byte) ∈ gws := mem_g (i := 94) (by decide +kernel) (by decide +kernel)
theorem wg_95 : (Jvm.Cond.classLink "DanceCards" (23 : Nat) "DanceCards$Cards") ∈ gws := mem_g (i := 95) (by decide +kernel) (by decide +kernel)
theorem wg_96 : (Jvm.Cond.instantiable "DanceCards$Cards" (1 : Nat)) ∈ gws := mem_g (i := 96) (by decide +kernel) (by decide +kernel)
theorem wg_98 : (Jvm.Cond.instanceMethod ({ cls := "DanceCards$Cards", name := "<init>", desc := "()V" } : Jvm.MethodName)) ∈ gws := mem_g (i := 98) (by decide +kernel) (by decide +kernel)
theorem wg_99 : (Jvm.Cond.code ({ cls := "DanceCards$Cards", name := "<init>", desc := "()V" } : Jvm.MethodName) prog_2_method_1_code (1 : Nat) (Option.none : Option Jvm.ClassFile.FieldType)) ∈ gws := mem_g (i := 99) (by decide +kernel) (by decide +kernel)
theorem wg_100 : (Jvm.Cond.methodLink "DanceCards$Cards" (3 : Nat) ({ cls := "java/lang/Object", name := "<init>", desc := "()V" } : Jvm.MethodName)) ∈ gws := mem_g (i := 100) (by decide +kernel) (by decide +kernel)
theorem wg_101 : (Jvm.Cond.methodLink "DanceCards$Cards" (15 : Nat) ({ cls := "java/util/Arrays", name := "fill", desc := "([II)V" } : Jvm.MethodName)) ∈ gws := mem_g (i := 101) (by decide +kernel) (by decide +kernel)
theorem wg_106 : (Jvm.Cond.classLink "DanceCards" (30 : Nat) "DanceCards$Pairing") ∈ gws := mem_g (i := 106) (by decide +kernel) (by decide +kernel)
theorem wg_107 : (Jvm.Cond.instantiable "DanceCards$Pairing" (4 : Nat)) ∈ gws := mem_g (i := 107) (by decide +kernel) (by decide +kernel)
theorem wg_109 : (Jvm.Cond.instanceMethod ({ cls := "DanceCards$Pairing", name := "<init>", desc := "()V" } : Jvm.MethodName)) ∈ gws := mem_g (i := 109) (by decide +kernel) (by decide +kernel)
theorem wg_110 : (Jvm.Cond.code ({ cls := "DanceCards$Pairing", name := "<init>", desc := "()V" } : Jvm.MethodName) prog_5_method_1_code (1 : Nat) (Option.none : Option Jvm.ClassFile.FieldType)) ∈ gws := mem_g (i := 110) (by decide +kernel) (by decide +kernel)
theorem wg_111 : (Jvm.Cond.methodLink "DanceCards$Pairing" (3 : Nat) ({ cls := "java/lang/Object", name := "<init>", desc := "()V" } : Jvm.MethodName)) ∈ gws := mem_g (i := 111) (by decide +kernel) (by decide +kernel)
theorem wg_126 : (Jvm.Cond.classLink "DanceCards" (37 : Nat) "DanceCards$Papers") ∈ gws := mem_g (i := 126) (by decide +kernel) (by decide +kernel)
theorem wg_127 : (Jvm.Cond.instantiable "DanceCards$Papers" (3 : Nat)) ∈ gws := mem_g (i := 127) (by decide +kernel) (by decide +kernel)
theorem wg_129 : (Jvm.Cond.instanceMethod ({ cls := "DanceCards$Papers", name := "<init>", desc := "()V" } : Jvm.MethodName)) ∈ gws := mem_g (i := 129) (by decide +kernel) (by decide +kernel)
theorem wg_130 : (Jvm.Cond.code ({ cls := "DanceCards$Papers", name := "<init>", desc := "()V" } : Jvm.MethodName) prog_6_method_1_code (1 : Nat) (Option.none : Option Jvm.ClassFile.FieldType)) ∈ gws := mem_g (i := 130) (by decide +kernel) (by decide +kernel)
theorem wg_131 : (Jvm.Cond.methodLink "DanceCards$Papers" (3 : Nat) ({ cls := "java/lang/Object", name := "<init>", desc := "()V" } : Jvm.MethodName)) ∈ gws := mem_g (i := 131) (by decide +kernel) (by decide +kernel)
theorem wg_132 : (Jvm.Cond.methodLink "DanceCards$Papers" (21 : Nat) ({ cls := "java/util/Arrays", name := "fill", desc := "([II)V" } : Jvm.MethodName)) ∈ gws := mem_g (i := 132) (by decide +kernel) (by decide +kernel)
theorem wg_145 : (Jvm.Cond.classLink "DanceCards" (44 : Nat) "DanceCards$Wishes") ∈ gws := mem_g (i := 145) (by decide +kernel) (by decide +kernel)
theorem wg_146 : (Jvm.Cond.instantiable "DanceCards$Wishes" (3 : Nat)) ∈ gws := mem_g (i := 146) (by decide +kernel) (by decide +kernel)
theorem wg_148 : (Jvm.Cond.instanceMethod ({ cls := "DanceCards$Wishes", name := "<init>", desc := "()V" } : Jvm.MethodName)) ∈ gws := mem_g (i := 148) (by decide +kernel) (by decide +kernel)
theorem wg_149 : (Jvm.Cond.code ({ cls := "DanceCards$Wishes", name := "<init>", desc := "()V" } : Jvm.MethodName) prog_8_method_1_code (1 : Nat) (Option.none : Option Jvm.ClassFile.FieldType)) ∈ gws := mem_g (i := 149) (by decide +kernel) (by decide +kernel)
theorem wg_150 : (Jvm.Cond.methodLink "DanceCards$Wishes" (3 : Nat) ({ cls := "java/lang/Object", name := "<init>", desc := "()V" } : Jvm.MethodName)) ∈ gws := mem_g (i := 150) (by decide +kernel) (by decide +kernel)
theorem wg_161 : (Jvm.Cond.classLink "DanceCards" (51 : Nat) "DanceCards$Grouping") ∈ gws := mem_g (i := 161) (by decide +kernel) (by decide +kernel)
theorem wg_162 : (Jvm.Cond.instantiable "DanceCards$Grouping" (6 : Nat)) ∈ gws := mem_g (i := 162) (by decide +kernel) (by decide +kernel)
theorem wg_164 : (Jvm.Cond.instanceMethod ({ cls := "DanceCards$Grouping", name := "<init>", desc := "()V" } : Jvm.MethodName)) ∈ gws := mem_g (i := 164) (by decide +kernel) (by decide +kernel)
theorem wg_165 : (Jvm.Cond.code ({ cls := "DanceCards$Grouping", name := "<init>", desc := "()V" } : Jvm.MethodName) prog_3_method_1_code (1 : Nat) (Option.none : Option Jvm.ClassFile.FieldType)) ∈ gws := mem_g (i := 165) (by decide +kernel) (by decide +kernel)
theorem wg_166 : (Jvm.Cond.methodLink "DanceCards$Grouping" (3 : Nat) ({ cls := "java/lang/Object", name := "<init>", desc := "()V" } : Jvm.MethodName)) ∈ gws := mem_g (i := 166) (by decide +kernel) (by decide +kernel)
theorem wg_761 : (Jvm.Cond.code ({ cls := "DanceCardsModel", name := "<init>", desc := "()V" } : Jvm.MethodName) prog_10_method_1_code (1 : Nat) (Option.none : Option Jvm.ClassFile.FieldType)) ∈ gws := mem_g (i := 761) (by decide +kernel) (by decide +kernel)
theorem wg_762 : (Jvm.Cond.methodLink "DanceCardsModel" (1 : Nat) ({ cls := "java/lang/Object", name := "<init>", desc := "()V" } : Jvm.MethodName)) ∈ gws := mem_g (i := 762) (by decide +kernel) (by decide +kernel)
theorem wn_28 : (Jvm.Cond.methodLinkNest "DanceCards" (9 : Nat) ({ cls := "DanceCards$Guests", name := "<init>", desc := "()V" } : Jvm.MethodName) "DanceCards") ∈ nws := mem_n (i := 28) (by decide +kernel) (by decide +kernel)
theorem wn_56 : (Jvm.Cond.methodLinkNest "DanceCards" (18 : Nat) ({ cls := "DanceCards$Tape", name := "<init>", desc := "()V" } : Jvm.MethodName) "DanceCards") ∈ nws := mem_n (i := 56) (by decide +kernel) (by decide +kernel)
theorem wn_97 : (Jvm.Cond.methodLinkNest "DanceCards" (25 : Nat) ({ cls := "DanceCards$Cards", name := "<init>", desc := "()V" } : Jvm.MethodName) "DanceCards") ∈ nws := mem_n (i := 97) (by decide +kernel) (by decide +kernel)
theorem wn_108 : (Jvm.Cond.methodLinkNest "DanceCards" (32 : Nat) ({ cls := "DanceCards$Pairing", name := "<init>", desc := "()V" } : Jvm.MethodName) "DanceCards") ∈ nws := mem_n (i := 108) (by decide +kernel) (by decide +kernel)
theorem wn_128 : (Jvm.Cond.methodLinkNest "DanceCards" (39 : Nat) ({ cls := "DanceCards$Papers", name := "<init>", desc := "()V" } : Jvm.MethodName) "DanceCards") ∈ nws := mem_n (i := 128) (by decide +kernel) (by decide +kernel)
theorem wn_147 : (Jvm.Cond.methodLinkNest "DanceCards" (46 : Nat) ({ cls := "DanceCards$Wishes", name := "<init>", desc := "()V" } : Jvm.MethodName) "DanceCards") ∈ nws := mem_n (i := 147) (by decide +kernel) (by decide +kernel)
theorem wn_163 : (Jvm.Cond.methodLinkNest "DanceCards" (53 : Nat) ({ cls := "DanceCards$Grouping", name := "<init>", desc := "()V" } : Jvm.MethodName) "DanceCards") ∈ nws := mem_n (i := 163) (by decide +kernel) (by decide +kernel)
theorem w_obj : Cond.code objectInit ⟨#[0xb1]⟩ 1 none ∈ gws := wg_25
theorem yf_X0_init : YF yX0_init cX0_init 1 none 0 := ⟨wg_99, wg_5, ⟨by decide +kernel, by decide +kernel, by decide +kernel⟩, by decide, by decide +kernel⟩
theorem yf_X1_init : YF yX1_init cX1_init 1 none 0 := ⟨wg_165, wg_9, ⟨by decide +kernel, by decide +kernel, by decide +kernel⟩, by decide, by decide +kernel⟩
theorem yf_X2_init : YF yX2_init cX2_init 1 none 0 := ⟨wg_30, wg_2, ⟨by decide +kernel, by decide +kernel, by decide +kernel⟩, by decide, by decide +kernel⟩
theorem yf_X3_init : YF yX3_init cX3_init 1 none 0 := ⟨wg_110, wg_6, ⟨by decide +kernel, by decide +kernel, by decide +kernel⟩, by decide, by decide +kernel⟩
theorem yf_X4_init : YF yX4_init cX4_init 1 none 0 := ⟨wg_130, wg_7, ⟨by decide +kernel, by decide +kernel, by decide +kernel⟩, by decide, by decide +kernel⟩
theorem yf_X5_init : YF yX5_init cX5_init 1 none 0 := ⟨wg_58, wg_3, ⟨by decide +kernel, by decide +kernel, by decide +kernel⟩, by decide, by decide +kernel⟩
theorem yf_X6_init : YF yX6_init cX6_init 1 none 0 := ⟨wg_149, wg_8, ⟨by decide +kernel, by decide +kernel, by decide +kernel⟩, by decide, by decide +kernel⟩
theorem yf_X7_init : YF yX7_init cX7_init 1 none 0 := ⟨wg_22, wg_1, ⟨by decide +kernel, by decide +kernel, by decide +kernel⟩, by decide, by decide +kernel⟩
theorem yf_X8_init : YF yX8_init cX8_init 1 none 0 := ⟨wg_761, wg_10, ⟨by decide +kernel, by decide +kernel, by decide +kernel⟩, by decide, by decide +kernel⟩
theorem sp_240 : (Int16.ofInt (240)).toInt32 = (240 : Int32) := by decide +kernel
theorem sp_384 : (Int16.ofInt (384)).toInt32 = (384 : Int32) := by decide +kernel
theorem dX2_init_0 : decode cX2_init 0 = .ok (.aload_n 0, 1) := by decide +kernel
theorem dX2_init_1 : decode cX2_init 1 = .ok (.invokespecial 3, 3) := by decide +kernel
theorem dX2_init_4 : decode cX2_init 4 = .ok (.aload_n 0, 1) := by decide +kernel
theorem dX2_init_5 : decode cX2_init 5 = .ok (.bipush 16, 2) := by decide +kernel
theorem dX2_init_7 : decode cX2_init 7 = .ok (.newarray .boolean, 2) := by decide +kernel
theorem dX2_init_9 : decode cX2_init 9 = .ok (.putfield 9, 3) := by decide +kernel
theorem dX2_init_12 : decode cX2_init 12 = .ok (.aload_n 0, 1) := by decide +kernel
theorem dX2_init_13 : decode cX2_init 13 = .ok (.bipush 16, 2) := by decide +kernel
theorem dX2_init_15 : decode cX2_init 15 = .ok (.newarray .boolean, 2) := by decide +kernel
theorem dX2_init_17 : decode cX2_init 17 = .ok (.putfield 15, 3) := by decide +kernel
theorem dX2_init_20 : decode cX2_init 20 = .ok (.aload_n 0, 1) := by decide +kernel
theorem dX2_init_21 : decode cX2_init 21 = .ok (.bipush 16, 2) := by decide +kernel
theorem dX2_init_23 : decode cX2_init 23 = .ok (.newarray .int, 2) := by decide +kernel
theorem dX2_init_25 : decode cX2_init 25 = .ok (.putfield 18, 3) := by decide +kernel
theorem dX2_init_28 : decode cX2_init 28 = .ok (.aload_n 0, 1) := by decide +kernel
theorem dX2_init_29 : decode cX2_init 29 = .ok (.bipush 16, 2) := by decide +kernel
theorem dX2_init_31 : decode cX2_init 31 = .ok (.newarray .int, 2) := by decide +kernel
theorem dX2_init_33 : decode cX2_init 33 = .ok (.putfield 22, 3) := by decide +kernel
theorem dX2_init_36 : decode cX2_init 36 = .ok (.aload_n 0, 1) := by decide +kernel
theorem dX2_init_37 : decode cX2_init 37 = .ok (.bipush 16, 2) := by decide +kernel
theorem dX2_init_39 : decode cX2_init 39 = .ok (.newarray .int, 2) := by decide +kernel
theorem dX2_init_41 : decode cX2_init 41 = .ok (.putfield 25, 3) := by decide +kernel
theorem dX2_init_44 : decode cX2_init 44 = .ok (.return_, 1) := by decide +kernel
theorem dX5_init_0 : decode cX5_init 0 = .ok (.aload_n 0, 1) := by decide +kernel
theorem dX5_init_1 : decode cX5_init 1 = .ok (.invokespecial 3, 3) := by decide +kernel
theorem dX5_init_4 : decode cX5_init 4 = .ok (.aload_n 0, 1) := by decide +kernel
theorem dX5_init_5 : decode cX5_init 5 = .ok (.bipush 100, 2) := by decide +kernel
theorem dX5_init_7 : decode cX5_init 7 = .ok (.newarray .byte, 2) := by decide +kernel
theorem dX5_init_9 : decode cX5_init 9 = .ok (.putfield 11, 3) := by decide +kernel
theorem dX5_init_12 : decode cX5_init 12 = .ok (.aload_n 0, 1) := by decide +kernel
theorem dX5_init_13 : decode cX5_init 13 = .ok (.iconst 4, 1) := by decide +kernel
theorem dX5_init_14 : decode cX5_init 14 = .ok (.newarray .int, 2) := by decide +kernel
theorem dX5_init_16 : decode cX5_init 16 = .ok (.putfield 15, 3) := by decide +kernel
theorem dX5_init_19 : decode cX5_init 19 = .ok (.aload_n 0, 1) := by decide +kernel
theorem dX5_init_20 : decode cX5_init 20 = .ok (.iconst 4, 1) := by decide +kernel
theorem dX5_init_21 : decode cX5_init 21 = .ok (.newarray .int, 2) := by decide +kernel
theorem dX5_init_23 : decode cX5_init 23 = .ok (.putfield 19, 3) := by decide +kernel
theorem dX5_init_26 : decode cX5_init 26 = .ok (.aload_n 0, 1) := by decide +kernel
theorem dX5_init_27 : decode cX5_init 27 = .ok (.getfield 15, 3) := by decide +kernel
theorem dX5_init_30 : decode cX5_init 30 = .ok (.bipush (-4), 2) := by decide +kernel
theorem dX5_init_32 : decode cX5_init 32 = .ok (.invokestatic 22, 3) := by decide +kernel
theorem dX5_init_35 : decode cX5_init 35 = .ok (.return_, 1) := by decide +kernel
theorem dX0_init_0 : decode cX0_init 0 = .ok (.aload_n 0, 1) := by decide +kernel
theorem dX0_init_1 : decode cX0_init 1 = .ok (.invokespecial 3, 3) := by decide +kernel
theorem dX0_init_4 : decode cX0_init 4 = .ok (.aload_n 0, 1) := by decide +kernel
theorem dX0_init_5 : decode cX0_init 5 = .ok (.sipush 384, 3) := by decide +kernel
theorem dX0_init_8 : decode cX0_init 8 = .ok (.newarray .int, 2) := by decide +kernel
theorem dX0_init_10 : decode cX0_init 10 = .ok (.putfield 9, 3) := by decide +kernel
theorem dX0_init_13 : decode cX0_init 13 = .ok (.aload_n 0, 1) := by decide +kernel
theorem dX0_init_14 : decode cX0_init 14 = .ok (.getfield 9, 3) := by decide +kernel
theorem dX0_init_17 : decode cX0_init 17 = .ok (.bipush (-4), 2) := by decide +kernel
theorem dX0_init_19 : decode cX0_init 19 = .ok (.invokestatic 15, 3) := by decide +kernel
theorem dX0_init_22 : decode cX0_init 22 = .ok (.return_, 1) := by decide +kernel
theorem dX3_init_0 : decode cX3_init 0 = .ok (.aload_n 0, 1) := by decide +kernel
theorem dX3_init_1 : decode cX3_init 1 = .ok (.invokespecial 3, 3) := by decide +kernel
theorem dX3_init_4 : decode cX3_init 4 = .ok (.aload_n 0, 1) := by decide +kernel
theorem dX3_init_5 : decode cX3_init 5 = .ok (.bipush 16, 2) := by decide +kernel
theorem dX3_init_7 : decode cX3_init 7 = .ok (.newarray .int, 2) := by decide +kernel
theorem dX3_init_9 : decode cX3_init 9 = .ok (.putfield 9, 3) := by decide +kernel
theorem dX3_init_12 : decode cX3_init 12 = .ok (.aload_n 0, 1) := by decide +kernel
theorem dX3_init_13 : decode cX3_init 13 = .ok (.bipush 16, 2) := by decide +kernel
theorem dX3_init_15 : decode cX3_init 15 = .ok (.newarray .int, 2) := by decide +kernel
theorem dX3_init_17 : decode cX3_init 17 = .ok (.putfield 15, 3) := by decide +kernel
theorem dX3_init_20 : decode cX3_init 20 = .ok (.aload_n 0, 1) := by decide +kernel
theorem dX3_init_21 : decode cX3_init 21 = .ok (.bipush 16, 2) := by decide +kernel
theorem dX3_init_23 : decode cX3_init 23 = .ok (.newarray .int, 2) := by decide +kernel
theorem dX3_init_25 : decode cX3_init 25 = .ok (.putfield 18, 3) := by decide +kernel
theorem dX3_init_28 : decode cX3_init 28 = .ok (.return_, 1) := by decide +kernel
theorem dX4_init_0 : decode cX4_init 0 = .ok (.aload_n 0, 1) := by decide +kernel
theorem dX4_init_1 : decode cX4_init 1 = .ok (.invokespecial 3, 3) := by decide +kernel
theorem dX4_init_4 : decode cX4_init 4 = .ok (.aload_n 0, 1) := by decide +kernel
theorem dX4_init_5 : decode cX4_init 5 = .ok (.iconst 4, 1) := by decide +kernel
theorem dX4_init_6 : decode cX4_init 6 = .ok (.newarray .int, 2) := by decide +kernel
theorem dX4_init_8 : decode cX4_init 8 = .ok (.putfield 9, 3) := by decide +kernel
theorem dX4_init_11 : decode cX4_init 11 = .ok (.aload_n 0, 1) := by decide +kernel
theorem dX4_init_12 : decode cX4_init 12 = .ok (.iconst 4, 1) := by decide +kernel
theorem dX4_init_13 : decode cX4_init 13 = .ok (.newarray .int, 2) := by decide +kernel
theorem dX4_init_15 : decode cX4_init 15 = .ok (.putfield 15, 3) := by decide +kernel
theorem dX4_init_18 : decode cX4_init 18 = .ok (.aload_n 0, 1) := by decide +kernel
theorem dX4_init_19 : decode cX4_init 19 = .ok (.sipush 240, 3) := by decide +kernel
theorem dX4_init_22 : decode cX4_init 22 = .ok (.newarray .int, 2) := by decide +kernel
theorem dX4_init_24 : decode cX4_init 24 = .ok (.putfield 18, 3) := by decide +kernel
theorem dX4_init_27 : decode cX4_init 27 = .ok (.aload_n 0, 1) := by decide +kernel
theorem dX4_init_28 : decode cX4_init 28 = .ok (.getfield 15, 3) := by decide +kernel
theorem dX4_init_31 : decode cX4_init 31 = .ok (.bipush (-4), 2) := by decide +kernel
theorem dX4_init_33 : decode cX4_init 33 = .ok (.invokestatic 21, 3) := by decide +kernel
theorem dX4_init_36 : decode cX4_init 36 = .ok (.return_, 1) := by decide +kernel
theorem dX6_init_0 : decode cX6_init 0 = .ok (.aload_n 0, 1) := by decide +kernel
theorem dX6_init_1 : decode cX6_init 1 = .ok (.invokespecial 3, 3) := by decide +kernel
theorem dX6_init_4 : decode cX6_init 4 = .ok (.aload_n 0, 1) := by decide +kernel
theorem dX6_init_5 : decode cX6_init 5 = .ok (.sipush 256, 3) := by decide +kernel
theorem dX6_init_8 : decode cX6_init 8 = .ok (.newarray .int, 2) := by decide +kernel
theorem dX6_init_10 : decode cX6_init 10 = .ok (.putfield 9, 3) := by decide +kernel
theorem dX6_init_13 : decode cX6_init 13 = .ok (.aload_n 0, 1) := by decide +kernel
theorem dX6_init_14 : decode cX6_init 14 = .ok (.sipush 1024, 3) := by decide +kernel
theorem dX6_init_17 : decode cX6_init 17 = .ok (.newarray .int, 2) := by decide +kernel
theorem dX6_init_19 : decode cX6_init 19 = .ok (.putfield 15, 3) := by decide +kernel
theorem dX6_init_22 : decode cX6_init 22 = .ok (.return_, 1) := by decide +kernel
theorem dX1_init_0 : decode cX1_init 0 = .ok (.aload_n 0, 1) := by decide +kernel
theorem dX1_init_1 : decode cX1_init 1 = .ok (.invokespecial 3, 3) := by decide +kernel
theorem dX1_init_4 : decode cX1_init 4 = .ok (.aload_n 0, 1) := by decide +kernel
theorem dX1_init_5 : decode cX1_init 5 = .ok (.bipush 8, 2) := by decide +kernel
theorem dX1_init_7 : decode cX1_init 7 = .ok (.newarray .int, 2) := by decide +kernel
theorem dX1_init_9 : decode cX1_init 9 = .ok (.putfield 11, 3) := by decide +kernel
theorem dX1_init_12 : decode cX1_init 12 = .ok (.aload_n 0, 1) := by decide +kernel
theorem dX1_init_13 : decode cX1_init 13 = .ok (.bipush 8, 2) := by decide +kernel
theorem dX1_init_15 : decode cX1_init 15 = .ok (.newarray .int, 2) := by decide +kernel
theorem dX1_init_17 : decode cX1_init 17 = .ok (.putfield 15, 3) := by decide +kernel
theorem dX1_init_20 : decode cX1_init 20 = .ok (.aload_n 0, 1) := by decide +kernel
theorem dX1_init_21 : decode cX1_init 21 = .ok (.bipush 8, 2) := by decide +kernel
theorem dX1_init_23 : decode cX1_init 23 = .ok (.newarray .int, 2) := by decide +kernel
theorem dX1_init_25 : decode cX1_init 25 = .ok (.putfield 18, 3) := by decide +kernel
theorem dX1_init_28 : decode cX1_init 28 = .ok (.aload_n 0, 1) := by decide +kernel
theorem dX1_init_29 : decode cX1_init 29 = .ok (.bipush 8, 2) := by decide +kernel
theorem dX1_init_31 : decode cX1_init 31 = .ok (.newarray .int, 2) := by decide +kernel
theorem dX1_init_33 : decode cX1_init 33 = .ok (.putfield 21, 3) := by decide +kernel
theorem dX1_init_36 : decode cX1_init 36 = .ok (.aload_n 0, 1) := by decide +kernel
theorem dX1_init_37 : decode cX1_init 37 = .ok (.bipush 8, 2) := by decide +kernel
theorem dX1_init_39 : decode cX1_init 39 = .ok (.newarray .int, 2) := by decide +kernel
theorem dX1_init_41 : decode cX1_init 41 = .ok (.putfield 24, 3) := by decide +kernel
theorem dX1_init_44 : decode cX1_init 44 = .ok (.return_, 1) := by decide +kernel
theorem dX7_init_0 : decode cX7_init 0 = .ok (.aload_n 0, 1) := by decide +kernel
theorem dX7_init_1 : decode cX7_init 1 = .ok (.invokespecial 1, 3) := by decide +kernel
theorem dX7_init_4 : decode cX7_init 4 = .ok (.aload_n 0, 1) := by decide +kernel
theorem dX7_init_5 : decode cX7_init 5 = .ok (.new 7, 3) := by decide +kernel
theorem dX7_init_8 : decode cX7_init 8 = .ok (.dup, 1) := by decide +kernel
theorem dX7_init_9 : decode cX7_init 9 = .ok (.invokespecial 9, 3) := by decide +kernel
theorem dX7_init_12 : decode cX7_init 12 = .ok (.putfield 10, 3) := by decide +kernel
theorem dX7_init_15 : decode cX7_init 15 = .ok (.aload_n 0, 1) := by decide +kernel
theorem dX7_init_16 : decode cX7_init 16 = .ok (.new 16, 3) := by decide +kernel
theorem dX7_init_19 : decode cX7_init 19 = .ok (.dup, 1) := by decide +kernel
theorem dX7_init_20 : decode cX7_init 20 = .ok (.invokespecial 18, 3) := by decide +kernel
theorem dX7_init_23 : decode cX7_init 23 = .ok (.putfield 19, 3) := by decide +kernel
theorem dX7_init_26 : decode cX7_init 26 = .ok (.aload_n 0, 1) := by decide +kernel
theorem dX7_init_27 : decode cX7_init 27 = .ok (.new 23, 3) := by decide +kernel
theorem dX7_init_30 : decode cX7_init 30 = .ok (.dup, 1) := by decide +kernel
theorem dX7_init_31 : decode cX7_init 31 = .ok (.invokespecial 25, 3) := by decide +kernel
theorem dX7_init_34 : decode cX7_init 34 = .ok (.putfield 26, 3) := by decide +kernel
theorem dX7_init_37 : decode cX7_init 37 = .ok (.aload_n 0, 1) := by decide +kernel
theorem dX7_init_38 : decode cX7_init 38 = .ok (.new 30, 3) := by decide +kernel
theorem dX7_init_41 : decode cX7_init 41 = .ok (.dup, 1) := by decide +kernel
theorem dX7_init_42 : decode cX7_init 42 = .ok (.invokespecial 32, 3) := by decide +kernel
theorem dX7_init_45 : decode cX7_init 45 = .ok (.putfield 33, 3) := by decide +kernel
theorem dX7_init_48 : decode cX7_init 48 = .ok (.aload_n 0, 1) := by decide +kernel
theorem dX7_init_49 : decode cX7_init 49 = .ok (.new 37, 3) := by decide +kernel
theorem dX7_init_52 : decode cX7_init 52 = .ok (.dup, 1) := by decide +kernel
theorem dX7_init_53 : decode cX7_init 53 = .ok (.invokespecial 39, 3) := by decide +kernel
theorem dX7_init_56 : decode cX7_init 56 = .ok (.putfield 40, 3) := by decide +kernel
theorem dX7_init_59 : decode cX7_init 59 = .ok (.aload_n 0, 1) := by decide +kernel
theorem dX7_init_60 : decode cX7_init 60 = .ok (.new 44, 3) := by decide +kernel
theorem dX7_init_63 : decode cX7_init 63 = .ok (.dup, 1) := by decide +kernel
theorem dX7_init_64 : decode cX7_init 64 = .ok (.invokespecial 46, 3) := by decide +kernel
theorem dX7_init_67 : decode cX7_init 67 = .ok (.putfield 47, 3) := by decide +kernel
theorem dX7_init_70 : decode cX7_init 70 = .ok (.aload_n 0, 1) := by decide +kernel
theorem dX7_init_71 : decode cX7_init 71 = .ok (.new 51, 3) := by decide +kernel
theorem dX7_init_74 : decode cX7_init 74 = .ok (.dup, 1) := by decide +kernel
theorem dX7_init_75 : decode cX7_init 75 = .ok (.invokespecial 53, 3) := by decide +kernel
theorem dX7_init_78 : decode cX7_init 78 = .ok (.putfield 54, 3) := by decide +kernel
theorem dX7_init_81 : decode cX7_init 81 = .ok (.return_, 1) := by decide +kernel
theorem dX8_init_0 : decode cX8_init 0 = .ok (.aload_n 0, 1) := by decide +kernel
theorem dX8_init_1 : decode cX8_init 1 = .ok (.invokespecial 1, 3) := by decide +kernel
theorem dX8_init_4 : decode cX8_init 4 = .ok (.aload_n 0, 1) := by decide +kernel
theorem dX8_init_5 : decode cX8_init 5 = .ok (.bipush 16, 2) := by decide +kernel
theorem dX8_init_7 : decode cX8_init 7 = .ok (.newarray .boolean, 2) := by decide +kernel
theorem dX8_init_9 : decode cX8_init 9 = .ok (.putfield 7, 3) := by decide +kernel
theorem dX8_init_12 : decode cX8_init 12 = .ok (.aload_n 0, 1) := by decide +kernel
theorem dX8_init_13 : decode cX8_init 13 = .ok (.bipush 16, 2) := by decide +kernel
theorem dX8_init_15 : decode cX8_init 15 = .ok (.newarray .int, 2) := by decide +kernel
theorem dX8_init_17 : decode cX8_init 17 = .ok (.putfield 13, 3) := by decide +kernel
theorem dX8_init_20 : decode cX8_init 20 = .ok (.aload_n 0, 1) := by decide +kernel
theorem dX8_init_21 : decode cX8_init 21 = .ok (.bipush 16, 2) := by decide +kernel
theorem dX8_init_23 : decode cX8_init 23 = .ok (.newarray .boolean, 2) := by decide +kernel
theorem dX8_init_25 : decode cX8_init 25 = .ok (.putfield 17, 3) := by decide +kernel
theorem dX8_init_28 : decode cX8_init 28 = .ok (.aload_n 0, 1) := by decide +kernel
theorem dX8_init_29 : decode cX8_init 29 = .ok (.sipush 256, 3) := by decide +kernel
theorem dX8_init_32 : decode cX8_init 32 = .ok (.newarray .boolean, 2) := by decide +kernel
theorem dX8_init_34 : decode cX8_init 34 = .ok (.putfield 20, 3) := by decide +kernel
theorem dX8_init_37 : decode cX8_init 37 = .ok (.aload_n 0, 1) := by decide +kernel
theorem dX8_init_38 : decode cX8_init 38 = .ok (.sipush 256, 3) := by decide +kernel
theorem dX8_init_41 : decode cX8_init 41 = .ok (.newarray .boolean, 2) := by decide +kernel
theorem dX8_init_43 : decode cX8_init 43 = .ok (.putfield 23, 3) := by decide +kernel
theorem dX8_init_46 : decode cX8_init 46 = .ok (.aload_n 0, 1) := by decide +kernel
theorem dX8_init_47 : decode cX8_init 47 = .ok (.sipush 256, 3) := by decide +kernel
theorem dX8_init_50 : decode cX8_init 50 = .ok (.newarray .int, 2) := by decide +kernel
theorem dX8_init_52 : decode cX8_init 52 = .ok (.putfield 26, 3) := by decide +kernel
theorem dX8_init_55 : decode cX8_init 55 = .ok (.aload_n 0, 1) := by decide +kernel
theorem dX8_init_56 : decode cX8_init 56 = .ok (.sipush 384, 3) := by decide +kernel
theorem dX8_init_59 : decode cX8_init 59 = .ok (.newarray .int, 2) := by decide +kernel
theorem dX8_init_61 : decode cX8_init 61 = .ok (.putfield 29, 3) := by decide +kernel
theorem dX8_init_64 : decode cX8_init 64 = .ok (.aload_n 0, 1) := by decide +kernel
theorem dX8_init_65 : decode cX8_init 65 = .ok (.bipush 100, 2) := by decide +kernel
theorem dX8_init_67 : decode cX8_init 67 = .ok (.newarray .int, 2) := by decide +kernel
theorem dX8_init_69 : decode cX8_init 69 = .ok (.putfield 32, 3) := by decide +kernel
theorem dX8_init_72 : decode cX8_init 72 = .ok (.aload_n 0, 1) := by decide +kernel
theorem dX8_init_73 : decode cX8_init 73 = .ok (.iconst 4, 1) := by decide +kernel
theorem dX8_init_74 : decode cX8_init 74 = .ok (.newarray .int, 2) := by decide +kernel
theorem dX8_init_76 : decode cX8_init 76 = .ok (.dup, 1) := by decide +kernel
theorem dX8_init_77 : decode cX8_init 77 = .ok (.iconst 0, 1) := by decide +kernel
theorem dX8_init_78 : decode cX8_init 78 = .ok (.bipush (-4), 2) := by decide +kernel
theorem dX8_init_80 : decode cX8_init 80 = .ok (.iastore, 1) := by decide +kernel
theorem dX8_init_81 : decode cX8_init 81 = .ok (.dup, 1) := by decide +kernel
theorem dX8_init_82 : decode cX8_init 82 = .ok (.iconst 1, 1) := by decide +kernel
theorem dX8_init_83 : decode cX8_init 83 = .ok (.bipush (-4), 2) := by decide +kernel
theorem dX8_init_85 : decode cX8_init 85 = .ok (.iastore, 1) := by decide +kernel
theorem dX8_init_86 : decode cX8_init 86 = .ok (.dup, 1) := by decide +kernel
theorem dX8_init_87 : decode cX8_init 87 = .ok (.iconst 2, 1) := by decide +kernel
theorem dX8_init_88 : decode cX8_init 88 = .ok (.bipush (-4), 2) := by decide +kernel
theorem dX8_init_90 : decode cX8_init 90 = .ok (.iastore, 1) := by decide +kernel
theorem dX8_init_91 : decode cX8_init 91 = .ok (.dup, 1) := by decide +kernel
theorem dX8_init_92 : decode cX8_init 92 = .ok (.iconst 3, 1) := by decide +kernel
theorem dX8_init_93 : decode cX8_init 93 = .ok (.bipush (-4), 2) := by decide +kernel
theorem dX8_init_95 : decode cX8_init 95 = .ok (.iastore, 1) := by decide +kernel
theorem dX8_init_96 : decode cX8_init 96 = .ok (.putfield 35, 3) := by decide +kernel
theorem dX8_init_99 : decode cX8_init 99 = .ok (.aload_n 0, 1) := by decide +kernel
theorem dX8_init_100 : decode cX8_init 100 = .ok (.iconst 4, 1) := by decide +kernel
theorem dX8_init_101 : decode cX8_init 101 = .ok (.newarray .int, 2) := by decide +kernel
theorem dX8_init_103 : decode cX8_init 103 = .ok (.putfield 38, 3) := by decide +kernel
theorem dX8_init_106 : decode cX8_init 106 = .ok (.aload_n 0, 1) := by decide +kernel
theorem dX8_init_107 : decode cX8_init 107 = .ok (.sipush 256, 3) := by decide +kernel
theorem dX8_init_110 : decode cX8_init 110 = .ok (.newarray .boolean, 2) := by decide +kernel
theorem dX8_init_112 : decode cX8_init 112 = .ok (.putfield 41, 3) := by decide +kernel
theorem dX8_init_115 : decode cX8_init 115 = .ok (.aload_n 0, 1) := by decide +kernel
theorem dX8_init_116 : decode cX8_init 116 = .ok (.bipush 16, 2) := by decide +kernel
theorem dX8_init_118 : decode cX8_init 118 = .ok (.newarray .int, 2) := by decide +kernel
theorem dX8_init_120 : decode cX8_init 120 = .ok (.putfield 44, 3) := by decide +kernel
theorem dX8_init_123 : decode cX8_init 123 = .ok (.aload_n 0, 1) := by decide +kernel
theorem dX8_init_124 : decode cX8_init 124 = .ok (.bipush 16, 2) := by decide +kernel
theorem dX8_init_126 : decode cX8_init 126 = .ok (.newarray .boolean, 2) := by decide +kernel
theorem dX8_init_128 : decode cX8_init 128 = .ok (.putfield 47, 3) := by decide +kernel
theorem dX8_init_131 : decode cX8_init 131 = .ok (.aload_n 0, 1) := by decide +kernel
theorem dX8_init_132 : decode cX8_init 132 = .ok (.bipush 16, 2) := by decide +kernel
theorem dX8_init_134 : decode cX8_init 134 = .ok (.newarray .int, 2) := by decide +kernel
theorem dX8_init_136 : decode cX8_init 136 = .ok (.putfield 50, 3) := by decide +kernel
theorem dX8_init_139 : decode cX8_init 139 = .ok (.aload_n 0, 1) := by decide +kernel
theorem dX8_init_140 : decode cX8_init 140 = .ok (.bipush 16, 2) := by decide +kernel
theorem dX8_init_142 : decode cX8_init 142 = .ok (.newarray .int, 2) := by decide +kernel
theorem dX8_init_144 : decode cX8_init 144 = .ok (.putfield 53, 3) := by decide +kernel
theorem dX8_init_147 : decode cX8_init 147 = .ok (.aload_n 0, 1) := by decide +kernel
theorem dX8_init_148 : decode cX8_init 148 = .ok (.iconst 4, 1) := by decide +kernel
theorem dX8_init_149 : decode cX8_init 149 = .ok (.newarray .int, 2) := by decide +kernel
theorem dX8_init_151 : decode cX8_init 151 = .ok (.dup, 1) := by decide +kernel
theorem dX8_init_152 : decode cX8_init 152 = .ok (.iconst 0, 1) := by decide +kernel
theorem dX8_init_153 : decode cX8_init 153 = .ok (.bipush (-4), 2) := by decide +kernel
theorem dX8_init_155 : decode cX8_init 155 = .ok (.iastore, 1) := by decide +kernel
theorem dX8_init_156 : decode cX8_init 156 = .ok (.dup, 1) := by decide +kernel
theorem dX8_init_157 : decode cX8_init 157 = .ok (.iconst 1, 1) := by decide +kernel
theorem dX8_init_158 : decode cX8_init 158 = .ok (.bipush (-4), 2) := by decide +kernel
theorem dX8_init_160 : decode cX8_init 160 = .ok (.iastore, 1) := by decide +kernel
theorem dX8_init_161 : decode cX8_init 161 = .ok (.dup, 1) := by decide +kernel
theorem dX8_init_162 : decode cX8_init 162 = .ok (.iconst 2, 1) := by decide +kernel
theorem dX8_init_163 : decode cX8_init 163 = .ok (.bipush (-4), 2) := by decide +kernel
theorem dX8_init_165 : decode cX8_init 165 = .ok (.iastore, 1) := by decide +kernel
theorem dX8_init_166 : decode cX8_init 166 = .ok (.dup, 1) := by decide +kernel
theorem dX8_init_167 : decode cX8_init 167 = .ok (.iconst 3, 1) := by decide +kernel
theorem dX8_init_168 : decode cX8_init 168 = .ok (.bipush (-4), 2) := by decide +kernel
theorem dX8_init_170 : decode cX8_init 170 = .ok (.iastore, 1) := by decide +kernel
theorem dX8_init_171 : decode cX8_init 171 = .ok (.putfield 56, 3) := by decide +kernel
theorem dX8_init_174 : decode cX8_init 174 = .ok (.aload_n 0, 1) := by decide +kernel
theorem dX8_init_175 : decode cX8_init 175 = .ok (.iconst 4, 1) := by decide +kernel
theorem dX8_init_176 : decode cX8_init 176 = .ok (.newarray .int, 2) := by decide +kernel
theorem dX8_init_178 : decode cX8_init 178 = .ok (.putfield 59, 3) := by decide +kernel
theorem dX8_init_181 : decode cX8_init 181 = .ok (.aload_n 0, 1) := by decide +kernel
theorem dX8_init_182 : decode cX8_init 182 = .ok (.sipush 240, 3) := by decide +kernel
theorem dX8_init_185 : decode cX8_init 185 = .ok (.newarray .int, 2) := by decide +kernel
theorem dX8_init_187 : decode cX8_init 187 = .ok (.putfield 62, 3) := by decide +kernel
theorem dX8_init_190 : decode cX8_init 190 = .ok (.aload_n 0, 1) := by decide +kernel
theorem dX8_init_191 : decode cX8_init 191 = .ok (.sipush 1024, 3) := by decide +kernel
theorem dX8_init_194 : decode cX8_init 194 = .ok (.newarray .int, 2) := by decide +kernel
theorem dX8_init_196 : decode cX8_init 196 = .ok (.putfield 65, 3) := by decide +kernel
theorem dX8_init_199 : decode cX8_init 199 = .ok (.aload_n 0, 1) := by decide +kernel
theorem dX8_init_200 : decode cX8_init 200 = .ok (.bipush 8, 2) := by decide +kernel
theorem dX8_init_202 : decode cX8_init 202 = .ok (.newarray .int, 2) := by decide +kernel
theorem dX8_init_204 : decode cX8_init 204 = .ok (.putfield 68, 3) := by decide +kernel
theorem dX8_init_207 : decode cX8_init 207 = .ok (.aload_n 0, 1) := by decide +kernel
theorem dX8_init_208 : decode cX8_init 208 = .ok (.bipush 9, 2) := by decide +kernel
theorem dX8_init_210 : decode cX8_init 210 = .ok (.newarray .int, 2) := by decide +kernel
theorem dX8_init_212 : decode cX8_init 212 = .ok (.putfield 71, 3) := by decide +kernel
theorem dX8_init_215 : decode cX8_init 215 = .ok (.return_, 1) := by decide +kernel
theorem ha_int (N : Nat) : ∀ cA : ClassId, vp_cell cA (N, .inl (fun _ => (0 : Int32))) = arrV cA N (fun _ => defaultValue .int) := fun _ => rfl
theorem ha_boolean (N : Nat) : ∀ cA : ClassId, vp_cell cA (N, .inl (fun _ => (0 : Int32))) = arrV cA N (fun _ => defaultValue .boolean) := fun _ => rfl
theorem ha_byte (N : Nat) : ∀ cA : ClassId, vp_cell cA (N, .inl (fun _ => (0 : Int32))) = arrV cA N (fun _ => defaultValue .byte) := fun _ => rfl
def pX2 (ca : Nat → ClassId) (h0 : Nat) (u : Nat → Nat) : va_W := [(h0, .inr (2, [.int 0, .ref (u 0), .ref (u 1), .ref (u 2), .ref (u 3), .ref (u 4)])), ((u 0), .inl (ca 1, 16, .inl (fun _ => (0 : Int32)))), ((u 1), .inl (ca 1, 16, .inl (fun _ => (0 : Int32)))), ((u 2), .inl (ca 0, 16, .inl (fun _ => (0 : Int32)))), ((u 3), .inl (ca 0, 16, .inl (fun _ => (0 : Int32)))), ((u 4), .inl (ca 0, 16, .inl (fun _ => (0 : Int32))))]
set_option maxRecDepth 40000 in
theorem c_X2_init {l : Launch} {D : va_G} {ca : Nat → ClassId} (h0 : Nat) : Cc l D ca yX2_init cX2_init 1 1 5 80 h0 2 [.int 0, .null, .null, .null, .null, .null] (pX2 ca) := Cc.of yf_X2_init rfl (by decide) (fun κ B hi hD hca hl hret => by
  subst hD; subst hca; subst hl
  exact N_aload_n (pc := 0) (cl := 0) (sl := 0) B 0 dX2_init_0 rfl rfl (N_obj (pc := 1) (cl := 0) (sl := 0) B wg_31 wg_24 w_obj rfl (by decide) dX2_init_1 (N_aload_n (pc := 4) (cl := 0) (sl := 0) B 0 dX2_init_4 rfl rfl (N_bipush (pc := 5) (cl := 0) (sl := 0) B dX2_init_5 bp_16 (N_newa (pc := 7) (cl := 0) (sl := 0) B (at_ := .boolean) (ty := .boolean) 1 (N := 16) wg_52 rfl (fun _ => rfl) (fun _ _ h => h) (ha_boolean 16) (by decide) (by decide) (by decide) (Nat.le_of_ble_eq_true rfl) (Nat.le_of_ble_eq_true rfl) dX2_init_7 (fun q1 => N_eq (w' := [(h0, .inr (2, [.int 0, .null, .null, .null, .null, .null])), (q1, .inl (nca κ 1, 16, .inl (fun _ => (0 : Int32))))]) rfl (N_putF (pc := 9) (cl := 1) (sl := 16) B (ty := .array .boolean) 0 fl_X2_9 hi tyX2_ok nmX2 rfl rfl (by decide +kernel) rfl rfl (Nat.le_of_ble_eq_true rfl) rfl dX2_init_9 (N_eq (w' := [(h0, .inr (2, [.int 0, .ref q1, .null, .null, .null, .null])), (q1, .inl (nca κ 1, 16, .inl (fun _ => (0 : Int32))))]) rfl (N_aload_n (pc := 12) (cl := 1) (sl := 16) B 0 dX2_init_12 rfl rfl (N_bipush (pc := 13) (cl := 1) (sl := 16) B dX2_init_13 bp_16 (N_newa (pc := 15) (cl := 1) (sl := 16) B (at_ := .boolean) (ty := .boolean) 1 (N := 16) wg_52 rfl (fun _ => rfl) (fun _ _ h => h) (ha_boolean 16) (by decide) (by decide) (by decide) (Nat.le_of_ble_eq_true rfl) (Nat.le_of_ble_eq_true rfl) dX2_init_15 (fun q2 => N_eq (w' := [(h0, .inr (2, [.int 0, .ref q1, .null, .null, .null, .null])), (q1, .inl (nca κ 1, 16, .inl (fun _ => (0 : Int32)))), (q2, .inl (nca κ 1, 16, .inl (fun _ => (0 : Int32))))]) rfl (N_putF (pc := 17) (cl := 2) (sl := 32) B (ty := .array .boolean) 0 fl_X2_15 hi tyX2_ok nmX2 rfl rfl (by decide +kernel) rfl rfl (Nat.le_of_ble_eq_true rfl) rfl dX2_init_17 (N_eq (w' := [(h0, .inr (2, [.int 0, .ref q1, .ref q2, .null, .null, .null])), (q1, .inl (nca κ 1, 16, .inl (fun _ => (0 : Int32)))), (q2, .inl (nca κ 1, 16, .inl (fun _ => (0 : Int32))))]) rfl (N_aload_n (pc := 20) (cl := 2) (sl := 32) B 0 dX2_init_20 rfl rfl (N_bipush (pc := 21) (cl := 2) (sl := 32) B dX2_init_21 bp_16 (N_newa (pc := 23) (cl := 2) (sl := 32) B (at_ := .int) (ty := .int) 0 (N := 16) wg_53 rfl (fun _ => rfl) (fun _ _ h => h) (ha_int 16) (by decide) (by decide) (by decide) (Nat.le_of_ble_eq_true rfl) (Nat.le_of_ble_eq_true rfl) dX2_init_23 (fun q3 => N_eq (w' := [(h0, .inr (2, [.int 0, .ref q1, .ref q2, .null, .null, .null])), (q1, .inl (nca κ 1, 16, .inl (fun _ => (0 : Int32)))), (q2, .inl (nca κ 1, 16, .inl (fun _ => (0 : Int32)))), (q3, .inl (nca κ 0, 16, .inl (fun _ => (0 : Int32))))]) rfl (N_putF (pc := 25) (cl := 3) (sl := 48) B (ty := .array .int) 0 fl_X2_18 hi tyX2_ok nmX2 rfl rfl (by decide +kernel) rfl rfl (Nat.le_of_ble_eq_true rfl) rfl dX2_init_25 (N_eq (w' := [(h0, .inr (2, [.int 0, .ref q1, .ref q2, .ref q3, .null, .null])), (q1, .inl (nca κ 1, 16, .inl (fun _ => (0 : Int32)))), (q2, .inl (nca κ 1, 16, .inl (fun _ => (0 : Int32)))), (q3, .inl (nca κ 0, 16, .inl (fun _ => (0 : Int32))))]) rfl (N_aload_n (pc := 28) (cl := 3) (sl := 48) B 0 dX2_init_28 rfl rfl (N_bipush (pc := 29) (cl := 3) (sl := 48) B dX2_init_29 bp_16 (N_newa (pc := 31) (cl := 3) (sl := 48) B (at_ := .int) (ty := .int) 0 (N := 16) wg_53 rfl (fun _ => rfl) (fun _ _ h => h) (ha_int 16) (by decide) (by decide) (by decide) (Nat.le_of_ble_eq_true rfl) (Nat.le_of_ble_eq_true rfl) dX2_init_31 (fun q4 => N_eq (w' := [(h0, .inr (2, [.int 0, .ref q1, .ref q2, .ref q3, .null, .null])), (q1, .inl (nca κ 1, 16, .inl (fun _ => (0 : Int32)))), (q2, .inl (nca κ 1, 16, .inl (fun _ => (0 : Int32)))), (q3, .inl (nca κ 0, 16, .inl (fun _ => (0 : Int32)))), (q4, .inl (nca κ 0, 16, .inl (fun _ => (0 : Int32))))]) rfl (N_putF (pc := 33) (cl := 4) (sl := 64) B (ty := .array .int) 0 fl_X2_22 hi tyX2_ok nmX2 rfl rfl (by decide +kernel) rfl rfl (Nat.le_of_ble_eq_true rfl) rfl dX2_init_33 (N_eq (w' := [(h0, .inr (2, [.int 0, .ref q1, .ref q2, .ref q3, .ref q4, .null])), (q1, .inl (nca κ 1, 16, .inl (fun _ => (0 : Int32)))), (q2, .inl (nca κ 1, 16, .inl (fun _ => (0 : Int32)))), (q3, .inl (nca κ 0, 16, .inl (fun _ => (0 : Int32)))), (q4, .inl (nca κ 0, 16, .inl (fun _ => (0 : Int32))))]) rfl (N_aload_n (pc := 36) (cl := 4) (sl := 64) B 0 dX2_init_36 rfl rfl (N_bipush (pc := 37) (cl := 4) (sl := 64) B dX2_init_37 bp_16 (N_newa (pc := 39) (cl := 4) (sl := 64) B (at_ := .int) (ty := .int) 0 (N := 16) wg_53 rfl (fun _ => rfl) (fun _ _ h => h) (ha_int 16) (by decide) (by decide) (by decide) (Nat.le_of_ble_eq_true rfl) (Nat.le_of_ble_eq_true rfl) dX2_init_39 (fun q5 => N_eq (w' := [(h0, .inr (2, [.int 0, .ref q1, .ref q2, .ref q3, .ref q4, .null])), (q1, .inl (nca κ 1, 16, .inl (fun _ => (0 : Int32)))), (q2, .inl (nca κ 1, 16, .inl (fun _ => (0 : Int32)))), (q3, .inl (nca κ 0, 16, .inl (fun _ => (0 : Int32)))), (q4, .inl (nca κ 0, 16, .inl (fun _ => (0 : Int32)))), (q5, .inl (nca κ 0, 16, .inl (fun _ => (0 : Int32))))]) rfl (N_putF (pc := 41) (cl := 5) (sl := 80) B (ty := .array .int) 0 fl_X2_25 hi tyX2_ok nmX2 rfl rfl (by decide +kernel) rfl rfl (Nat.le_of_ble_eq_true rfl) rfl dX2_init_41 (N_eq (w' := [(h0, .inr (2, [.int 0, .ref q1, .ref q2, .ref q3, .ref q4, .ref q5])), (q1, .inl (nca κ 1, 16, .inl (fun _ => (0 : Int32)))), (q2, .inl (nca κ 1, 16, .inl (fun _ => (0 : Int32)))), (q3, .inl (nca κ 0, 16, .inl (fun _ => (0 : Int32)))), (q4, .inl (nca κ 0, 16, .inl (fun _ => (0 : Int32)))), (q5, .inl (nca κ 0, 16, .inl (fun _ => (0 : Int32))))]) rfl (hret (fun j => [q1, q2, q3, q4, q5].getD j 0) 44 _ dX2_init_44)))))))))))))))))))))))))))))))))
