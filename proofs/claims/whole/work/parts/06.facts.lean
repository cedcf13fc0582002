/-! words, links, constants: facts that the kernel decides -/
theorem wg_1 : (Jvm.Cond.initialized "DanceCards") ∈ gws := mem_g (i := 1) (by decide +kernel) (by decide +kernel)
theorem wg_2 : (Jvm.Cond.initialized "DanceCards$Guests") ∈ gws := mem_g (i := 2) (by decide +kernel) (by decide +kernel)
theorem wg_3 : (Jvm.Cond.initialized "DanceCards$Tape") ∈ gws := mem_g (i := 3) (by decide +kernel) (by decide +kernel)
theorem wg_4 : (Jvm.Cond.initialized "java/util/Arrays") ∈ gws := mem_g (i := 4) (by decide +kernel) (by decide +kernel)
theorem wg_5 : (Jvm.Cond.initialized "DanceCards$Cards") ∈ gws := mem_g (i := 5) (by decide +kernel) (by decide +kernel)
theorem wg_6 : (Jvm.Cond.initialized "DanceCards$Pairing") ∈ gws := mem_g (i := 6) (by decide +kernel) (by decide +kernel)
theorem wg_7 : (Jvm.Cond.initialized "DanceCards$Papers") ∈ gws := mem_g (i := 7) (by decide +kernel) (by decide +kernel)
theorem wg_8 : (Jvm.Cond.initialized "DanceCards$Wishes") ∈ gws := mem_g (i := 8) (by decide +kernel) (by decide +kernel)
theorem wg_9 : (Jvm.Cond.initialized "DanceCards$Grouping") ∈ gws := mem_g (i := 9) (by decide +kernel) (by decide +kernel)
theorem wg_10 : (Jvm.Cond.initialized "DanceCardsModel") ∈ gws := mem_g (i := 10) (by decide +kernel) (by decide +kernel)
theorem wg_11 : (Jvm.Cond.initialized "java/lang/String") ∈ gws := mem_g (i := 11) (by decide +kernel) (by decide +kernel)
theorem wg_12 : (Jvm.Cond.initialized "java/lang/StringLatin1") ∈ gws := mem_g (i := 12) (by decide +kernel) (by decide +kernel)
theorem wg_13 : (Jvm.Cond.initialized "jdk/internal/util/Preconditions") ∈ gws := mem_g (i := 13) (by decide +kernel) (by decide +kernel)
theorem wg_15 : (Jvm.Cond.initialized "java/lang/System") ∈ gws := mem_g (i := 15) (by decide +kernel) (by decide +kernel)
theorem wg_16 : (Jvm.Cond.initialized "java/lang/Math") ∈ gws := mem_g (i := 16) (by decide +kernel) (by decide +kernel)
theorem wg_17 : (Jvm.Cond.initialized "java/lang/Integer") ∈ gws := mem_g (i := 17) (by decide +kernel) (by decide +kernel)
theorem wg_32 : (Jvm.Cond.fieldLink "DanceCards$Guests" (28 : Nat) "DanceCards$Guests" "number" "I") ∈ gws := mem_g (i := 32) (by decide +kernel) (by decide +kernel)
theorem wg_34 : (Jvm.Cond.fieldLink "DanceCards$Guests" (9 : Nat) "DanceCards$Guests" "lady" "[Z") ∈ gws := mem_g (i := 34) (by decide +kernel) (by decide +kernel)
theorem wg_35 : (Jvm.Cond.fieldLink "DanceCards$Guests" (15 : Nat) "DanceCards$Guests" "sick" "[Z") ∈ gws := mem_g (i := 35) (by decide +kernel) (by decide +kernel)
theorem wg_36 : (Jvm.Cond.fieldLink "DanceCards$Guests" (18 : Nat) "DanceCards$Guests" "ranks" "[I") ∈ gws := mem_g (i := 36) (by decide +kernel) (by decide +kernel)
theorem wg_37 : (Jvm.Cond.fieldLink "DanceCards$Guests" (22 : Nat) "DanceCards$Guests" "friends" "[I") ∈ gws := mem_g (i := 37) (by decide +kernel) (by decide +kernel)
theorem wg_38 : (Jvm.Cond.fieldLink "DanceCards$Guests" (25 : Nat) "DanceCards$Guests" "foes" "[I") ∈ gws := mem_g (i := 38) (by decide +kernel) (by decide +kernel)
theorem wg_39 : (Jvm.Cond.lays "DanceCards$Guests" "DanceCards$Guests" "number" "I") ∈ gws := mem_g (i := 39) (by decide +kernel) (by decide +kernel)
theorem wg_41 : (Jvm.Cond.laysFinal "DanceCards$Guests" "DanceCards$Guests" "lady" "[Z") ∈ gws := mem_g (i := 41) (by decide +kernel) (by decide +kernel)
theorem wg_43 : (Jvm.Cond.laysFinal "DanceCards$Guests" "DanceCards$Guests" "sick" "[Z") ∈ gws := mem_g (i := 43) (by decide +kernel) (by decide +kernel)
theorem wg_45 : (Jvm.Cond.laysFinal "DanceCards$Guests" "DanceCards$Guests" "ranks" "[I") ∈ gws := mem_g (i := 45) (by decide +kernel) (by decide +kernel)
theorem wg_47 : (Jvm.Cond.laysFinal "DanceCards$Guests" "DanceCards$Guests" "friends" "[I") ∈ gws := mem_g (i := 47) (by decide +kernel) (by decide +kernel)
theorem wg_49 : (Jvm.Cond.laysFinal "DanceCards$Guests" "DanceCards$Guests" "foes" "[I") ∈ gws := mem_g (i := 49) (by decide +kernel) (by decide +kernel)
theorem wg_60 : (Jvm.Cond.methodLink "DanceCards$Tape" (22 : Nat) ({ cls := "java/util/Arrays", name := "fill", desc := "([II)V" } : Jvm.MethodName)) ∈ gws := mem_g (i := 60) (by decide +kernel) (by decide +kernel)
theorem wg_61 : (Jvm.Cond.static ({ cls := "java/util/Arrays", name := "fill", desc := "([II)V" } : Jvm.MethodName)) ∈ gws := mem_g (i := 61) (by decide +kernel) (by decide +kernel)
theorem wg_62 : (Jvm.Cond.code ({ cls := "java/util/Arrays", name := "fill", desc := "([II)V" } : Jvm.MethodName) prog_17_method_103_code (4 : Nat) (Option.none : Option Jvm.ClassFile.FieldType)) ∈ gws := mem_g (i := 62) (by decide +kernel) (by decide +kernel)
theorem wg_63 : (Jvm.Cond.fieldLink "DanceCards$Tape" (11 : Nat) "DanceCards$Tape" "bytes" "[B") ∈ gws := mem_g (i := 63) (by decide +kernel) (by decide +kernel)
theorem wg_64 : (Jvm.Cond.fieldLink "DanceCards$Tape" (36 : Nat) "DanceCards$Tape" "length" "I") ∈ gws := mem_g (i := 64) (by decide +kernel) (by decide +kernel)
theorem wg_66 : (Jvm.Cond.fieldLink "DanceCards$Tape" (51 : Nat) "DanceCards$Tape" "latestFault" "I") ∈ gws := mem_g (i := 66) (by decide +kernel) (by decide +kernel)
theorem wg_68 : (Jvm.Cond.fieldLink "DanceCards$Tape" (15 : Nat) "DanceCards$Tape" "told" "[I") ∈ gws := mem_g (i := 68) (by decide +kernel) (by decide +kernel)
theorem wg_70 : (Jvm.Cond.fieldLink "DanceCards$Tape" (19 : Nat) "DanceCards$Tape" "draft" "[I") ∈ gws := mem_g (i := 70) (by decide +kernel) (by decide +kernel)
theorem wg_71 : (Jvm.Cond.fieldLink "DanceCards$Tape" (44 : Nat) "DanceCards$Tape" "next" "I") ∈ gws := mem_g (i := 71) (by decide +kernel) (by decide +kernel)
theorem wg_72 : (Jvm.Cond.fieldLink "DanceCards$Tape" (69 : Nat) "DanceCards$Tape" "tokenKind" "I") ∈ gws := mem_g (i := 72) (by decide +kernel) (by decide +kernel)
theorem wg_73 : (Jvm.Cond.fieldLink "DanceCards$Tape" (54 : Nat) "DanceCards$Tape" "tokenPlace" "I") ∈ gws := mem_g (i := 73) (by decide +kernel) (by decide +kernel)
theorem wg_74 : (Jvm.Cond.fieldLink "DanceCards$Tape" (79 : Nat) "DanceCards$Tape" "tokenValue" "I") ∈ gws := mem_g (i := 74) (by decide +kernel) (by decide +kernel)
theorem wg_75 : (Jvm.Cond.laysFinal "DanceCards$Tape" "DanceCards$Tape" "bytes" "[B") ∈ gws := mem_g (i := 75) (by decide +kernel) (by decide +kernel)
theorem wg_77 : (Jvm.Cond.lays "DanceCards$Tape" "DanceCards$Tape" "length" "I") ∈ gws := mem_g (i := 77) (by decide +kernel) (by decide +kernel)
theorem wg_79 : (Jvm.Cond.lays "DanceCards$Tape" "DanceCards$Tape" "latestFault" "I") ∈ gws := mem_g (i := 79) (by decide +kernel) (by decide +kernel)
theorem wg_81 : (Jvm.Cond.laysFinal "DanceCards$Tape" "DanceCards$Tape" "told" "[I") ∈ gws := mem_g (i := 81) (by decide +kernel) (by decide +kernel)
theorem wg_83 : (Jvm.Cond.laysFinal "DanceCards$Tape" "DanceCards$Tape" "draft" "[I") ∈ gws := mem_g (i := 83) (by decide +kernel) (by decide +kernel)
theorem wg_85 : (Jvm.Cond.lays "DanceCards$Tape" "DanceCards$Tape" "next" "I") ∈ gws := mem_g (i := 85) (by decide +kernel) (by decide +kernel)
theorem wg_87 : (Jvm.Cond.lays "DanceCards$Tape" "DanceCards$Tape" "tokenKind" "I") ∈ gws := mem_g (i := 87) (by decide +kernel) (by decide +kernel)
theorem wg_89 : (Jvm.Cond.lays "DanceCards$Tape" "DanceCards$Tape" "tokenPlace" "I") ∈ gws := mem_g (i := 89) (by decide +kernel) (by decide +kernel)
theorem wg_91 : (Jvm.Cond.lays "DanceCards$Tape" "DanceCards$Tape" "tokenValue" "I") ∈ gws := mem_g (i := 91) (by decide +kernel) (by decide +kernel)
theorem wg_102 : (Jvm.Cond.fieldLink "DanceCards$Cards" (9 : Nat) "DanceCards$Cards" "entries" "[I") ∈ gws := mem_g (i := 102) (by decide +kernel) (by decide +kernel)
theorem wg_103 : (Jvm.Cond.laysFinal "DanceCards$Cards" "DanceCards$Cards" "entries" "[I") ∈ gws := mem_g (i := 103) (by decide +kernel) (by decide +kernel)
theorem wg_112 : (Jvm.Cond.fieldLink "DanceCards$Pairing" (9 : Nat) "DanceCards$Pairing" "allowed" "[I") ∈ gws := mem_g (i := 112) (by decide +kernel) (by decide +kernel)
theorem wg_113 : (Jvm.Cond.fieldLink "DanceCards$Pairing" (15 : Nat) "DanceCards$Pairing" "chosen" "[I") ∈ gws := mem_g (i := 113) (by decide +kernel) (by decide +kernel)
theorem wg_115 : (Jvm.Cond.fieldLink "DanceCards$Pairing" (18 : Nat) "DanceCards$Pairing" "holder" "[I") ∈ gws := mem_g (i := 115) (by decide +kernel) (by decide +kernel)
theorem wg_116 : (Jvm.Cond.fieldLink "DanceCards$Pairing" (32 : Nat) "DanceCards$Pairing" "untried" "I") ∈ gws := mem_g (i := 116) (by decide +kernel) (by decide +kernel)
theorem wg_117 : (Jvm.Cond.laysFinal "DanceCards$Pairing" "DanceCards$Pairing" "allowed" "[I") ∈ gws := mem_g (i := 117) (by decide +kernel) (by decide +kernel)
theorem wg_119 : (Jvm.Cond.laysFinal "DanceCards$Pairing" "DanceCards$Pairing" "chosen" "[I") ∈ gws := mem_g (i := 119) (by decide +kernel) (by decide +kernel)
theorem wg_121 : (Jvm.Cond.laysFinal "DanceCards$Pairing" "DanceCards$Pairing" "holder" "[I") ∈ gws := mem_g (i := 121) (by decide +kernel) (by decide +kernel)
theorem wg_123 : (Jvm.Cond.lays "DanceCards$Pairing" "DanceCards$Pairing" "untried" "I") ∈ gws := mem_g (i := 123) (by decide +kernel) (by decide +kernel)
theorem wg_133 : (Jvm.Cond.fieldLink "DanceCards$Papers" (9 : Nat) "DanceCards$Papers" "lanes" "[I") ∈ gws := mem_g (i := 133) (by decide +kernel) (by decide +kernel)
theorem wg_135 : (Jvm.Cond.fieldLink "DanceCards$Papers" (15 : Nat) "DanceCards$Papers" "sizes" "[I") ∈ gws := mem_g (i := 135) (by decide +kernel) (by decide +kernel)
theorem wg_137 : (Jvm.Cond.fieldLink "DanceCards$Papers" (18 : Nat) "DanceCards$Papers" "cells" "[I") ∈ gws := mem_g (i := 137) (by decide +kernel) (by decide +kernel)
theorem wg_138 : (Jvm.Cond.laysFinal "DanceCards$Papers" "DanceCards$Papers" "lanes" "[I") ∈ gws := mem_g (i := 138) (by decide +kernel) (by decide +kernel)
theorem wg_140 : (Jvm.Cond.laysFinal "DanceCards$Papers" "DanceCards$Papers" "sizes" "[I") ∈ gws := mem_g (i := 140) (by decide +kernel) (by decide +kernel)
theorem wg_142 : (Jvm.Cond.laysFinal "DanceCards$Papers" "DanceCards$Papers" "cells" "[I") ∈ gws := mem_g (i := 142) (by decide +kernel) (by decide +kernel)
theorem wg_151 : (Jvm.Cond.fieldLink "DanceCards$Wishes" (9 : Nat) "DanceCards$Wishes" "wanted" "[I") ∈ gws := mem_g (i := 151) (by decide +kernel) (by decide +kernel)
theorem wg_152 : (Jvm.Cond.fieldLink "DanceCards$Wishes" (15 : Nat) "DanceCards$Wishes" "plan" "[I") ∈ gws := mem_g (i := 152) (by decide +kernel) (by decide +kernel)
theorem wg_153 : (Jvm.Cond.fieldLink "DanceCards$Wishes" (18 : Nat) "DanceCards$Wishes" "isFresh" "Z") ∈ gws := mem_g (i := 153) (by decide +kernel) (by decide +kernel)
theorem wg_154 : (Jvm.Cond.laysFinal "DanceCards$Wishes" "DanceCards$Wishes" "wanted" "[I") ∈ gws := mem_g (i := 154) (by decide +kernel) (by decide +kernel)
theorem wg_156 : (Jvm.Cond.laysFinal "DanceCards$Wishes" "DanceCards$Wishes" "plan" "[I") ∈ gws := mem_g (i := 156) (by decide +kernel) (by decide +kernel)
theorem wg_158 : (Jvm.Cond.lays "DanceCards$Wishes" "DanceCards$Wishes" "isFresh" "Z") ∈ gws := mem_g (i := 158) (by decide +kernel) (by decide +kernel)
theorem wg_167 : (Jvm.Cond.fieldLink "DanceCards$Grouping" (27 : Nat) "DanceCards$Grouping" "number" "I") ∈ gws := mem_g (i := 167) (by decide +kernel) (by decide +kernel)
theorem wg_168 : (Jvm.Cond.fieldLink "DanceCards$Grouping" (11 : Nat) "DanceCards$Grouping" "people" "[I") ∈ gws := mem_g (i := 168) (by decide +kernel) (by decide +kernel)
theorem wg_169 : (Jvm.Cond.fieldLink "DanceCards$Grouping" (15 : Nat) "DanceCards$Grouping" "foes" "[I") ∈ gws := mem_g (i := 169) (by decide +kernel) (by decide +kernel)
theorem wg_170 : (Jvm.Cond.fieldLink "DanceCards$Grouping" (18 : Nat) "DanceCards$Grouping" "placed" "[I") ∈ gws := mem_g (i := 170) (by decide +kernel) (by decide +kernel)
theorem wg_171 : (Jvm.Cond.fieldLink "DanceCards$Grouping" (21 : Nat) "DanceCards$Grouping" "sizes" "[I") ∈ gws := mem_g (i := 171) (by decide +kernel) (by decide +kernel)
theorem wg_172 : (Jvm.Cond.fieldLink "DanceCards$Grouping" (24 : Nat) "DanceCards$Grouping" "members" "[I") ∈ gws := mem_g (i := 172) (by decide +kernel) (by decide +kernel)
theorem wg_173 : (Jvm.Cond.lays "DanceCards$Grouping" "DanceCards$Grouping" "number" "I") ∈ gws := mem_g (i := 173) (by decide +kernel) (by decide +kernel)
theorem wg_175 : (Jvm.Cond.laysFinal "DanceCards$Grouping" "DanceCards$Grouping" "people" "[I") ∈ gws := mem_g (i := 175) (by decide +kernel) (by decide +kernel)
theorem wg_177 : (Jvm.Cond.laysFinal "DanceCards$Grouping" "DanceCards$Grouping" "foes" "[I") ∈ gws := mem_g (i := 177) (by decide +kernel) (by decide +kernel)
theorem wg_179 : (Jvm.Cond.laysFinal "DanceCards$Grouping" "DanceCards$Grouping" "placed" "[I") ∈ gws := mem_g (i := 179) (by decide +kernel) (by decide +kernel)
theorem wg_181 : (Jvm.Cond.laysFinal "DanceCards$Grouping" "DanceCards$Grouping" "sizes" "[I") ∈ gws := mem_g (i := 181) (by decide +kernel) (by decide +kernel)
theorem wg_183 : (Jvm.Cond.laysFinal "DanceCards$Grouping" "DanceCards$Grouping" "members" "[I") ∈ gws := mem_g (i := 183) (by decide +kernel) (by decide +kernel)
theorem wg_186 : (Jvm.Cond.fieldLink "DanceCards" (10 : Nat) "DanceCards" "guests" "LDanceCards$Guests;") ∈ gws := mem_g (i := 186) (by decide +kernel) (by decide +kernel)
theorem wg_187 : (Jvm.Cond.fieldLink "DanceCards" (19 : Nat) "DanceCards" "tape" "LDanceCards$Tape;") ∈ gws := mem_g (i := 187) (by decide +kernel) (by decide +kernel)
theorem wg_188 : (Jvm.Cond.fieldLink "DanceCards" (26 : Nat) "DanceCards" "cards" "LDanceCards$Cards;") ∈ gws := mem_g (i := 188) (by decide +kernel) (by decide +kernel)
theorem wg_189 : (Jvm.Cond.fieldLink "DanceCards" (33 : Nat) "DanceCards" "pairing" "LDanceCards$Pairing;") ∈ gws := mem_g (i := 189) (by decide +kernel) (by decide +kernel)
theorem wg_190 : (Jvm.Cond.fieldLink "DanceCards" (40 : Nat) "DanceCards" "papers" "LDanceCards$Papers;") ∈ gws := mem_g (i := 190) (by decide +kernel) (by decide +kernel)
theorem wg_191 : (Jvm.Cond.fieldLink "DanceCards" (47 : Nat) "DanceCards" "wishes" "LDanceCards$Wishes;") ∈ gws := mem_g (i := 191) (by decide +kernel) (by decide +kernel)
theorem wg_192 : (Jvm.Cond.fieldLink "DanceCards" (54 : Nat) "DanceCards" "grouping" "LDanceCards$Grouping;") ∈ gws := mem_g (i := 192) (by decide +kernel) (by decide +kernel)
theorem wg_193 : (Jvm.Cond.laysFinal "DanceCards" "DanceCards" "guests" "LDanceCards$Guests;") ∈ gws := mem_g (i := 193) (by decide +kernel) (by decide +kernel)
theorem wg_195 : (Jvm.Cond.laysFinal "DanceCards" "DanceCards" "tape" "LDanceCards$Tape;") ∈ gws := mem_g (i := 195) (by decide +kernel) (by decide +kernel)
theorem wg_197 : (Jvm.Cond.laysFinal "DanceCards" "DanceCards" "cards" "LDanceCards$Cards;") ∈ gws := mem_g (i := 197) (by decide +kernel) (by decide +kernel)
theorem wg_199 : (Jvm.Cond.laysFinal "DanceCards" "DanceCards" "pairing" "LDanceCards$Pairing;") ∈ gws := mem_g (i := 199) (by decide +kernel) (by decide +kernel)
theorem wg_201 : (Jvm.Cond.laysFinal "DanceCards" "DanceCards" "papers" "LDanceCards$Papers;") ∈ gws := mem_g (i := 201) (by decide +kernel) (by decide +kernel)
theorem wg_203 : (Jvm.Cond.laysFinal "DanceCards" "DanceCards" "wishes" "LDanceCards$Wishes;") ∈ gws := mem_g (i := 203) (by decide +kernel) (by decide +kernel)
theorem wg_205 : (Jvm.Cond.laysFinal "DanceCards" "DanceCards" "grouping" "LDanceCards$Grouping;") ∈ gws := mem_g (i := 205) (by decide +kernel) (by decide +kernel)
theorem wg_211 : (Jvm.Cond.code ({ cls := "DanceCards", name := "person", desc := "(ZI)I" } : Jvm.MethodName) prog_1_method_2_code (3 : Nat) (Option.some Jvm.ClassFile.FieldType.int)) ∈ gws := mem_g (i := 211) (by decide +kernel) (by decide +kernel)
theorem wg_212 : (Jvm.Cond.methodLink "DanceCards" (58 : Nat) ({ cls := "DanceCards", name := "isWithin", desc := "(III)Z" } : Jvm.MethodName)) ∈ gws := mem_g (i := 212) (by decide +kernel) (by decide +kernel)
theorem wg_213 : (Jvm.Cond.static ({ cls := "DanceCards", name := "isWithin", desc := "(III)Z" } : Jvm.MethodName)) ∈ gws := mem_g (i := 213) (by decide +kernel) (by decide +kernel)
theorem wg_214 : (Jvm.Cond.code ({ cls := "DanceCards", name := "isWithin", desc := "(III)Z" } : Jvm.MethodName) prog_1_method_31_code (3 : Nat) (Option.some Jvm.ClassFile.FieldType.boolean)) ∈ gws := mem_g (i := 214) (by decide +kernel) (by decide +kernel)
theorem wg_217 : (Jvm.Cond.instanceMethod ({ cls := "DanceCards$Guests", name := "welcome", desc := "(ZI)I" } : Jvm.MethodName)) ∈ gws := mem_g (i := 217) (by decide +kernel) (by decide +kernel)
theorem wg_218 : (Jvm.Cond.code ({ cls := "DanceCards$Guests", name := "welcome", desc := "(ZI)I" } : Jvm.MethodName) prog_4_method_2_code (3 : Nat) (Option.some Jvm.ClassFile.FieldType.int)) ∈ gws := mem_g (i := 218) (by decide +kernel) (by decide +kernel)
theorem wg_222 : (Jvm.Cond.code ({ cls := "DanceCards", name := "introduce", desc := "(III)I" } : Jvm.MethodName) prog_1_method_3_code (4 : Nat) (Option.some Jvm.ClassFile.FieldType.int)) ∈ gws := mem_g (i := 222) (by decide +kernel) (by decide +kernel)
theorem wg_223 : (Jvm.Cond.methodLink "DanceCards" (70 : Nat) ({ cls := "DanceCards", name := "areTwo", desc := "(II)Z" } : Jvm.MethodName)) ∈ gws := mem_g (i := 223) (by decide +kernel) (by decide +kernel)
theorem wg_225 : (Jvm.Cond.instanceMethod ({ cls := "DanceCards", name := "areTwo", desc := "(II)Z" } : Jvm.MethodName)) ∈ gws := mem_g (i := 225) (by decide +kernel) (by decide +kernel)
theorem wg_226 : (Jvm.Cond.code ({ cls := "DanceCards", name := "areTwo", desc := "(II)Z" } : Jvm.MethodName) prog_1_method_36_code (3 : Nat) (Option.some Jvm.ClassFile.FieldType.boolean)) ∈ gws := mem_g (i := 226) (by decide +kernel) (by decide +kernel)
theorem wg_229 : (Jvm.Cond.instanceMethod ({ cls := "DanceCards$Guests", name := "isThere", desc := "(I)Z" } : Jvm.MethodName)) ∈ gws := mem_g (i := 229) (by decide +kernel) (by decide +kernel)
theorem wg_230 : (Jvm.Cond.code ({ cls := "DanceCards$Guests", name := "isThere", desc := "(I)Z" } : Jvm.MethodName) prog_4_method_3_code (2 : Nat) (Option.some Jvm.ClassFile.FieldType.boolean)) ∈ gws := mem_g (i := 230) (by decide +kernel) (by decide +kernel)
theorem wg_233 : (Jvm.Cond.instanceMethod ({ cls := "DanceCards$Guests", name := "areKnown", desc := "(II)Z" } : Jvm.MethodName)) ∈ gws := mem_g (i := 233) (by decide +kernel) (by decide +kernel)
theorem wg_234 : (Jvm.Cond.code ({ cls := "DanceCards$Guests", name := "areKnown", desc := "(II)Z" } : Jvm.MethodName) prog_4_method_8_code (3 : Nat) (Option.some Jvm.ClassFile.FieldType.boolean)) ∈ gws := mem_g (i := 234) (by decide +kernel) (by decide +kernel)
theorem wg_237 : (Jvm.Cond.instanceMethod ({ cls := "DanceCards$Guests", name := "makeKnown", desc := "(II)V" } : Jvm.MethodName)) ∈ gws := mem_g (i := 237) (by decide +kernel) (by decide +kernel)
theorem wg_238 : (Jvm.Cond.code ({ cls := "DanceCards$Guests", name := "makeKnown", desc := "(II)V" } : Jvm.MethodName) prog_4_method_9_code (3 : Nat) (Option.none : Option Jvm.ClassFile.FieldType)) ∈ gws := mem_g (i := 238) (by decide +kernel) (by decide +kernel)
theorem wg_242 : (Jvm.Cond.code ({ cls := "DanceCards", name := "feud", desc := "(IIZ)I" } : Jvm.MethodName) prog_1_method_4_code (5 : Nat) (Option.some Jvm.ClassFile.FieldType.int)) ∈ gws := mem_g (i := 242) (by decide +kernel) (by decide +kernel)
theorem wg_245 : (Jvm.Cond.instanceMethod ({ cls := "DanceCards$Guests", name := "areAtFeud", desc := "(II)Z" } : Jvm.MethodName)) ∈ gws := mem_g (i := 245) (by decide +kernel) (by decide +kernel)
theorem wg_246 : (Jvm.Cond.code ({ cls := "DanceCards$Guests", name := "areAtFeud", desc := "(II)Z" } : Jvm.MethodName) prog_4_method_10_code (3 : Nat) (Option.some Jvm.ClassFile.FieldType.boolean)) ∈ gws := mem_g (i := 246) (by decide +kernel) (by decide +kernel)
theorem wg_247 : (Jvm.Cond.methodLink "DanceCards" (88 : Nat) ({ cls := "DanceCards", name := "toInt", desc := "(Z)I" } : Jvm.MethodName)) ∈ gws := mem_g (i := 247) (by decide +kernel) (by decide +kernel)
theorem wg_248 : (Jvm.Cond.static ({ cls := "DanceCards", name := "toInt", desc := "(Z)I" } : Jvm.MethodName)) ∈ gws := mem_g (i := 248) (by decide +kernel) (by decide +kernel)
theorem wg_249 : (Jvm.Cond.code ({ cls := "DanceCards", name := "toInt", desc := "(Z)I" } : Jvm.MethodName) prog_1_method_35_code (1 : Nat) (Option.some Jvm.ClassFile.FieldType.int)) ∈ gws := mem_g (i := 249) (by decide +kernel) (by decide +kernel)
theorem wg_252 : (Jvm.Cond.instanceMethod ({ cls := "DanceCards$Guests", name := "putAtFeud", desc := "(IIZ)V" } : Jvm.MethodName)) ∈ gws := mem_g (i := 252) (by decide +kernel) (by decide +kernel)
theorem wg_253 : (Jvm.Cond.code ({ cls := "DanceCards$Guests", name := "putAtFeud", desc := "(IIZ)V" } : Jvm.MethodName) prog_4_method_11_code (4 : Nat) (Option.none : Option Jvm.ClassFile.FieldType)) ∈ gws := mem_g (i := 253) (by decide +kernel) (by decide +kernel)
theorem wg_257 : (Jvm.Cond.code ({ cls := "DanceCards", name := "knows", desc := "(II)I" } : Jvm.MethodName) prog_1_method_5_code (3 : Nat) (Option.some Jvm.ClassFile.FieldType.int)) ∈ gws := mem_g (i := 257) (by decide +kernel) (by decide +kernel)
theorem wg_261 : (Jvm.Cond.code ({ cls := "DanceCards", name := "feed", desc := "(J)I" } : Jvm.MethodName) prog_1_method_6_code (3 : Nat) (Option.some Jvm.ClassFile.FieldType.int)) ∈ gws := mem_g (i := 261) (by decide +kernel) (by decide +kernel)
theorem wg_264 : (Jvm.Cond.instanceMethod ({ cls := "DanceCards$Tape", name := "takeEight", desc := "(J)I" } : Jvm.MethodName)) ∈ gws := mem_g (i := 264) (by decide +kernel) (by decide +kernel)
theorem wg_265 : (Jvm.Cond.code ({ cls := "DanceCards$Tape", name := "takeEight", desc := "(J)I" } : Jvm.MethodName) prog_7_method_4_code (4 : Nat) (Option.some Jvm.ClassFile.FieldType.int)) ∈ gws := mem_g (i := 265) (by decide +kernel) (by decide +kernel)
theorem wg_269 : (Jvm.Cond.code ({ cls := "DanceCards", name := "end", desc := "(I)I" } : Jvm.MethodName) prog_1_method_7_code (2 : Nat) (Option.some Jvm.ClassFile.FieldType.int)) ∈ gws := mem_g (i := 269) (by decide +kernel) (by decide +kernel)
theorem wg_272 : (Jvm.Cond.instanceMethod ({ cls := "DanceCards$Tape", name := "keepFirst", desc := "(I)I" } : Jvm.MethodName)) ∈ gws := mem_g (i := 272) (by decide +kernel) (by decide +kernel)
theorem wg_273 : (Jvm.Cond.code ({ cls := "DanceCards$Tape", name := "keepFirst", desc := "(I)I" } : Jvm.MethodName) prog_7_method_5_code (3 : Nat) (Option.some Jvm.ClassFile.FieldType.int)) ∈ gws := mem_g (i := 273) (by decide +kernel) (by decide +kernel)
theorem wg_278 : (Jvm.Cond.code ({ cls := "DanceCards", name := "customs", desc := "()I" } : Jvm.MethodName) prog_1_method_8_code (1 : Nat) (Option.some Jvm.ClassFile.FieldType.int)) ∈ gws := mem_g (i := 278) (by decide +kernel) (by decide +kernel)
theorem wg_281 : (Jvm.Cond.instanceMethod ({ cls := "DanceCards$Tape", name := "tellAll", desc := "()I" } : Jvm.MethodName)) ∈ gws := mem_g (i := 281) (by decide +kernel) (by decide +kernel)
theorem wg_282 : (Jvm.Cond.code ({ cls := "DanceCards$Tape", name := "tellAll", desc := "()I" } : Jvm.MethodName) prog_7_method_6_code (1 : Nat) (Option.some Jvm.ClassFile.FieldType.int)) ∈ gws := mem_g (i := 282) (by decide +kernel) (by decide +kernel)
theorem wg_283 : (Jvm.Cond.methodLink "DanceCards$Tape" (47 : Nat) ({ cls := "DanceCards$Tape", name := "readText", desc := "()I" } : Jvm.MethodName)) ∈ gws := mem_g (i := 283) (by decide +kernel) (by decide +kernel)
theorem wg_285 : (Jvm.Cond.instanceMethod ({ cls := "DanceCards$Tape", name := "readText", desc := "()I" } : Jvm.MethodName)) ∈ gws := mem_g (i := 285) (by decide +kernel) (by decide +kernel)
theorem wg_286 : (Jvm.Cond.code ({ cls := "DanceCards$Tape", name := "readText", desc := "()I" } : Jvm.MethodName) prog_7_method_7_code (3 : Nat) (Option.some Jvm.ClassFile.FieldType.int)) ∈ gws := mem_g (i := 286) (by decide +kernel) (by decide +kernel)
theorem wg_287 : (Jvm.Cond.methodLink "DanceCards$Tape" (66 : Nat) ({ cls := "DanceCards$Tape", name := "readToken", desc := "()V" } : Jvm.MethodName)) ∈ gws := mem_g (i := 287) (by decide +kernel) (by decide +kernel)
theorem wg_289 : (Jvm.Cond.instanceMethod ({ cls := "DanceCards$Tape", name := "readToken", desc := "()V" } : Jvm.MethodName)) ∈ gws := mem_g (i := 289) (by decide +kernel) (by decide +kernel)
theorem wg_290 : (Jvm.Cond.code ({ cls := "DanceCards$Tape", name := "readToken", desc := "()V" } : Jvm.MethodName) prog_7_method_10_code (1 : Nat) (Option.none : Option Jvm.ClassFile.FieldType)) ∈ gws := mem_g (i := 290) (by decide +kernel) (by decide +kernel)
theorem wg_291 : (Jvm.Cond.methodLink "DanceCards$Tape" (88 : Nat) ({ cls := "DanceCards$Tape", name := "isLetter", desc := "(I)Z" } : Jvm.MethodName)) ∈ gws := mem_g (i := 291) (by decide +kernel) (by decide +kernel)
theorem wg_293 : (Jvm.Cond.instanceMethod ({ cls := "DanceCards$Tape", name := "isLetter", desc := "(I)Z" } : Jvm.MethodName)) ∈ gws := mem_g (i := 293) (by decide +kernel) (by decide +kernel)
theorem wg_294 : (Jvm.Cond.code ({ cls := "DanceCards$Tape", name := "isLetter", desc := "(I)Z" } : Jvm.MethodName) prog_7_method_13_code (2 : Nat) (Option.some Jvm.ClassFile.FieldType.boolean)) ∈ gws := mem_g (i := 294) (by decide +kernel) (by decide +kernel)
theorem wg_295 : (Jvm.Cond.methodLink "DanceCards$Tape" (91 : Nat) ({ cls := "DanceCards$Tape", name := "readName", desc := "()V" } : Jvm.MethodName)) ∈ gws := mem_g (i := 295) (by decide +kernel) (by decide +kernel)
theorem wg_297 : (Jvm.Cond.instanceMethod ({ cls := "DanceCards$Tape", name := "readName", desc := "()V" } : Jvm.MethodName)) ∈ gws := mem_g (i := 297) (by decide +kernel) (by decide +kernel)
theorem wg_298 : (Jvm.Cond.code ({ cls := "DanceCards$Tape", name := "readName", desc := "()V" } : Jvm.MethodName) prog_7_method_11_code (2 : Nat) (Option.none : Option Jvm.ClassFile.FieldType)) ∈ gws := mem_g (i := 298) (by decide +kernel) (by decide +kernel)
theorem wg_299 : (Jvm.Cond.methodLink "DanceCards$Tape" (100 : Nat) ({ cls := "DanceCards$Tape", name := "nameOf", desc := "(I)Ljava/lang/String;" } : Jvm.MethodName)) ∈ gws := mem_g (i := 299) (by decide +kernel) (by decide +kernel)
theorem wg_300 : (Jvm.Cond.static ({ cls := "DanceCards$Tape", name := "nameOf", desc := "(I)Ljava/lang/String;" } : Jvm.MethodName)) ∈ gws := mem_g (i := 300) (by decide +kernel) (by decide +kernel)
theorem wg_301 : (Jvm.Cond.code ({ cls := "DanceCards$Tape", name := "nameOf", desc := "(I)Ljava/lang/String;" } : Jvm.MethodName) prog_7_method_16_code (1 : Nat) (Option.some (Jvm.ClassFile.FieldType.object "java/lang/String"))) ∈ gws := mem_g (i := 301) (by decide +kernel) (by decide +kernel)
theorem wg_306 : (Jvm.Cond.methodLink "DanceCards$Tape" (104 : Nat) ({ cls := "DanceCards$Tape", name := "isTokenText", desc := "(Ljava/lang/String;)Z" } : Jvm.MethodName)) ∈ gws := mem_g (i := 306) (by decide +kernel) (by decide +kernel)
theorem wg_308 : (Jvm.Cond.instanceMethod ({ cls := "DanceCards$Tape", name := "isTokenText", desc := "(Ljava/lang/String;)Z" } : Jvm.MethodName)) ∈ gws := mem_g (i := 308) (by decide +kernel) (by decide +kernel)
theorem wg_309 : (Jvm.Cond.code ({ cls := "DanceCards$Tape", name := "isTokenText", desc := "(Ljava/lang/String;)Z" } : Jvm.MethodName) prog_7_method_15_code (3 : Nat) (Option.some Jvm.ClassFile.FieldType.boolean)) ∈ gws := mem_g (i := 309) (by decide +kernel) (by decide +kernel)
theorem wg_310 : (Jvm.Cond.methodLink "DanceCards$Tape" (108 : Nat) ({ cls := "java/lang/String", name := "length", desc := "()I" } : Jvm.MethodName)) ∈ gws := mem_g (i := 310) (by decide +kernel) (by decide +kernel)
theorem wg_311 : (Jvm.Cond.instanceMethod ({ cls := "java/lang/String", name := "length", desc := "()I" } : Jvm.MethodName)) ∈ gws := mem_g (i := 311) (by decide +kernel) (by decide +kernel)
theorem wg_312 : (Jvm.Cond.selects "java/lang/String" ({ cls := "java/lang/String", name := "length", desc := "()I" } : Jvm.MethodName) ({ cls := "java/lang/String", name := "length", desc := "()I" } : Jvm.MethodName)) ∈ gws := mem_g (i := 312) (by decide +kernel) (by decide +kernel)
theorem wg_313 : (Jvm.Cond.code ({ cls := "java/lang/String", name := "length", desc := "()I" } : Jvm.MethodName) prog_13_method_54_code (1 : Nat) (Option.some Jvm.ClassFile.FieldType.int)) ∈ gws := mem_g (i := 313) (by decide +kernel) (by decide +kernel)
theorem wg_314 : (Jvm.Cond.methodLink "java/lang/String" (335 : Nat) ({ cls := "java/lang/String", name := "coder", desc := "()B" } : Jvm.MethodName)) ∈ gws := mem_g (i := 314) (by decide +kernel) (by decide +kernel)
theorem wg_315 : (Jvm.Cond.instanceMethod ({ cls := "java/lang/String", name := "coder", desc := "()B" } : Jvm.MethodName)) ∈ gws := mem_g (i := 315) (by decide +kernel) (by decide +kernel)
theorem wg_316 : (Jvm.Cond.selects "java/lang/String" ({ cls := "java/lang/String", name := "coder", desc := "()B" } : Jvm.MethodName) ({ cls := "java/lang/String", name := "coder", desc := "()B" } : Jvm.MethodName)) ∈ gws := mem_g (i := 316) (by decide +kernel) (by decide +kernel)
theorem wg_317 : (Jvm.Cond.code ({ cls := "java/lang/String", name := "coder", desc := "()B" } : Jvm.MethodName) prog_13_method_152_code (1 : Nat) (Option.some Jvm.ClassFile.FieldType.byte)) ∈ gws := mem_g (i := 317) (by decide +kernel) (by decide +kernel)
theorem wg_318 : (Jvm.Cond.fieldLink "java/lang/String" (38 : Nat) "java/lang/String" "COMPACT_STRINGS" "Z") ∈ gws := mem_g (i := 318) (by decide +kernel) (by decide +kernel)
theorem wg_320 : (Jvm.Cond.methodLink "DanceCards$Tape" (112 : Nat) ({ cls := "java/lang/String", name := "charAt", desc := "(I)C" } : Jvm.MethodName)) ∈ gws := mem_g (i := 320) (by decide +kernel) (by decide +kernel)
theorem wg_321 : (Jvm.Cond.instanceMethod ({ cls := "java/lang/String", name := "charAt", desc := "(I)C" } : Jvm.MethodName)) ∈ gws := mem_g (i := 321) (by decide +kernel) (by decide +kernel)
theorem wg_322 : (Jvm.Cond.selects "java/lang/String" ({ cls := "java/lang/String", name := "charAt", desc := "(I)C" } : Jvm.MethodName) ({ cls := "java/lang/String", name := "charAt", desc := "(I)C" } : Jvm.MethodName)) ∈ gws := mem_g (i := 322) (by decide +kernel) (by decide +kernel)
theorem wg_323 : (Jvm.Cond.code ({ cls := "java/lang/String", name := "charAt", desc := "(I)C" } : Jvm.MethodName) prog_13_method_56_code (2 : Nat) (Option.some Jvm.ClassFile.FieldType.char)) ∈ gws := mem_g (i := 323) (by decide +kernel) (by decide +kernel)
theorem wg_324 : (Jvm.Cond.methodLink "java/lang/String" (492 : Nat) ({ cls := "java/lang/String", name := "isLatin1", desc := "()Z" } : Jvm.MethodName)) ∈ gws := mem_g (i := 324) (by decide +kernel) (by decide +kernel)
theorem wg_325 : (Jvm.Cond.instanceMethod ({ cls := "java/lang/String", name := "isLatin1", desc := "()Z" } : Jvm.MethodName)) ∈ gws := mem_g (i := 325) (by decide +kernel) (by decide +kernel)
theorem wg_326 : (Jvm.Cond.selects "java/lang/String" ({ cls := "java/lang/String", name := "isLatin1", desc := "()Z" } : Jvm.MethodName) ({ cls := "java/lang/String", name := "isLatin1", desc := "()Z" } : Jvm.MethodName)) ∈ gws := mem_g (i := 326) (by decide +kernel) (by decide +kernel)
theorem wg_327 : (Jvm.Cond.code ({ cls := "java/lang/String", name := "isLatin1", desc := "()Z" } : Jvm.MethodName) prog_13_method_154_code (1 : Nat) (Option.some Jvm.ClassFile.FieldType.boolean)) ∈ gws := mem_g (i := 327) (by decide +kernel) (by decide +kernel)
theorem wg_328 : (Jvm.Cond.methodLink "java/lang/String" (495 : Nat) ({ cls := "java/lang/StringLatin1", name := "charAt", desc := "([BI)C" } : Jvm.MethodName)) ∈ gws := mem_g (i := 328) (by decide +kernel) (by decide +kernel)
theorem wg_329 : (Jvm.Cond.static ({ cls := "java/lang/StringLatin1", name := "charAt", desc := "([BI)C" } : Jvm.MethodName)) ∈ gws := mem_g (i := 329) (by decide +kernel) (by decide +kernel)
theorem wg_330 : (Jvm.Cond.code ({ cls := "java/lang/StringLatin1", name := "charAt", desc := "([BI)C" } : Jvm.MethodName) prog_14_method_2_code (2 : Nat) (Option.some Jvm.ClassFile.FieldType.char)) ∈ gws := mem_g (i := 330) (by decide +kernel) (by decide +kernel)
theorem wg_331 : (Jvm.Cond.methodLink "java/lang/StringLatin1" (9 : Nat) ({ cls := "java/lang/String", name := "checkIndex", desc := "(II)V" } : Jvm.MethodName)) ∈ gws := mem_g (i := 331) (by decide +kernel) (by decide +kernel)
theorem wg_332 : (Jvm.Cond.static ({ cls := "java/lang/String", name := "checkIndex", desc := "(II)V" } : Jvm.MethodName)) ∈ gws := mem_g (i := 332) (by decide +kernel) (by decide +kernel)
theorem wg_333 : (Jvm.Cond.code ({ cls := "java/lang/String", name := "checkIndex", desc := "(II)V" } : Jvm.MethodName) prog_13_method_155_code (2 : Nat) (Option.none : Option Jvm.ClassFile.FieldType)) ∈ gws := mem_g (i := 333) (by decide +kernel) (by decide +kernel)
theorem wg_334 : (Jvm.Cond.fieldLink "java/lang/String" (1053 : Nat) "jdk/internal/util/Preconditions" "SIOOBE_FORMATTER" "Ljava/util/function/BiFunction;") ∈ gws := mem_g (i := 334) (by decide +kernel) (by decide +kernel)
theorem wg_336 : (Jvm.Cond.methodLink "java/lang/String" (1059 : Nat) ({ cls := "jdk/internal/util/Preconditions", name := "checkIndex", desc := "(IILjava/util/function/BiFunction;)I" } : Jvm.MethodName)) ∈ gws := mem_g (i := 336) (by decide +kernel) (by decide +kernel)
theorem wg_337 : (Jvm.Cond.static ({ cls := "jdk/internal/util/Preconditions", name := "checkIndex", desc := "(IILjava/util/function/BiFunction;)I" } : Jvm.MethodName)) ∈ gws := mem_g (i := 337) (by decide +kernel) (by decide +kernel)
theorem wg_338 : (Jvm.Cond.code ({ cls := "jdk/internal/util/Preconditions", name := "checkIndex", desc := "(IILjava/util/function/BiFunction;)I" } : Jvm.MethodName) prog_18_method_11_code (3 : Nat) (Option.some Jvm.ClassFile.FieldType.int)) ∈ gws := mem_g (i := 338) (by decide +kernel) (by decide +kernel)
theorem wg_358 : (Jvm.Cond.methodLink "DanceCards$Tape" (94 : Nat) ({ cls := "DanceCards$Tape", name := "isFigure", desc := "(I)Z" } : Jvm.MethodName)) ∈ gws := mem_g (i := 358) (by decide +kernel) (by decide +kernel)
theorem wg_360 : (Jvm.Cond.instanceMethod ({ cls := "DanceCards$Tape", name := "isFigure", desc := "(I)Z" } : Jvm.MethodName)) ∈ gws := mem_g (i := 360) (by decide +kernel) (by decide +kernel)
theorem wg_361 : (Jvm.Cond.code ({ cls := "DanceCards$Tape", name := "isFigure", desc := "(I)Z" } : Jvm.MethodName) prog_7_method_14_code (2 : Nat) (Option.some Jvm.ClassFile.FieldType.boolean)) ∈ gws := mem_g (i := 361) (by decide +kernel) (by decide +kernel)
theorem wg_362 : (Jvm.Cond.methodLink "DanceCards$Tape" (97 : Nat) ({ cls := "DanceCards$Tape", name := "readNumber", desc := "()V" } : Jvm.MethodName)) ∈ gws := mem_g (i := 362) (by decide +kernel) (by decide +kernel)
theorem wg_364 : (Jvm.Cond.instanceMethod ({ cls := "DanceCards$Tape", name := "readNumber", desc := "()V" } : Jvm.MethodName)) ∈ gws := mem_g (i := 364) (by decide +kernel) (by decide +kernel)
theorem wg_365 : (Jvm.Cond.code ({ cls := "DanceCards$Tape", name := "readNumber", desc := "()V" } : Jvm.MethodName) prog_7_method_12_code (1 : Nat) (Option.none : Option Jvm.ClassFile.FieldType)) ∈ gws := mem_g (i := 365) (by decide +kernel) (by decide +kernel)
theorem wg_366 : (Jvm.Cond.methodLink "DanceCards$Tape" (72 : Nat) ({ cls := "DanceCards$Tape", name := "readCustom", desc := "()I" } : Jvm.MethodName)) ∈ gws := mem_g (i := 366) (by decide +kernel) (by decide +kernel)
theorem wg_368 : (Jvm.Cond.instanceMethod ({ cls := "DanceCards$Tape", name := "readCustom", desc := "()I" } : Jvm.MethodName)) ∈ gws := mem_g (i := 368) (by decide +kernel) (by decide +kernel)
theorem wg_369 : (Jvm.Cond.code ({ cls := "DanceCards$Tape", name := "readCustom", desc := "()I" } : Jvm.MethodName) prog_7_method_8_code (3 : Nat) (Option.some Jvm.ClassFile.FieldType.int)) ∈ gws := mem_g (i := 369) (by decide +kernel) (by decide +kernel)
theorem wg_370 : (Jvm.Cond.methodLink "DanceCards$Tape" (75 : Nat) ({ cls := "DanceCards$Tape", name := "faultUnless", desc := "(I)I" } : Jvm.MethodName)) ∈ gws := mem_g (i := 370) (by decide +kernel) (by decide +kernel)
theorem wg_372 : (Jvm.Cond.instanceMethod ({ cls := "DanceCards$Tape", name := "faultUnless", desc := "(I)I" } : Jvm.MethodName)) ∈ gws := mem_g (i := 372) (by decide +kernel) (by decide +kernel)
theorem wg_373 : (Jvm.Cond.code ({ cls := "DanceCards$Tape", name := "faultUnless", desc := "(I)I" } : Jvm.MethodName) prog_7_method_9_code (2 : Nat) (Option.some Jvm.ClassFile.FieldType.int)) ∈ gws := mem_g (i := 373) (by decide +kernel) (by decide +kernel)
theorem wg_374 : (Jvm.Cond.fieldLink "DanceCards$Tape" (82 : Nat) "DanceCards$Tape" "LEAST" "[I") ∈ gws := mem_g (i := 374) (by decide +kernel) (by decide +kernel)
theorem wg_376 : (Jvm.Cond.fieldLink "DanceCards$Tape" (85 : Nat) "DanceCards$Tape" "MOST" "[I") ∈ gws := mem_g (i := 376) (by decide +kernel) (by decide +kernel)
theorem wg_378 : (Jvm.Cond.methodLink "DanceCards$Tape" (57 : Nat) ({ cls := "java/lang/System", name := "arraycopy", desc := "(Ljava/lang/Object;ILjava/lang/Object;II)V" } : Jvm.MethodName)) ∈ gws := mem_g (i := 378) (by decide +kernel) (by decide +kernel)
theorem wg_379 : (Jvm.Cond.static ({ cls := "java/lang/System", name := "arraycopy", desc := "(Ljava/lang/Object;ILjava/lang/Object;II)V" } : Jvm.MethodName)) ∈ gws := mem_g (i := 379) (by decide +kernel) (by decide +kernel)
theorem wg_380 : (Jvm.Cond.native ({ cls := "java/lang/System", name := "arraycopy", desc := "(Ljava/lang/Object;ILjava/lang/Object;II)V" } : Jvm.MethodName)) ∈ gws := mem_g (i := 380) (by decide +kernel) (by decide +kernel)
theorem wg_381 : (Jvm.Cond.methodLink "DanceCards$Tape" (63 : Nat) ({ cls := "DanceCards$Tape", name := "toldCustoms", desc := "()I" } : Jvm.MethodName)) ∈ gws := mem_g (i := 381) (by decide +kernel) (by decide +kernel)
theorem wg_383 : (Jvm.Cond.instanceMethod ({ cls := "DanceCards$Tape", name := "toldCustoms", desc := "()I" } : Jvm.MethodName)) ∈ gws := mem_g (i := 383) (by decide +kernel) (by decide +kernel)
theorem wg_384 : (Jvm.Cond.code ({ cls := "DanceCards$Tape", name := "toldCustoms", desc := "()I" } : Jvm.MethodName) prog_7_method_3_code (3 : Nat) (Option.some Jvm.ClassFile.FieldType.int)) ∈ gws := mem_g (i := 384) (by decide +kernel) (by decide +kernel)
theorem wg_385 : (Jvm.Cond.methodLink "DanceCards$Tape" (28 : Nat) ({ cls := "DanceCards$Tape", name := "isTold", desc := "(I)Z" } : Jvm.MethodName)) ∈ gws := mem_g (i := 385) (by decide +kernel) (by decide +kernel)
theorem wg_387 : (Jvm.Cond.instanceMethod ({ cls := "DanceCards$Tape", name := "isTold", desc := "(I)Z" } : Jvm.MethodName)) ∈ gws := mem_g (i := 387) (by decide +kernel) (by decide +kernel)
theorem wg_388 : (Jvm.Cond.code ({ cls := "DanceCards$Tape", name := "isTold", desc := "(I)Z" } : Jvm.MethodName) prog_7_method_2_code (2 : Nat) (Option.some Jvm.ClassFile.FieldType.boolean)) ∈ gws := mem_g (i := 388) (by decide +kernel) (by decide +kernel)
theorem wg_393 : (Jvm.Cond.code ({ cls := "DanceCards", name := "fault", desc := "()I" } : Jvm.MethodName) prog_1_method_9_code (1 : Nat) (Option.some Jvm.ClassFile.FieldType.int)) ∈ gws := mem_g (i := 393) (by decide +kernel) (by decide +kernel)
theorem wg_397 : (Jvm.Cond.code ({ cls := "DanceCards", name := "custom", desc := "(I)I" } : Jvm.MethodName) prog_1_method_10_code (2 : Nat) (Option.some Jvm.ClassFile.FieldType.int)) ∈ gws := mem_g (i := 397) (by decide +kernel) (by decide +kernel)
theorem wg_401 : (Jvm.Cond.code ({ cls := "DanceCards", name := "ask", desc := "(III)I" } : Jvm.MethodName) prog_1_method_11_code (5 : Nat) (Option.some Jvm.ClassFile.FieldType.int)) ∈ gws := mem_g (i := 401) (by decide +kernel) (by decide +kernel)
theorem wg_402 : (Jvm.Cond.methodLink "DanceCards" (115 : Nat) ({ cls := "DanceCards", name := "isAsking", desc := "(III)Z" } : Jvm.MethodName)) ∈ gws := mem_g (i := 402) (by decide +kernel) (by decide +kernel)
theorem wg_404 : (Jvm.Cond.instanceMethod ({ cls := "DanceCards", name := "isAsking", desc := "(III)Z" } : Jvm.MethodName)) ∈ gws := mem_g (i := 404) (by decide +kernel) (by decide +kernel)
theorem wg_405 : (Jvm.Cond.code ({ cls := "DanceCards", name := "isAsking", desc := "(III)Z" } : Jvm.MethodName) prog_1_method_37_code (4 : Nat) (Option.some Jvm.ClassFile.FieldType.boolean)) ∈ gws := mem_g (i := 405) (by decide +kernel) (by decide +kernel)
theorem wg_408 : (Jvm.Cond.instanceMethod ({ cls := "DanceCards$Guests", name := "isGentleman", desc := "(I)Z" } : Jvm.MethodName)) ∈ gws := mem_g (i := 408) (by decide +kernel) (by decide +kernel)
theorem wg_409 : (Jvm.Cond.code ({ cls := "DanceCards$Guests", name := "isGentleman", desc := "(I)Z" } : Jvm.MethodName) prog_4_method_5_code (2 : Nat) (Option.some Jvm.ClassFile.FieldType.boolean)) ∈ gws := mem_g (i := 409) (by decide +kernel) (by decide +kernel)
theorem wg_410 : (Jvm.Cond.methodLink "DanceCards$Guests" (32 : Nat) ({ cls := "DanceCards$Guests", name := "isThere", desc := "(I)Z" } : Jvm.MethodName)) ∈ gws := mem_g (i := 410) (by decide +kernel) (by decide +kernel)
theorem wg_413 : (Jvm.Cond.instanceMethod ({ cls := "DanceCards$Guests", name := "isLady", desc := "(I)Z" } : Jvm.MethodName)) ∈ gws := mem_g (i := 413) (by decide +kernel) (by decide +kernel)
theorem wg_414 : (Jvm.Cond.code ({ cls := "DanceCards$Guests", name := "isLady", desc := "(I)Z" } : Jvm.MethodName) prog_4_method_4_code (2 : Nat) (Option.some Jvm.ClassFile.FieldType.boolean)) ∈ gws := mem_g (i := 414) (by decide +kernel) (by decide +kernel)
theorem wg_415 : (Jvm.Cond.methodLink "DanceCards" (139 : Nat) ({ cls := "DanceCards", name := "isDance", desc := "(I)Z" } : Jvm.MethodName)) ∈ gws := mem_g (i := 415) (by decide +kernel) (by decide +kernel)
theorem wg_416 : (Jvm.Cond.static ({ cls := "DanceCards", name := "isDance", desc := "(I)Z" } : Jvm.MethodName)) ∈ gws := mem_g (i := 416) (by decide +kernel) (by decide +kernel)
theorem wg_417 : (Jvm.Cond.code ({ cls := "DanceCards", name := "isDance", desc := "(I)Z" } : Jvm.MethodName) prog_1_method_32_code (1 : Nat) (Option.some Jvm.ClassFile.FieldType.boolean)) ∈ gws := mem_g (i := 417) (by decide +kernel) (by decide +kernel)
theorem wg_418 : (Jvm.Cond.methodLink "DanceCards" (118 : Nat) ({ cls := "DanceCards", name := "reasonAgainst", desc := "(III)I" } : Jvm.MethodName)) ∈ gws := mem_g (i := 418) (by decide +kernel) (by decide +kernel)
theorem wg_420 : (Jvm.Cond.instanceMethod ({ cls := "DanceCards", name := "reasonAgainst", desc := "(III)I" } : Jvm.MethodName)) ∈ gws := mem_g (i := 420) (by decide +kernel) (by decide +kernel)
theorem wg_421 : (Jvm.Cond.code ({ cls := "DanceCards", name := "reasonAgainst", desc := "(III)I" } : Jvm.MethodName) prog_1_method_38_code (4 : Nat) (Option.some Jvm.ClassFile.FieldType.int)) ∈ gws := mem_g (i := 421) (by decide +kernel) (by decide +kernel)
theorem wg_424 : (Jvm.Cond.instanceMethod ({ cls := "DanceCards$Guests", name := "isIll", desc := "(I)Z" } : Jvm.MethodName)) ∈ gws := mem_g (i := 424) (by decide +kernel) (by decide +kernel)
theorem wg_425 : (Jvm.Cond.code ({ cls := "DanceCards$Guests", name := "isIll", desc := "(I)Z" } : Jvm.MethodName) prog_4_method_6_code (2 : Nat) (Option.some Jvm.ClassFile.FieldType.boolean)) ∈ gws := mem_g (i := 425) (by decide +kernel) (by decide +kernel)
theorem wg_429 : (Jvm.Cond.instanceMethod ({ cls := "DanceCards$Guests", name := "rankGap", desc := "(II)I" } : Jvm.MethodName)) ∈ gws := mem_g (i := 429) (by decide +kernel) (by decide +kernel)
theorem wg_430 : (Jvm.Cond.code ({ cls := "DanceCards$Guests", name := "rankGap", desc := "(II)I" } : Jvm.MethodName) prog_4_method_12_code (3 : Nat) (Option.some Jvm.ClassFile.FieldType.int)) ∈ gws := mem_g (i := 430) (by decide +kernel) (by decide +kernel)
theorem wg_431 : (Jvm.Cond.methodLink "DanceCards$Guests" (36 : Nat) ({ cls := "java/lang/Math", name := "abs", desc := "(I)I" } : Jvm.MethodName)) ∈ gws := mem_g (i := 431) (by decide +kernel) (by decide +kernel)
theorem wg_432 : (Jvm.Cond.static ({ cls := "java/lang/Math", name := "abs", desc := "(I)I" } : Jvm.MethodName)) ∈ gws := mem_g (i := 432) (by decide +kernel) (by decide +kernel)
theorem wg_433 : (Jvm.Cond.code ({ cls := "java/lang/Math", name := "abs", desc := "(I)I" } : Jvm.MethodName) prog_12_method_59_code (1 : Nat) (Option.some Jvm.ClassFile.FieldType.int)) ∈ gws := mem_g (i := 433) (by decide +kernel) (by decide +kernel)
theorem wg_436 : (Jvm.Cond.instanceMethod ({ cls := "DanceCards$Cards", name := "isTaken", desc := "(II)Z" } : Jvm.MethodName)) ∈ gws := mem_g (i := 436) (by decide +kernel) (by decide +kernel)
theorem wg_437 : (Jvm.Cond.code ({ cls := "DanceCards$Cards", name := "isTaken", desc := "(II)Z" } : Jvm.MethodName) prog_2_method_5_code (3 : Nat) (Option.some Jvm.ClassFile.FieldType.boolean)) ∈ gws := mem_g (i := 437) (by decide +kernel) (by decide +kernel)
theorem wg_438 : (Jvm.Cond.methodLink "DanceCards$Cards" (21 : Nat) ({ cls := "DanceCards$Cards", name := "entry", desc := "(II)I" } : Jvm.MethodName)) ∈ gws := mem_g (i := 438) (by decide +kernel) (by decide +kernel)
theorem wg_440 : (Jvm.Cond.instanceMethod ({ cls := "DanceCards$Cards", name := "entry", desc := "(II)I" } : Jvm.MethodName)) ∈ gws := mem_g (i := 440) (by decide +kernel) (by decide +kernel)
theorem wg_441 : (Jvm.Cond.code ({ cls := "DanceCards$Cards", name := "entry", desc := "(II)I" } : Jvm.MethodName) prog_2_method_2_code (3 : Nat) (Option.some Jvm.ClassFile.FieldType.int)) ∈ gws := mem_g (i := 441) (by decide +kernel) (by decide +kernel)
theorem wg_442 : (Jvm.Cond.methodLink "DanceCards" (255 : Nat) ({ cls := "DanceCards", name := "customAgainst", desc := "(III)I" } : Jvm.MethodName)) ∈ gws := mem_g (i := 442) (by decide +kernel) (by decide +kernel)
theorem wg_444 : (Jvm.Cond.instanceMethod ({ cls := "DanceCards", name := "customAgainst", desc := "(III)I" } : Jvm.MethodName)) ∈ gws := mem_g (i := 444) (by decide +kernel) (by decide +kernel)
theorem wg_445 : (Jvm.Cond.code ({ cls := "DanceCards", name := "customAgainst", desc := "(III)I" } : Jvm.MethodName) prog_1_method_39_code (6 : Nat) (Option.some Jvm.ClassFile.FieldType.int)) ∈ gws := mem_g (i := 445) (by decide +kernel) (by decide +kernel)
theorem wg_448 : (Jvm.Cond.instanceMethod ({ cls := "DanceCards$Cards", name := "together", desc := "(II)I" } : Jvm.MethodName)) ∈ gws := mem_g (i := 448) (by decide +kernel) (by decide +kernel)
theorem wg_449 : (Jvm.Cond.code ({ cls := "DanceCards$Cards", name := "together", desc := "(II)I" } : Jvm.MethodName) prog_2_method_10_code (5 : Nat) (Option.some Jvm.ClassFile.FieldType.int)) ∈ gws := mem_g (i := 449) (by decide +kernel) (by decide +kernel)
theorem wg_453 : (Jvm.Cond.instanceMethod ({ cls := "DanceCards$Cards", name := "rowThrough", desc := "(II)I" } : Jvm.MethodName)) ∈ gws := mem_g (i := 453) (by decide +kernel) (by decide +kernel)
theorem wg_454 : (Jvm.Cond.code ({ cls := "DanceCards$Cards", name := "rowThrough", desc := "(II)I" } : Jvm.MethodName) prog_2_method_15_code (5 : Nat) (Option.some Jvm.ClassFile.FieldType.int)) ∈ gws := mem_g (i := 454) (by decide +kernel) (by decide +kernel)
theorem wg_455 : (Jvm.Cond.methodLink "DanceCards$Cards" (29 : Nat) ({ cls := "DanceCards$Cards", name := "isPaired", desc := "(II)Z" } : Jvm.MethodName)) ∈ gws := mem_g (i := 455) (by decide +kernel) (by decide +kernel)
theorem wg_457 : (Jvm.Cond.instanceMethod ({ cls := "DanceCards$Cards", name := "isPaired", desc := "(II)Z" } : Jvm.MethodName)) ∈ gws := mem_g (i := 457) (by decide +kernel) (by decide +kernel)
theorem wg_458 : (Jvm.Cond.code ({ cls := "DanceCards$Cards", name := "isPaired", desc := "(II)Z" } : Jvm.MethodName) prog_2_method_4_code (3 : Nat) (Option.some Jvm.ClassFile.FieldType.boolean)) ∈ gws := mem_g (i := 458) (by decide +kernel) (by decide +kernel)
theorem wg_459 : (Jvm.Cond.methodLink "DanceCards" (264 : Nat) ({ cls := "java/lang/Math", name := "max", desc := "(II)I" } : Jvm.MethodName)) ∈ gws := mem_g (i := 459) (by decide +kernel) (by decide +kernel)
theorem wg_460 : (Jvm.Cond.static ({ cls := "java/lang/Math", name := "max", desc := "(II)I" } : Jvm.MethodName)) ∈ gws := mem_g (i := 460) (by decide +kernel) (by decide +kernel)
theorem wg_461 : (Jvm.Cond.code ({ cls := "java/lang/Math", name := "max", desc := "(II)I" } : Jvm.MethodName) prog_12_method_65_code (2 : Nat) (Option.some Jvm.ClassFile.FieldType.int)) ∈ gws := mem_g (i := 461) (by decide +kernel) (by decide +kernel)
theorem wg_464 : (Jvm.Cond.instanceMethod ({ cls := "DanceCards$Cards", name := "join", desc := "(III)V" } : Jvm.MethodName)) ∈ gws := mem_g (i := 464) (by decide +kernel) (by decide +kernel)
theorem wg_465 : (Jvm.Cond.code ({ cls := "DanceCards$Cards", name := "join", desc := "(III)V" } : Jvm.MethodName) prog_2_method_6_code (4 : Nat) (Option.none : Option Jvm.ClassFile.FieldType)) ∈ gws := mem_g (i := 465) (by decide +kernel) (by decide +kernel)
theorem wg_466 : (Jvm.Cond.methodLink "DanceCards$Cards" (25 : Nat) ({ cls := "DanceCards$Cards", name := "enter", desc := "(III)V" } : Jvm.MethodName)) ∈ gws := mem_g (i := 466) (by decide +kernel) (by decide +kernel)
theorem wg_468 : (Jvm.Cond.instanceMethod ({ cls := "DanceCards$Cards", name := "enter", desc := "(III)V" } : Jvm.MethodName)) ∈ gws := mem_g (i := 468) (by decide +kernel) (by decide +kernel)
theorem wg_469 : (Jvm.Cond.code ({ cls := "DanceCards$Cards", name := "enter", desc := "(III)V" } : Jvm.MethodName) prog_2_method_3_code (4 : Nat) (Option.none : Option Jvm.ClassFile.FieldType)) ∈ gws := mem_g (i := 469) (by decide +kernel) (by decide +kernel)
theorem wg_473 : (Jvm.Cond.code ({ cls := "DanceCards", name := "why", desc := "(III)I" } : Jvm.MethodName) prog_1_method_12_code (4 : Nat) (Option.some Jvm.ClassFile.FieldType.int)) ∈ gws := mem_g (i := 473) (by decide +kernel) (by decide +kernel)
theorem wg_477 : (Jvm.Cond.code ({ cls := "DanceCards", name := "refuse", desc := "(III)I" } : Jvm.MethodName) prog_1_method_13_code (5 : Nat) (Option.some Jvm.ClassFile.FieldType.int)) ∈ gws := mem_g (i := 477) (by decide +kernel) (by decide +kernel)
theorem wg_480 : (Jvm.Cond.instanceMethod ({ cls := "DanceCards$Cards", name := "sitOut", desc := "(II)V" } : Jvm.MethodName)) ∈ gws := mem_g (i := 480) (by decide +kernel) (by decide +kernel)
theorem wg_481 : (Jvm.Cond.code ({ cls := "DanceCards$Cards", name := "sitOut", desc := "(II)V" } : Jvm.MethodName) prog_2_method_8_code (3 : Nat) (Option.none : Option Jvm.ClassFile.FieldType)) ∈ gws := mem_g (i := 481) (by decide +kernel) (by decide +kernel)
theorem wg_485 : (Jvm.Cond.code ({ cls := "DanceCards", name := "part", desc := "(III)I" } : Jvm.MethodName) prog_1_method_14_code (4 : Nat) (Option.some Jvm.ClassFile.FieldType.int)) ∈ gws := mem_g (i := 485) (by decide +kernel) (by decide +kernel)
theorem wg_489 : (Jvm.Cond.instanceMethod ({ cls := "DanceCards$Cards", name := "separate", desc := "(III)V" } : Jvm.MethodName)) ∈ gws := mem_g (i := 489) (by decide +kernel) (by decide +kernel)
theorem wg_490 : (Jvm.Cond.code ({ cls := "DanceCards$Cards", name := "separate", desc := "(III)V" } : Jvm.MethodName) prog_2_method_7_code (4 : Nat) (Option.none : Option Jvm.ClassFile.FieldType)) ∈ gws := mem_g (i := 490) (by decide +kernel) (by decide +kernel)
theorem wg_494 : (Jvm.Cond.code ({ cls := "DanceCards", name := "swap", desc := "(III)I" } : Jvm.MethodName) prog_1_method_15_code (7 : Nat) (Option.some Jvm.ClassFile.FieldType.int)) ∈ gws := mem_g (i := 494) (by decide +kernel) (by decide +kernel)
theorem wg_499 : (Jvm.Cond.code ({ cls := "DanceCards", name := "card", desc := "(II)I" } : Jvm.MethodName) prog_1_method_16_code (3 : Nat) (Option.some Jvm.ClassFile.FieldType.int)) ∈ gws := mem_g (i := 499) (by decide +kernel) (by decide +kernel)
theorem wg_503 : (Jvm.Cond.code ({ cls := "DanceCards", name := "ill", desc := "(I)I" } : Jvm.MethodName) prog_1_method_17_code (2 : Nat) (Option.some Jvm.ClassFile.FieldType.int)) ∈ gws := mem_g (i := 503) (by decide +kernel) (by decide +kernel)
theorem wg_506 : (Jvm.Cond.instanceMethod ({ cls := "DanceCards$Guests", name := "makeIll", desc := "(IZ)V" } : Jvm.MethodName)) ∈ gws := mem_g (i := 506) (by decide +kernel) (by decide +kernel)
theorem wg_507 : (Jvm.Cond.code ({ cls := "DanceCards$Guests", name := "makeIll", desc := "(IZ)V" } : Jvm.MethodName) prog_4_method_7_code (3 : Nat) (Option.none : Option Jvm.ClassFile.FieldType)) ∈ gws := mem_g (i := 507) (by decide +kernel) (by decide +kernel)
theorem wg_510 : (Jvm.Cond.instanceMethod ({ cls := "DanceCards$Cards", name := "separateAll", desc := "(I)I" } : Jvm.MethodName)) ∈ gws := mem_g (i := 510) (by decide +kernel) (by decide +kernel)
theorem wg_511 : (Jvm.Cond.code ({ cls := "DanceCards$Cards", name := "separateAll", desc := "(I)I" } : Jvm.MethodName) prog_2_method_9_code (4 : Nat) (Option.some Jvm.ClassFile.FieldType.int)) ∈ gws := mem_g (i := 511) (by decide +kernel) (by decide +kernel)
theorem wg_512 : (Jvm.Cond.methodLink "DanceCards$Cards" (33 : Nat) ({ cls := "DanceCards$Cards", name := "separate", desc := "(III)V" } : Jvm.MethodName)) ∈ gws := mem_g (i := 512) (by decide +kernel) (by decide +kernel)
theorem wg_516 : (Jvm.Cond.code ({ cls := "DanceCards", name := "well", desc := "(I)I" } : Jvm.MethodName) prog_1_method_18_code (2 : Nat) (Option.some Jvm.ClassFile.FieldType.int)) ∈ gws := mem_g (i := 516) (by decide +kernel) (by decide +kernel)
theorem wg_520 : (Jvm.Cond.code ({ cls := "DanceCards", name := "could", desc := "(I)I" } : Jvm.MethodName) prog_1_method_19_code (2 : Nat) (Option.some Jvm.ClassFile.FieldType.int)) ∈ gws := mem_g (i := 520) (by decide +kernel) (by decide +kernel)
theorem wg_521 : (Jvm.Cond.methodLink "DanceCards" (155 : Nat) ({ cls := "DanceCards", name := "findPossiblePairs", desc := "(I)V" } : Jvm.MethodName)) ∈ gws := mem_g (i := 521) (by decide +kernel) (by decide +kernel)
theorem wg_523 : (Jvm.Cond.instanceMethod ({ cls := "DanceCards", name := "findPossiblePairs", desc := "(I)V" } : Jvm.MethodName)) ∈ gws := mem_g (i := 523) (by decide +kernel) (by decide +kernel)
theorem wg_524 : (Jvm.Cond.code ({ cls := "DanceCards", name := "findPossiblePairs", desc := "(I)V" } : Jvm.MethodName) prog_1_method_40_code (4 : Nat) (Option.none : Option Jvm.ClassFile.FieldType)) ∈ gws := mem_g (i := 524) (by decide +kernel) (by decide +kernel)
theorem wg_527 : (Jvm.Cond.instanceMethod ({ cls := "DanceCards$Pairing", name := "forget", desc := "()V" } : Jvm.MethodName)) ∈ gws := mem_g (i := 527) (by decide +kernel) (by decide +kernel)
theorem wg_528 : (Jvm.Cond.code ({ cls := "DanceCards$Pairing", name := "forget", desc := "()V" } : Jvm.MethodName) prog_5_method_2_code (1 : Nat) (Option.none : Option Jvm.ClassFile.FieldType)) ∈ gws := mem_g (i := 528) (by decide +kernel) (by decide +kernel)
theorem wg_529 : (Jvm.Cond.methodLink "DanceCards$Pairing" (21 : Nat) ({ cls := "java/util/Arrays", name := "fill", desc := "([II)V" } : Jvm.MethodName)) ∈ gws := mem_g (i := 529) (by decide +kernel) (by decide +kernel)
theorem wg_532 : (Jvm.Cond.instanceMethod ({ cls := "DanceCards$Pairing", name := "allow", desc := "(II)V" } : Jvm.MethodName)) ∈ gws := mem_g (i := 532) (by decide +kernel) (by decide +kernel)
theorem wg_533 : (Jvm.Cond.code ({ cls := "DanceCards$Pairing", name := "allow", desc := "(II)V" } : Jvm.MethodName) prog_5_method_3_code (3 : Nat) (Option.none : Option Jvm.ClassFile.FieldType)) ∈ gws := mem_g (i := 533) (by decide +kernel) (by decide +kernel)
theorem wg_536 : (Jvm.Cond.instanceMethod ({ cls := "DanceCards$Pairing", name := "mostOfAll", desc := "()I" } : Jvm.MethodName)) ∈ gws := mem_g (i := 536) (by decide +kernel) (by decide +kernel)
theorem wg_537 : (Jvm.Cond.code ({ cls := "DanceCards$Pairing", name := "mostOfAll", desc := "()I" } : Jvm.MethodName) prog_5_method_4_code (1 : Nat) (Option.some Jvm.ClassFile.FieldType.int)) ∈ gws := mem_g (i := 537) (by decide +kernel) (by decide +kernel)
theorem wg_538 : (Jvm.Cond.constant "DanceCards$Pairing" (27 : Nat) (65535 : Int32)) ∈ gws := mem_g (i := 538) (by decide +kernel) (by decide +kernel)
theorem wg_539 : (Jvm.Cond.methodLink "DanceCards$Pairing" (28 : Nat) ({ cls := "DanceCards$Pairing", name := "mostBehind", desc := "(II)I" } : Jvm.MethodName)) ∈ gws := mem_g (i := 539) (by decide +kernel) (by decide +kernel)
theorem wg_541 : (Jvm.Cond.instanceMethod ({ cls := "DanceCards$Pairing", name := "mostBehind", desc := "(II)I" } : Jvm.MethodName)) ∈ gws := mem_g (i := 541) (by decide +kernel) (by decide +kernel)
theorem wg_542 : (Jvm.Cond.code ({ cls := "DanceCards$Pairing", name := "mostBehind", desc := "(II)I" } : Jvm.MethodName) prog_5_method_5_code (5 : Nat) (Option.some Jvm.ClassFile.FieldType.int)) ∈ gws := mem_g (i := 542) (by decide +kernel) (by decide +kernel)
theorem wg_543 : (Jvm.Cond.methodLink "DanceCards$Pairing" (36 : Nat) ({ cls := "DanceCards$Pairing", name := "canHold", desc := "(LDanceCards$Pairing;II)Z" } : Jvm.MethodName)) ∈ gws := mem_g (i := 543) (by decide +kernel) (by decide +kernel)
theorem wg_544 : (Jvm.Cond.static ({ cls := "DanceCards$Pairing", name := "canHold", desc := "(LDanceCards$Pairing;II)Z" } : Jvm.MethodName)) ∈ gws := mem_g (i := 544) (by decide +kernel) (by decide +kernel)
theorem wg_545 : (Jvm.Cond.code ({ cls := "DanceCards$Pairing", name := "canHold", desc := "(LDanceCards$Pairing;II)Z" } : Jvm.MethodName) prog_5_method_6_code (5 : Nat) (Option.some Jvm.ClassFile.FieldType.boolean)) ∈ gws := mem_g (i := 545) (by decide +kernel) (by decide +kernel)
theorem wg_549 : (Jvm.Cond.code ({ cls := "DanceCards", name := "fill", desc := "(I)I" } : Jvm.MethodName) prog_1_method_20_code (5 : Nat) (Option.some Jvm.ClassFile.FieldType.int)) ∈ gws := mem_g (i := 549) (by decide +kernel) (by decide +kernel)
theorem wg_552 : (Jvm.Cond.instanceMethod ({ cls := "DanceCards$Pairing", name := "chooseAll", desc := "()V" } : Jvm.MethodName)) ∈ gws := mem_g (i := 552) (by decide +kernel) (by decide +kernel)
theorem wg_553 : (Jvm.Cond.code ({ cls := "DanceCards$Pairing", name := "chooseAll", desc := "()V" } : Jvm.MethodName) prog_5_method_7_code (4 : Nat) (Option.none : Option Jvm.ClassFile.FieldType)) ∈ gws := mem_g (i := 553) (by decide +kernel) (by decide +kernel)
theorem wg_554 : (Jvm.Cond.methodLink "DanceCards$Pairing" (40 : Nat) ({ cls := "DanceCards$Pairing", name := "mostOfAll", desc := "()I" } : Jvm.MethodName)) ∈ gws := mem_g (i := 554) (by decide +kernel) (by decide +kernel)
theorem wg_555 : (Jvm.Cond.methodLink "DanceCards$Pairing" (44 : Nat) ({ cls := "DanceCards$Pairing", name := "leastFor", desc := "(III)I" } : Jvm.MethodName)) ∈ gws := mem_g (i := 555) (by decide +kernel) (by decide +kernel)
theorem wg_557 : (Jvm.Cond.instanceMethod ({ cls := "DanceCards$Pairing", name := "leastFor", desc := "(III)I" } : Jvm.MethodName)) ∈ gws := mem_g (i := 557) (by decide +kernel) (by decide +kernel)
theorem wg_558 : (Jvm.Cond.code ({ cls := "DanceCards$Pairing", name := "leastFor", desc := "(III)I" } : Jvm.MethodName) prog_5_method_8_code (6 : Nat) (Option.some Jvm.ClassFile.FieldType.int)) ∈ gws := mem_g (i := 558) (by decide +kernel) (by decide +kernel)
theorem wg_562 : (Jvm.Cond.code ({ cls := "DanceCards", name := "about", desc := "(II)I" } : Jvm.MethodName) prog_1_method_21_code (3 : Nat) (Option.some Jvm.ClassFile.FieldType.int)) ∈ gws := mem_g (i := 562) (by decide +kernel) (by decide +kernel)
theorem wg_565 : (Jvm.Cond.instanceMethod ({ cls := "DanceCards$Cards", name := "pairedDances", desc := "(I)I" } : Jvm.MethodName)) ∈ gws := mem_g (i := 565) (by decide +kernel) (by decide +kernel)
theorem wg_566 : (Jvm.Cond.code ({ cls := "DanceCards$Cards", name := "pairedDances", desc := "(I)I" } : Jvm.MethodName) prog_2_method_11_code (4 : Nat) (Option.some Jvm.ClassFile.FieldType.int)) ∈ gws := mem_g (i := 566) (by decide +kernel) (by decide +kernel)
theorem wg_569 : (Jvm.Cond.instanceMethod ({ cls := "DanceCards$Cards", name := "others", desc := "(I)I" } : Jvm.MethodName)) ∈ gws := mem_g (i := 569) (by decide +kernel) (by decide +kernel)
theorem wg_570 : (Jvm.Cond.code ({ cls := "DanceCards$Cards", name := "others", desc := "(I)I" } : Jvm.MethodName) prog_2_method_12_code (4 : Nat) (Option.some Jvm.ClassFile.FieldType.int)) ∈ gws := mem_g (i := 570) (by decide +kernel) (by decide +kernel)
theorem wg_571 : (Jvm.Cond.methodLink "DanceCards$Cards" (40 : Nat) ({ cls := "java/lang/Integer", name := "bitCount", desc := "(I)I" } : Jvm.MethodName)) ∈ gws := mem_g (i := 571) (by decide +kernel) (by decide +kernel)
theorem wg_572 : (Jvm.Cond.static ({ cls := "java/lang/Integer", name := "bitCount", desc := "(I)I" } : Jvm.MethodName)) ∈ gws := mem_g (i := 572) (by decide +kernel) (by decide +kernel)
theorem wg_573 : (Jvm.Cond.code ({ cls := "java/lang/Integer", name := "bitCount", desc := "(I)I" } : Jvm.MethodName) prog_11_method_49_code (1 : Nat) (Option.some Jvm.ClassFile.FieldType.int)) ∈ gws := mem_g (i := 573) (by decide +kernel) (by decide +kernel)
theorem wg_574 : (Jvm.Cond.constant "java/lang/Integer" (265 : Nat) (1431655765 : Int32)) ∈ gws := mem_g (i := 574) (by decide +kernel) (by decide +kernel)
theorem wg_575 : (Jvm.Cond.constant "java/lang/Integer" (266 : Nat) (858993459 : Int32)) ∈ gws := mem_g (i := 575) (by decide +kernel) (by decide +kernel)
theorem wg_576 : (Jvm.Cond.constant "java/lang/Integer" (267 : Nat) (252645135 : Int32)) ∈ gws := mem_g (i := 576) (by decide +kernel) (by decide +kernel)
theorem wg_579 : (Jvm.Cond.instanceMethod ({ cls := "DanceCards$Cards", name := "longestRow", desc := "(I)I" } : Jvm.MethodName)) ∈ gws := mem_g (i := 579) (by decide +kernel) (by decide +kernel)
theorem wg_580 : (Jvm.Cond.code ({ cls := "DanceCards$Cards", name := "longestRow", desc := "(I)I" } : Jvm.MethodName) prog_2_method_13_code (5 : Nat) (Option.some Jvm.ClassFile.FieldType.int)) ∈ gws := mem_g (i := 580) (by decide +kernel) (by decide +kernel)
theorem wg_581 : (Jvm.Cond.methodLink "DanceCards$Cards" (46 : Nat) ({ cls := "java/lang/Math", name := "max", desc := "(II)I" } : Jvm.MethodName)) ∈ gws := mem_g (i := 581) (by decide +kernel) (by decide +kernel)
theorem wg_584 : (Jvm.Cond.instanceMethod ({ cls := "DanceCards$Cards", name := "sittings", desc := "(I)I" } : Jvm.MethodName)) ∈ gws := mem_g (i := 584) (by decide +kernel) (by decide +kernel)
theorem wg_585 : (Jvm.Cond.code ({ cls := "DanceCards$Cards", name := "sittings", desc := "(I)I" } : Jvm.MethodName) prog_2_method_14_code (4 : Nat) (Option.some Jvm.ClassFile.FieldType.int)) ∈ gws := mem_g (i := 585) (by decide +kernel) (by decide +kernel)
theorem wg_589 : (Jvm.Cond.code ({ cls := "DanceCards", name := "sheet", desc := "(III)I" } : Jvm.MethodName) prog_1_method_22_code (4 : Nat) (Option.some Jvm.ClassFile.FieldType.int)) ∈ gws := mem_g (i := 589) (by decide +kernel) (by decide +kernel)
theorem wg_590 : (Jvm.Cond.methodLink "DanceCards" (180 : Nat) ({ cls := "DanceCards", name := "isSheet", desc := "(I)Z" } : Jvm.MethodName)) ∈ gws := mem_g (i := 590) (by decide +kernel) (by decide +kernel)
theorem wg_591 : (Jvm.Cond.static ({ cls := "DanceCards", name := "isSheet", desc := "(I)Z" } : Jvm.MethodName)) ∈ gws := mem_g (i := 591) (by decide +kernel) (by decide +kernel)
theorem wg_592 : (Jvm.Cond.code ({ cls := "DanceCards", name := "isSheet", desc := "(I)Z" } : Jvm.MethodName) prog_1_method_33_code (1 : Nat) (Option.some Jvm.ClassFile.FieldType.boolean)) ∈ gws := mem_g (i := 592) (by decide +kernel) (by decide +kernel)
theorem wg_593 : (Jvm.Cond.methodLink "DanceCards" (183 : Nat) ({ cls := "DanceCards", name := "isLane", desc := "(I)Z" } : Jvm.MethodName)) ∈ gws := mem_g (i := 593) (by decide +kernel) (by decide +kernel)
theorem wg_594 : (Jvm.Cond.static ({ cls := "DanceCards", name := "isLane", desc := "(I)Z" } : Jvm.MethodName)) ∈ gws := mem_g (i := 594) (by decide +kernel) (by decide +kernel)
theorem wg_595 : (Jvm.Cond.code ({ cls := "DanceCards", name := "isLane", desc := "(I)Z" } : Jvm.MethodName) prog_1_method_34_code (1 : Nat) (Option.some Jvm.ClassFile.FieldType.boolean)) ∈ gws := mem_g (i := 595) (by decide +kernel) (by decide +kernel)
theorem wg_598 : (Jvm.Cond.instanceMethod ({ cls := "DanceCards$Papers", name := "renew", desc := "(III)V" } : Jvm.MethodName)) ∈ gws := mem_g (i := 598) (by decide +kernel) (by decide +kernel)
theorem wg_599 : (Jvm.Cond.code ({ cls := "DanceCards$Papers", name := "renew", desc := "(III)V" } : Jvm.MethodName) prog_6_method_3_code (5 : Nat) (Option.none : Option Jvm.ClassFile.FieldType)) ∈ gws := mem_g (i := 599) (by decide +kernel) (by decide +kernel)
theorem wg_603 : (Jvm.Cond.code ({ cls := "DanceCards", name := "lay", desc := "(III)I" } : Jvm.MethodName) prog_1_method_23_code (4 : Nat) (Option.some Jvm.ClassFile.FieldType.int)) ∈ gws := mem_g (i := 603) (by decide +kernel) (by decide +kernel)
theorem wg_606 : (Jvm.Cond.instanceMethod ({ cls := "DanceCards$Papers", name := "isSomething", desc := "(I)Z" } : Jvm.MethodName)) ∈ gws := mem_g (i := 606) (by decide +kernel) (by decide +kernel)
theorem wg_607 : (Jvm.Cond.code ({ cls := "DanceCards$Papers", name := "isSomething", desc := "(I)Z" } : Jvm.MethodName) prog_6_method_2_code (2 : Nat) (Option.some Jvm.ClassFile.FieldType.boolean)) ∈ gws := mem_g (i := 607) (by decide +kernel) (by decide +kernel)
theorem wg_610 : (Jvm.Cond.instanceMethod ({ cls := "DanceCards$Papers", name := "hasCells", desc := "(III)Z" } : Jvm.MethodName)) ∈ gws := mem_g (i := 610) (by decide +kernel) (by decide +kernel)
theorem wg_611 : (Jvm.Cond.code ({ cls := "DanceCards$Papers", name := "hasCells", desc := "(III)Z" } : Jvm.MethodName) prog_6_method_4_code (4 : Nat) (Option.some Jvm.ClassFile.FieldType.boolean)) ∈ gws := mem_g (i := 611) (by decide +kernel) (by decide +kernel)
theorem wg_614 : (Jvm.Cond.instanceMethod ({ cls := "DanceCards$Papers", name := "write", desc := "(III)V" } : Jvm.MethodName)) ∈ gws := mem_g (i := 614) (by decide +kernel) (by decide +kernel)
theorem wg_615 : (Jvm.Cond.code ({ cls := "DanceCards$Papers", name := "write", desc := "(III)V" } : Jvm.MethodName) prog_6_method_6_code (4 : Nat) (Option.none : Option Jvm.ClassFile.FieldType)) ∈ gws := mem_g (i := 615) (by decide +kernel) (by decide +kernel)
theorem wg_616 : (Jvm.Cond.methodLink "DanceCards$Papers" (27 : Nat) ({ cls := "DanceCards$Papers", name := "lowestBits", desc := "(II)I" } : Jvm.MethodName)) ∈ gws := mem_g (i := 616) (by decide +kernel) (by decide +kernel)
theorem wg_617 : (Jvm.Cond.static ({ cls := "DanceCards$Papers", name := "lowestBits", desc := "(II)I" } : Jvm.MethodName)) ∈ gws := mem_g (i := 617) (by decide +kernel) (by decide +kernel)
theorem wg_618 : (Jvm.Cond.code ({ cls := "DanceCards$Papers", name := "lowestBits", desc := "(II)I" } : Jvm.MethodName) prog_6_method_7_code (2 : Nat) (Option.some Jvm.ClassFile.FieldType.int)) ∈ gws := mem_g (i := 618) (by decide +kernel) (by decide +kernel)
theorem wg_622 : (Jvm.Cond.code ({ cls := "DanceCards", name := "scan", desc := "(IIII)I" } : Jvm.MethodName) prog_1_method_24_code (7 : Nat) (Option.some Jvm.ClassFile.FieldType.int)) ∈ gws := mem_g (i := 622) (by decide +kernel) (by decide +kernel)
theorem wg_623 : (Jvm.Cond.methodLink "DanceCards" (201 : Nat) ({ cls := "DanceCards", name := "askFromSheet", desc := "(II)I" } : Jvm.MethodName)) ∈ gws := mem_g (i := 623) (by decide +kernel) (by decide +kernel)
theorem wg_625 : (Jvm.Cond.instanceMethod ({ cls := "DanceCards", name := "askFromSheet", desc := "(II)I" } : Jvm.MethodName)) ∈ gws := mem_g (i := 625) (by decide +kernel) (by decide +kernel)
theorem wg_626 : (Jvm.Cond.code ({ cls := "DanceCards", name := "askFromSheet", desc := "(II)I" } : Jvm.MethodName) prog_1_method_41_code (7 : Nat) (Option.some Jvm.ClassFile.FieldType.int)) ∈ gws := mem_g (i := 626) (by decide +kernel) (by decide +kernel)
theorem wg_629 : (Jvm.Cond.instanceMethod ({ cls := "DanceCards$Papers", name := "read", desc := "(II)I" } : Jvm.MethodName)) ∈ gws := mem_g (i := 629) (by decide +kernel) (by decide +kernel)
theorem wg_630 : (Jvm.Cond.code ({ cls := "DanceCards$Papers", name := "read", desc := "(II)I" } : Jvm.MethodName) prog_6_method_5_code (3 : Nat) (Option.some Jvm.ClassFile.FieldType.int)) ∈ gws := mem_g (i := 630) (by decide +kernel) (by decide +kernel)
theorem wg_631 : (Jvm.Cond.methodLink "DanceCards" (204 : Nat) ({ cls := "DanceCards", name := "takeBack", desc := "(III)V" } : Jvm.MethodName)) ∈ gws := mem_g (i := 631) (by decide +kernel) (by decide +kernel)
theorem wg_633 : (Jvm.Cond.instanceMethod ({ cls := "DanceCards", name := "takeBack", desc := "(III)V" } : Jvm.MethodName)) ∈ gws := mem_g (i := 633) (by decide +kernel) (by decide +kernel)
theorem wg_634 : (Jvm.Cond.code ({ cls := "DanceCards", name := "takeBack", desc := "(III)V" } : Jvm.MethodName) prog_1_method_42_code (6 : Nat) (Option.none : Option Jvm.ClassFile.FieldType)) ∈ gws := mem_g (i := 634) (by decide +kernel) (by decide +kernel)
theorem wg_638 : (Jvm.Cond.code ({ cls := "DanceCards", name := "wish", desc := "(III)I" } : Jvm.MethodName) prog_1_method_25_code (4 : Nat) (Option.some Jvm.ClassFile.FieldType.int)) ∈ gws := mem_g (i := 638) (by decide +kernel) (by decide +kernel)
theorem wg_641 : (Jvm.Cond.instanceMethod ({ cls := "DanceCards$Wishes", name := "change", desc := "(III)I" } : Jvm.MethodName)) ∈ gws := mem_g (i := 641) (by decide +kernel) (by decide +kernel)
theorem wg_642 : (Jvm.Cond.code ({ cls := "DanceCards$Wishes", name := "change", desc := "(III)I" } : Jvm.MethodName) prog_8_method_2_code (5 : Nat) (Option.some Jvm.ClassFile.FieldType.int)) ∈ gws := mem_g (i := 642) (by decide +kernel) (by decide +kernel)
theorem wg_646 : (Jvm.Cond.code ({ cls := "DanceCards", name := "fewest", desc := "()I" } : Jvm.MethodName) prog_1_method_26_code (1 : Nat) (Option.some Jvm.ClassFile.FieldType.int)) ∈ gws := mem_g (i := 646) (by decide +kernel) (by decide +kernel)
theorem wg_649 : (Jvm.Cond.instanceMethod ({ cls := "DanceCards$Wishes", name := "mostOfOne", desc := "()I" } : Jvm.MethodName)) ∈ gws := mem_g (i := 649) (by decide +kernel) (by decide +kernel)
theorem wg_650 : (Jvm.Cond.code ({ cls := "DanceCards$Wishes", name := "mostOfOne", desc := "()I" } : Jvm.MethodName) prog_8_method_3_code (3 : Nat) (Option.some Jvm.ClassFile.FieldType.int)) ∈ gws := mem_g (i := 650) (by decide +kernel) (by decide +kernel)
theorem wg_651 : (Jvm.Cond.methodLink "DanceCards$Wishes" (22 : Nat) ({ cls := "DanceCards$Wishes", name := "ofOne", desc := "(I)I" } : Jvm.MethodName)) ∈ gws := mem_g (i := 651) (by decide +kernel) (by decide +kernel)
theorem wg_653 : (Jvm.Cond.instanceMethod ({ cls := "DanceCards$Wishes", name := "ofOne", desc := "(I)I" } : Jvm.MethodName)) ∈ gws := mem_g (i := 653) (by decide +kernel) (by decide +kernel)
theorem wg_654 : (Jvm.Cond.code ({ cls := "DanceCards$Wishes", name := "ofOne", desc := "(I)I" } : Jvm.MethodName) prog_8_method_4_code (4 : Nat) (Option.some Jvm.ClassFile.FieldType.int)) ∈ gws := mem_g (i := 654) (by decide +kernel) (by decide +kernel)
theorem wg_655 : (Jvm.Cond.methodLink "DanceCards$Wishes" (26 : Nat) ({ cls := "java/lang/Math", name := "max", desc := "(II)I" } : Jvm.MethodName)) ∈ gws := mem_g (i := 655) (by decide +kernel) (by decide +kernel)
theorem wg_659 : (Jvm.Cond.code ({ cls := "DanceCards", name := "laid", desc := "(II)I" } : Jvm.MethodName) prog_1_method_27_code (3 : Nat) (Option.some Jvm.ClassFile.FieldType.int)) ∈ gws := mem_g (i := 659) (by decide +kernel) (by decide +kernel)
theorem wg_662 : (Jvm.Cond.instanceMethod ({ cls := "DanceCards$Wishes", name := "partnerIn", desc := "(II)I" } : Jvm.MethodName)) ∈ gws := mem_g (i := 662) (by decide +kernel) (by decide +kernel)
theorem wg_663 : (Jvm.Cond.code ({ cls := "DanceCards$Wishes", name := "partnerIn", desc := "(II)I" } : Jvm.MethodName) prog_8_method_5_code (3 : Nat) (Option.some Jvm.ClassFile.FieldType.int)) ∈ gws := mem_g (i := 663) (by decide +kernel) (by decide +kernel)
theorem wg_664 : (Jvm.Cond.methodLink "DanceCards$Wishes" (32 : Nat) ({ cls := "DanceCards$Wishes", name := "planAll", desc := "()V" } : Jvm.MethodName)) ∈ gws := mem_g (i := 664) (by decide +kernel) (by decide +kernel)
theorem wg_666 : (Jvm.Cond.instanceMethod ({ cls := "DanceCards$Wishes", name := "planAll", desc := "()V" } : Jvm.MethodName)) ∈ gws := mem_g (i := 666) (by decide +kernel) (by decide +kernel)
theorem wg_667 : (Jvm.Cond.code ({ cls := "DanceCards$Wishes", name := "planAll", desc := "()V" } : Jvm.MethodName) prog_8_method_6_code (4 : Nat) (Option.none : Option Jvm.ClassFile.FieldType)) ∈ gws := mem_g (i := 667) (by decide +kernel) (by decide +kernel)
theorem wg_668 : (Jvm.Cond.methodLink "DanceCards$Wishes" (38 : Nat) ({ cls := "java/util/Arrays", name := "fill", desc := "([II)V" } : Jvm.MethodName)) ∈ gws := mem_g (i := 668) (by decide +kernel) (by decide +kernel)
theorem wg_669 : (Jvm.Cond.methodLink "DanceCards$Wishes" (44 : Nat) ({ cls := "DanceCards$Wishes", name := "planOne", desc := "(II)V" } : Jvm.MethodName)) ∈ gws := mem_g (i := 669) (by decide +kernel) (by decide +kernel)
theorem wg_671 : (Jvm.Cond.instanceMethod ({ cls := "DanceCards$Wishes", name := "planOne", desc := "(II)V" } : Jvm.MethodName)) ∈ gws := mem_g (i := 671) (by decide +kernel) (by decide +kernel)
theorem wg_672 : (Jvm.Cond.code ({ cls := "DanceCards$Wishes", name := "planOne", desc := "(II)V" } : Jvm.MethodName) prog_8_method_7_code (5 : Nat) (Option.none : Option Jvm.ClassFile.FieldType)) ∈ gws := mem_g (i := 672) (by decide +kernel) (by decide +kernel)
theorem wg_673 : (Jvm.Cond.methodLink "DanceCards$Wishes" (48 : Nat) ({ cls := "DanceCards$Wishes", name := "leastFree", desc := "(I)I" } : Jvm.MethodName)) ∈ gws := mem_g (i := 673) (by decide +kernel) (by decide +kernel)
theorem wg_675 : (Jvm.Cond.instanceMethod ({ cls := "DanceCards$Wishes", name := "leastFree", desc := "(I)I" } : Jvm.MethodName)) ∈ gws := mem_g (i := 675) (by decide +kernel) (by decide +kernel)
theorem wg_676 : (Jvm.Cond.code ({ cls := "DanceCards$Wishes", name := "leastFree", desc := "(I)I" } : Jvm.MethodName) prog_8_method_8_code (3 : Nat) (Option.some Jvm.ClassFile.FieldType.int)) ∈ gws := mem_g (i := 676) (by decide +kernel) (by decide +kernel)
theorem wg_677 : (Jvm.Cond.methodLink "DanceCards$Wishes" (35 : Nat) ({ cls := "DanceCards$Wishes", name := "planned", desc := "(II)I" } : Jvm.MethodName)) ∈ gws := mem_g (i := 677) (by decide +kernel) (by decide +kernel)
theorem wg_679 : (Jvm.Cond.instanceMethod ({ cls := "DanceCards$Wishes", name := "planned", desc := "(II)I" } : Jvm.MethodName)) ∈ gws := mem_g (i := 679) (by decide +kernel) (by decide +kernel)
theorem wg_680 : (Jvm.Cond.code ({ cls := "DanceCards$Wishes", name := "planned", desc := "(II)I" } : Jvm.MethodName) prog_8_method_10_code (3 : Nat) (Option.some Jvm.ClassFile.FieldType.int)) ∈ gws := mem_g (i := 680) (by decide +kernel) (by decide +kernel)
theorem wg_681 : (Jvm.Cond.methodLink "DanceCards$Wishes" (51 : Nat) ({ cls := "DanceCards$Wishes", name := "changeRow", desc := "(III)V" } : Jvm.MethodName)) ∈ gws := mem_g (i := 681) (by decide +kernel) (by decide +kernel)
theorem wg_683 : (Jvm.Cond.instanceMethod ({ cls := "DanceCards$Wishes", name := "changeRow", desc := "(III)V" } : Jvm.MethodName)) ∈ gws := mem_g (i := 683) (by decide +kernel) (by decide +kernel)
theorem wg_684 : (Jvm.Cond.code ({ cls := "DanceCards$Wishes", name := "changeRow", desc := "(III)V" } : Jvm.MethodName) prog_8_method_9_code (8 : Nat) (Option.none : Option Jvm.ClassFile.FieldType)) ∈ gws := mem_g (i := 684) (by decide +kernel) (by decide +kernel)
theorem wg_685 : (Jvm.Cond.methodLink "DanceCards$Wishes" (55 : Nat) ({ cls := "DanceCards$Wishes", name := "enter", desc := "(III)V" } : Jvm.MethodName)) ∈ gws := mem_g (i := 685) (by decide +kernel) (by decide +kernel)
theorem wg_687 : (Jvm.Cond.instanceMethod ({ cls := "DanceCards$Wishes", name := "enter", desc := "(III)V" } : Jvm.MethodName)) ∈ gws := mem_g (i := 687) (by decide +kernel) (by decide +kernel)
theorem wg_688 : (Jvm.Cond.code ({ cls := "DanceCards$Wishes", name := "enter", desc := "(III)V" } : Jvm.MethodName) prog_8_method_11_code (4 : Nat) (Option.none : Option Jvm.ClassFile.FieldType)) ∈ gws := mem_g (i := 688) (by decide +kernel) (by decide +kernel)
theorem wg_692 : (Jvm.Cond.code ({ cls := "DanceCards", name := "sets", desc := "(I)I" } : Jvm.MethodName) prog_1_method_28_code (2 : Nat) (Option.some Jvm.ClassFile.FieldType.int)) ∈ gws := mem_g (i := 692) (by decide +kernel) (by decide +kernel)
theorem wg_693 : (Jvm.Cond.methodLink "DanceCards" (219 : Nat) ({ cls := "DanceCards", name := "groupDance", desc := "(I)I" } : Jvm.MethodName)) ∈ gws := mem_g (i := 693) (by decide +kernel) (by decide +kernel)
theorem wg_695 : (Jvm.Cond.instanceMethod ({ cls := "DanceCards", name := "groupDance", desc := "(I)I" } : Jvm.MethodName)) ∈ gws := mem_g (i := 695) (by decide +kernel) (by decide +kernel)
theorem wg_696 : (Jvm.Cond.code ({ cls := "DanceCards", name := "groupDance", desc := "(I)I" } : Jvm.MethodName) prog_1_method_43_code (4 : Nat) (Option.some Jvm.ClassFile.FieldType.int)) ∈ gws := mem_g (i := 696) (by decide +kernel) (by decide +kernel)
theorem wg_699 : (Jvm.Cond.instanceMethod ({ cls := "DanceCards$Grouping", name := "forget", desc := "()V" } : Jvm.MethodName)) ∈ gws := mem_g (i := 699) (by decide +kernel) (by decide +kernel)
theorem wg_700 : (Jvm.Cond.code ({ cls := "DanceCards$Grouping", name := "forget", desc := "()V" } : Jvm.MethodName) prog_3_method_2_code (1 : Nat) (Option.none : Option Jvm.ClassFile.FieldType)) ∈ gws := mem_g (i := 700) (by decide +kernel) (by decide +kernel)
theorem wg_703 : (Jvm.Cond.instanceMethod ({ cls := "DanceCards$Guests", name := "bitsOf", desc := "(II)I" } : Jvm.MethodName)) ∈ gws := mem_g (i := 703) (by decide +kernel) (by decide +kernel)
theorem wg_704 : (Jvm.Cond.code ({ cls := "DanceCards$Guests", name := "bitsOf", desc := "(II)I" } : Jvm.MethodName) prog_4_method_13_code (3 : Nat) (Option.some Jvm.ClassFile.FieldType.int)) ∈ gws := mem_g (i := 704) (by decide +kernel) (by decide +kernel)
theorem wg_707 : (Jvm.Cond.instanceMethod ({ cls := "DanceCards$Guests", name := "foesOf", desc := "(II)I" } : Jvm.MethodName)) ∈ gws := mem_g (i := 707) (by decide +kernel) (by decide +kernel)
theorem wg_708 : (Jvm.Cond.code ({ cls := "DanceCards$Guests", name := "foesOf", desc := "(II)I" } : Jvm.MethodName) prog_4_method_14_code (3 : Nat) (Option.some Jvm.ClassFile.FieldType.int)) ∈ gws := mem_g (i := 708) (by decide +kernel) (by decide +kernel)
theorem wg_711 : (Jvm.Cond.instanceMethod ({ cls := "DanceCards$Grouping", name := "addCouple", desc := "(II)V" } : Jvm.MethodName)) ∈ gws := mem_g (i := 711) (by decide +kernel) (by decide +kernel)
theorem wg_712 : (Jvm.Cond.code ({ cls := "DanceCards$Grouping", name := "addCouple", desc := "(II)V" } : Jvm.MethodName) prog_3_method_3_code (3 : Nat) (Option.none : Option Jvm.ClassFile.FieldType)) ∈ gws := mem_g (i := 712) (by decide +kernel) (by decide +kernel)
theorem wg_715 : (Jvm.Cond.instanceMethod ({ cls := "DanceCards$Grouping", name := "group", desc := "()I" } : Jvm.MethodName)) ∈ gws := mem_g (i := 715) (by decide +kernel) (by decide +kernel)
theorem wg_716 : (Jvm.Cond.code ({ cls := "DanceCards$Grouping", name := "group", desc := "()I" } : Jvm.MethodName) prog_3_method_4_code (2 : Nat) (Option.some Jvm.ClassFile.FieldType.int)) ∈ gws := mem_g (i := 716) (by decide +kernel) (by decide +kernel)
theorem wg_717 : (Jvm.Cond.methodLink "DanceCards$Grouping" (31 : Nat) ({ cls := "java/util/Arrays", name := "fill", desc := "([II)V" } : Jvm.MethodName)) ∈ gws := mem_g (i := 717) (by decide +kernel) (by decide +kernel)
theorem wg_718 : (Jvm.Cond.methodLink "DanceCards$Grouping" (37 : Nat) ({ cls := "DanceCards$Grouping", name := "canPlace", desc := "(LDanceCards$Grouping;II)Z" } : Jvm.MethodName)) ∈ gws := mem_g (i := 718) (by decide +kernel) (by decide +kernel)
theorem wg_719 : (Jvm.Cond.static ({ cls := "DanceCards$Grouping", name := "canPlace", desc := "(LDanceCards$Grouping;II)Z" } : Jvm.MethodName)) ∈ gws := mem_g (i := 719) (by decide +kernel) (by decide +kernel)
theorem wg_720 : (Jvm.Cond.code ({ cls := "DanceCards$Grouping", name := "canPlace", desc := "(LDanceCards$Grouping;II)Z" } : Jvm.MethodName) prog_3_method_5_code (4 : Nat) (Option.some Jvm.ClassFile.FieldType.boolean)) ∈ gws := mem_g (i := 720) (by decide +kernel) (by decide +kernel)
theorem wg_721 : (Jvm.Cond.methodLink "DanceCards$Grouping" (41 : Nat) ({ cls := "DanceCards$Grouping", name := "isOpenFor", desc := "(II)Z" } : Jvm.MethodName)) ∈ gws := mem_g (i := 721) (by decide +kernel) (by decide +kernel)
theorem wg_723 : (Jvm.Cond.instanceMethod ({ cls := "DanceCards$Grouping", name := "isOpenFor", desc := "(II)Z" } : Jvm.MethodName)) ∈ gws := mem_g (i := 723) (by decide +kernel) (by decide +kernel)
theorem wg_724 : (Jvm.Cond.code ({ cls := "DanceCards$Grouping", name := "isOpenFor", desc := "(II)Z" } : Jvm.MethodName) prog_3_method_6_code (3 : Nat) (Option.some Jvm.ClassFile.FieldType.boolean)) ∈ gws := mem_g (i := 724) (by decide +kernel) (by decide +kernel)
theorem wg_728 : (Jvm.Cond.code ({ cls := "DanceCards", name := "set", desc := "(II)I" } : Jvm.MethodName) prog_1_method_29_code (3 : Nat) (Option.some Jvm.ClassFile.FieldType.int)) ∈ gws := mem_g (i := 728) (by decide +kernel) (by decide +kernel)
theorem wg_731 : (Jvm.Cond.instanceMethod ({ cls := "DanceCards$Grouping", name := "groupOf", desc := "(I)I" } : Jvm.MethodName)) ∈ gws := mem_g (i := 731) (by decide +kernel) (by decide +kernel)
theorem wg_732 : (Jvm.Cond.code ({ cls := "DanceCards$Grouping", name := "groupOf", desc := "(I)I" } : Jvm.MethodName) prog_3_method_7_code (3 : Nat) (Option.some Jvm.ClassFile.FieldType.int)) ∈ gws := mem_g (i := 732) (by decide +kernel) (by decide +kernel)
theorem wg_736 : (Jvm.Cond.code ({ cls := "DanceCards", name := "count", desc := "(I)I" } : Jvm.MethodName) prog_1_method_30_code (2 : Nat) (Option.some Jvm.ClassFile.FieldType.int)) ∈ gws := mem_g (i := 736) (by decide +kernel) (by decide +kernel)
theorem wg_739 : (Jvm.Cond.instanceMethod ({ cls := "DanceCards$Guests", name := "ladies", desc := "()I" } : Jvm.MethodName)) ∈ gws := mem_g (i := 739) (by decide +kernel) (by decide +kernel)
theorem wg_740 : (Jvm.Cond.code ({ cls := "DanceCards$Guests", name := "ladies", desc := "()I" } : Jvm.MethodName) prog_4_method_15_code (3 : Nat) (Option.some Jvm.ClassFile.FieldType.int)) ∈ gws := mem_g (i := 740) (by decide +kernel) (by decide +kernel)
theorem wg_744 : (Jvm.Cond.instanceMethod ({ cls := "DanceCards$Cards", name := "couples", desc := "()I" } : Jvm.MethodName)) ∈ gws := mem_g (i := 744) (by decide +kernel) (by decide +kernel)
theorem wg_745 : (Jvm.Cond.code ({ cls := "DanceCards$Cards", name := "couples", desc := "()I" } : Jvm.MethodName) prog_2_method_16_code (3 : Nat) (Option.some Jvm.ClassFile.FieldType.int)) ∈ gws := mem_g (i := 745) (by decide +kernel) (by decide +kernel)
theorem wg_746 : (Jvm.Cond.methodLink "DanceCards$Cards" (51 : Nat) ({ cls := "DanceCards$Cards", name := "pairedDances", desc := "(I)I" } : Jvm.MethodName)) ∈ gws := mem_g (i := 746) (by decide +kernel) (by decide +kernel)
theorem wg_750 : (Jvm.Cond.instanceMethod ({ cls := "DanceCards$Guests", name := "illOnes", desc := "()I" } : Jvm.MethodName)) ∈ gws := mem_g (i := 750) (by decide +kernel) (by decide +kernel)
theorem wg_751 : (Jvm.Cond.code ({ cls := "DanceCards$Guests", name := "illOnes", desc := "()I" } : Jvm.MethodName) prog_4_method_16_code (3 : Nat) (Option.some Jvm.ClassFile.FieldType.int)) ∈ gws := mem_g (i := 751) (by decide +kernel) (by decide +kernel)
theorem wg_754 : (Jvm.Cond.instanceMethod ({ cls := "DanceCards$Guests", name := "knownPairs", desc := "()I" } : Jvm.MethodName)) ∈ gws := mem_g (i := 754) (by decide +kernel) (by decide +kernel)
theorem wg_755 : (Jvm.Cond.code ({ cls := "DanceCards$Guests", name := "knownPairs", desc := "()I" } : Jvm.MethodName) prog_4_method_17_code (3 : Nat) (Option.some Jvm.ClassFile.FieldType.int)) ∈ gws := mem_g (i := 755) (by decide +kernel) (by decide +kernel)
theorem wg_756 : (Jvm.Cond.methodLink "DanceCards$Guests" (46 : Nat) ({ cls := "java/lang/Integer", name := "bitCount", desc := "(I)I" } : Jvm.MethodName)) ∈ gws := mem_g (i := 756) (by decide +kernel) (by decide +kernel)
theorem wg_763 : (Jvm.Cond.fieldLink "DanceCardsModel" (80 : Nat) "DanceCardsModel" "people" "I") ∈ gws := mem_g (i := 763) (by decide +kernel) (by decide +kernel)
theorem wg_764 : (Jvm.Cond.fieldLink "DanceCardsModel" (7 : Nat) "DanceCardsModel" "isLady" "[Z") ∈ gws := mem_g (i := 764) (by decide +kernel) (by decide +kernel)
theorem wg_765 : (Jvm.Cond.fieldLink "DanceCardsModel" (13 : Nat) "DanceCardsModel" "ranks" "[I") ∈ gws := mem_g (i := 765) (by decide +kernel) (by decide +kernel)
theorem wg_766 : (Jvm.Cond.fieldLink "DanceCardsModel" (17 : Nat) "DanceCardsModel" "isIll" "[Z") ∈ gws := mem_g (i := 766) (by decide +kernel) (by decide +kernel)
theorem wg_767 : (Jvm.Cond.fieldLink "DanceCardsModel" (20 : Nat) "DanceCardsModel" "knows" "[Z") ∈ gws := mem_g (i := 767) (by decide +kernel) (by decide +kernel)
theorem wg_768 : (Jvm.Cond.fieldLink "DanceCardsModel" (23 : Nat) "DanceCardsModel" "feuds" "[Z") ∈ gws := mem_g (i := 768) (by decide +kernel) (by decide +kernel)
theorem wg_769 : (Jvm.Cond.fieldLink "DanceCardsModel" (26 : Nat) "DanceCardsModel" "wishes" "[I") ∈ gws := mem_g (i := 769) (by decide +kernel) (by decide +kernel)
theorem wg_770 : (Jvm.Cond.fieldLink "DanceCardsModel" (29 : Nat) "DanceCardsModel" "cards" "[I") ∈ gws := mem_g (i := 770) (by decide +kernel) (by decide +kernel)
theorem wg_771 : (Jvm.Cond.fieldLink "DanceCardsModel" (32 : Nat) "DanceCardsModel" "tape" "[I") ∈ gws := mem_g (i := 771) (by decide +kernel) (by decide +kernel)
theorem wg_772 : (Jvm.Cond.fieldLink "DanceCardsModel" (95 : Nat) "DanceCardsModel" "taped" "I") ∈ gws := mem_g (i := 772) (by decide +kernel) (by decide +kernel)
theorem wg_773 : (Jvm.Cond.fieldLink "DanceCardsModel" (153 : Nat) "DanceCardsModel" "fault" "I") ∈ gws := mem_g (i := 773) (by decide +kernel) (by decide +kernel)
theorem wg_774 : (Jvm.Cond.fieldLink "DanceCardsModel" (35 : Nat) "DanceCardsModel" "told" "[I") ∈ gws := mem_g (i := 774) (by decide +kernel) (by decide +kernel)
theorem wg_775 : (Jvm.Cond.fieldLink "DanceCardsModel" (38 : Nat) "DanceCardsModel" "read" "[I") ∈ gws := mem_g (i := 775) (by decide +kernel) (by decide +kernel)
theorem wg_776 : (Jvm.Cond.fieldLink "DanceCardsModel" (115 : Nat) "DanceCardsModel" "at" "I") ∈ gws := mem_g (i := 776) (by decide +kernel) (by decide +kernel)
theorem wg_777 : (Jvm.Cond.fieldLink "DanceCardsModel" (101 : Nat) "DanceCardsModel" "place" "I") ∈ gws := mem_g (i := 777) (by decide +kernel) (by decide +kernel)
theorem wg_778 : (Jvm.Cond.fieldLink "DanceCardsModel" (122 : Nat) "DanceCardsModel" "token" "I") ∈ gws := mem_g (i := 778) (by decide +kernel) (by decide +kernel)
theorem wg_779 : (Jvm.Cond.fieldLink "DanceCardsModel" (133 : Nat) "DanceCardsModel" "value" "I") ∈ gws := mem_g (i := 779) (by decide +kernel) (by decide +kernel)
theorem wg_780 : (Jvm.Cond.fieldLink "DanceCardsModel" (98 : Nat) "DanceCardsModel" "wrong" "I") ∈ gws := mem_g (i := 780) (by decide +kernel) (by decide +kernel)
theorem wg_781 : (Jvm.Cond.fieldLink "DanceCardsModel" (104 : Nat) "DanceCardsModel" "wrongAt" "I") ∈ gws := mem_g (i := 781) (by decide +kernel) (by decide +kernel)
theorem wg_782 : (Jvm.Cond.fieldLink "DanceCardsModel" (41 : Nat) "DanceCardsModel" "mayDance" "[Z") ∈ gws := mem_g (i := 782) (by decide +kernel) (by decide +kernel)
theorem wg_783 : (Jvm.Cond.fieldLink "DanceCardsModel" (44 : Nat) "DanceCardsModel" "with" "[I") ∈ gws := mem_g (i := 783) (by decide +kernel) (by decide +kernel)
theorem wg_784 : (Jvm.Cond.fieldLink "DanceCardsModel" (47 : Nat) "DanceCardsModel" "isFixed" "[Z") ∈ gws := mem_g (i := 784) (by decide +kernel) (by decide +kernel)
theorem wg_785 : (Jvm.Cond.fieldLink "DanceCardsModel" (50 : Nat) "DanceCardsModel" "queue" "[I") ∈ gws := mem_g (i := 785) (by decide +kernel) (by decide +kernel)
theorem wg_786 : (Jvm.Cond.fieldLink "DanceCardsModel" (53 : Nat) "DanceCardsModel" "from" "[I") ∈ gws := mem_g (i := 786) (by decide +kernel) (by decide +kernel)
theorem wg_787 : (Jvm.Cond.fieldLink "DanceCardsModel" (56 : Nat) "DanceCardsModel" "lanes" "[I") ∈ gws := mem_g (i := 787) (by decide +kernel) (by decide +kernel)
theorem wg_788 : (Jvm.Cond.fieldLink "DanceCardsModel" (59 : Nat) "DanceCardsModel" "lengths" "[I") ∈ gws := mem_g (i := 788) (by decide +kernel) (by decide +kernel)
theorem wg_789 : (Jvm.Cond.fieldLink "DanceCardsModel" (62 : Nat) "DanceCardsModel" "cells" "[I") ∈ gws := mem_g (i := 789) (by decide +kernel) (by decide +kernel)
theorem wg_790 : (Jvm.Cond.fieldLink "DanceCardsModel" (65 : Nat) "DanceCardsModel" "laidRow" "[I") ∈ gws := mem_g (i := 790) (by decide +kernel) (by decide +kernel)
theorem wg_791 : (Jvm.Cond.fieldLink "DanceCardsModel" (234 : Nat) "DanceCardsModel" "couples" "I") ∈ gws := mem_g (i := 791) (by decide +kernel) (by decide +kernel)
theorem wg_792 : (Jvm.Cond.fieldLink "DanceCardsModel" (68 : Nat) "DanceCardsModel" "ladyOf" "[I") ∈ gws := mem_g (i := 792) (by decide +kernel) (by decide +kernel)
theorem wg_793 : (Jvm.Cond.fieldLink "DanceCardsModel" (71 : Nat) "DanceCardsModel" "setOf" "[I") ∈ gws := mem_g (i := 793) (by decide +kernel) (by decide +kernel)
theorem wg_794 : (Jvm.Cond.fieldLink "DanceCardsModel" (240 : Nat) "DanceCardsModel" "setMany" "I") ∈ gws := mem_g (i := 794) (by decide +kernel) (by decide +kernel)
theorem wg_795 : (Jvm.Cond.lays "DanceCardsModel" "DanceCardsModel" "people" "I") ∈ gws := mem_g (i := 795) (by decide +kernel) (by decide +kernel)
theorem wg_797 : (Jvm.Cond.laysFinal "DanceCardsModel" "DanceCardsModel" "isLady" "[Z") ∈ gws := mem_g (i := 797) (by decide +kernel) (by decide +kernel)
theorem wg_799 : (Jvm.Cond.laysFinal "DanceCardsModel" "DanceCardsModel" "ranks" "[I") ∈ gws := mem_g (i := 799) (by decide +kernel) (by decide +kernel)
theorem wg_801 : (Jvm.Cond.laysFinal "DanceCardsModel" "DanceCardsModel" "isIll" "[Z") ∈ gws := mem_g (i := 801) (by decide +kernel) (by decide +kernel)
theorem wg_803 : (Jvm.Cond.laysFinal "DanceCardsModel" "DanceCardsModel" "knows" "[Z") ∈ gws := mem_g (i := 803) (by decide +kernel) (by decide +kernel)
theorem wg_805 : (Jvm.Cond.laysFinal "DanceCardsModel" "DanceCardsModel" "feuds" "[Z") ∈ gws := mem_g (i := 805) (by decide +kernel) (by decide +kernel)
theorem wg_807 : (Jvm.Cond.laysFinal "DanceCardsModel" "DanceCardsModel" "wishes" "[I") ∈ gws := mem_g (i := 807) (by decide +kernel) (by decide +kernel)
theorem wg_809 : (Jvm.Cond.laysFinal "DanceCardsModel" "DanceCardsModel" "cards" "[I") ∈ gws := mem_g (i := 809) (by decide +kernel) (by decide +kernel)
theorem wg_811 : (Jvm.Cond.laysFinal "DanceCardsModel" "DanceCardsModel" "tape" "[I") ∈ gws := mem_g (i := 811) (by decide +kernel) (by decide +kernel)
theorem wg_813 : (Jvm.Cond.lays "DanceCardsModel" "DanceCardsModel" "taped" "I") ∈ gws := mem_g (i := 813) (by decide +kernel) (by decide +kernel)
theorem wg_815 : (Jvm.Cond.lays "DanceCardsModel" "DanceCardsModel" "fault" "I") ∈ gws := mem_g (i := 815) (by decide +kernel) (by decide +kernel)
theorem wg_817 : (Jvm.Cond.laysFinal "DanceCardsModel" "DanceCardsModel" "told" "[I") ∈ gws := mem_g (i := 817) (by decide +kernel) (by decide +kernel)
theorem wg_819 : (Jvm.Cond.laysFinal "DanceCardsModel" "DanceCardsModel" "read" "[I") ∈ gws := mem_g (i := 819) (by decide +kernel) (by decide +kernel)
theorem wg_821 : (Jvm.Cond.lays "DanceCardsModel" "DanceCardsModel" "at" "I") ∈ gws := mem_g (i := 821) (by decide +kernel) (by decide +kernel)
theorem wg_823 : (Jvm.Cond.lays "DanceCardsModel" "DanceCardsModel" "place" "I") ∈ gws := mem_g (i := 823) (by decide +kernel) (by decide +kernel)
theorem wg_825 : (Jvm.Cond.lays "DanceCardsModel" "DanceCardsModel" "token" "I") ∈ gws := mem_g (i := 825) (by decide +kernel) (by decide +kernel)
theorem wg_827 : (Jvm.Cond.lays "DanceCardsModel" "DanceCardsModel" "value" "I") ∈ gws := mem_g (i := 827) (by decide +kernel) (by decide +kernel)
theorem wg_829 : (Jvm.Cond.lays "DanceCardsModel" "DanceCardsModel" "wrong" "I") ∈ gws := mem_g (i := 829) (by decide +kernel) (by decide +kernel)
theorem wg_831 : (Jvm.Cond.lays "DanceCardsModel" "DanceCardsModel" "wrongAt" "I") ∈ gws := mem_g (i := 831) (by decide +kernel) (by decide +kernel)
theorem wg_833 : (Jvm.Cond.laysFinal "DanceCardsModel" "DanceCardsModel" "mayDance" "[Z") ∈ gws := mem_g (i := 833) (by decide +kernel) (by decide +kernel)
theorem wg_835 : (Jvm.Cond.laysFinal "DanceCardsModel" "DanceCardsModel" "with" "[I") ∈ gws := mem_g (i := 835) (by decide +kernel) (by decide +kernel)
theorem wg_837 : (Jvm.Cond.laysFinal "DanceCardsModel" "DanceCardsModel" "isFixed" "[Z") ∈ gws := mem_g (i := 837) (by decide +kernel) (by decide +kernel)
theorem wg_839 : (Jvm.Cond.laysFinal "DanceCardsModel" "DanceCardsModel" "queue" "[I") ∈ gws := mem_g (i := 839) (by decide +kernel) (by decide +kernel)
theorem wg_841 : (Jvm.Cond.laysFinal "DanceCardsModel" "DanceCardsModel" "from" "[I") ∈ gws := mem_g (i := 841) (by decide +kernel) (by decide +kernel)
theorem wg_843 : (Jvm.Cond.laysFinal "DanceCardsModel" "DanceCardsModel" "lanes" "[I") ∈ gws := mem_g (i := 843) (by decide +kernel) (by decide +kernel)
theorem wg_845 : (Jvm.Cond.laysFinal "DanceCardsModel" "DanceCardsModel" "lengths" "[I") ∈ gws := mem_g (i := 845) (by decide +kernel) (by decide +kernel)
theorem wg_847 : (Jvm.Cond.laysFinal "DanceCardsModel" "DanceCardsModel" "cells" "[I") ∈ gws := mem_g (i := 847) (by decide +kernel) (by decide +kernel)
theorem wg_849 : (Jvm.Cond.laysFinal "DanceCardsModel" "DanceCardsModel" "laidRow" "[I") ∈ gws := mem_g (i := 849) (by decide +kernel) (by decide +kernel)
theorem wg_851 : (Jvm.Cond.lays "DanceCardsModel" "DanceCardsModel" "couples" "I") ∈ gws := mem_g (i := 851) (by decide +kernel) (by decide +kernel)
theorem wg_853 : (Jvm.Cond.laysFinal "DanceCardsModel" "DanceCardsModel" "ladyOf" "[I") ∈ gws := mem_g (i := 853) (by decide +kernel) (by decide +kernel)
theorem wg_855 : (Jvm.Cond.laysFinal "DanceCardsModel" "DanceCardsModel" "setOf" "[I") ∈ gws := mem_g (i := 855) (by decide +kernel) (by decide +kernel)
theorem wg_857 : (Jvm.Cond.lays "DanceCardsModel" "DanceCardsModel" "setMany" "I") ∈ gws := mem_g (i := 857) (by decide +kernel) (by decide +kernel)
theorem wg_863 : (Jvm.Cond.code ({ cls := "DanceCardsModel", name := "person", desc := "(ZI)I" } : Jvm.MethodName) prog_10_method_4_code (4 : Nat) (Option.some Jvm.ClassFile.FieldType.int)) ∈ gws := mem_g (i := 863) (by decide +kernel) (by decide +kernel)
theorem wg_864 : (Jvm.Cond.constantLong "DanceCardsModel" (74 : Nat) (9 : Int64)) ∈ gws := mem_g (i := 864) (by decide +kernel) (by decide +kernel)
theorem wg_865 : (Jvm.Cond.methodLink "DanceCardsModel" (76 : Nat) ({ cls := "DanceCardsModel", name := "in", desc := "(JJJ)Z" } : Jvm.MethodName)) ∈ gws := mem_g (i := 865) (by decide +kernel) (by decide +kernel)
theorem wg_866 : (Jvm.Cond.static ({ cls := "DanceCardsModel", name := "in", desc := "(JJJ)Z" } : Jvm.MethodName)) ∈ gws := mem_g (i := 866) (by decide +kernel) (by decide +kernel)
theorem wg_867 : (Jvm.Cond.code ({ cls := "DanceCardsModel", name := "in", desc := "(JJJ)Z" } : Jvm.MethodName) prog_10_method_3_code (6 : Nat) (Option.some Jvm.ClassFile.FieldType.boolean)) ∈ gws := mem_g (i := 867) (by decide +kernel) (by decide +kernel)
theorem wg_871 : (Jvm.Cond.code ({ cls := "DanceCardsModel", name := "introduce", desc := "(III)I" } : Jvm.MethodName) prog_10_method_8_code (4 : Nat) (Option.some Jvm.ClassFile.FieldType.int)) ∈ gws := mem_g (i := 871) (by decide +kernel) (by decide +kernel)
theorem wg_872 : (Jvm.Cond.methodLink "DanceCardsModel" (88 : Nat) ({ cls := "DanceCardsModel", name := "areTwo", desc := "(II)Z" } : Jvm.MethodName)) ∈ gws := mem_g (i := 872) (by decide +kernel) (by decide +kernel)
theorem wg_874 : (Jvm.Cond.instanceMethod ({ cls := "DanceCardsModel", name := "areTwo", desc := "(II)Z" } : Jvm.MethodName)) ∈ gws := mem_g (i := 874) (by decide +kernel) (by decide +kernel)
theorem wg_875 : (Jvm.Cond.code ({ cls := "DanceCardsModel", name := "areTwo", desc := "(II)Z" } : Jvm.MethodName) prog_10_method_6_code (3 : Nat) (Option.some Jvm.ClassFile.FieldType.boolean)) ∈ gws := mem_g (i := 875) (by decide +kernel) (by decide +kernel)
theorem wg_876 : (Jvm.Cond.methodLink "DanceCardsModel" (84 : Nat) ({ cls := "DanceCardsModel", name := "is", desc := "(I)Z" } : Jvm.MethodName)) ∈ gws := mem_g (i := 876) (by decide +kernel) (by decide +kernel)
theorem wg_878 : (Jvm.Cond.instanceMethod ({ cls := "DanceCardsModel", name := "is", desc := "(I)Z" } : Jvm.MethodName)) ∈ gws := mem_g (i := 878) (by decide +kernel) (by decide +kernel)
theorem wg_879 : (Jvm.Cond.code ({ cls := "DanceCardsModel", name := "is", desc := "(I)Z" } : Jvm.MethodName) prog_10_method_5_code (2 : Nat) (Option.some Jvm.ClassFile.FieldType.boolean)) ∈ gws := mem_g (i := 879) (by decide +kernel) (by decide +kernel)
theorem wg_880 : (Jvm.Cond.methodLink "DanceCardsModel" (92 : Nat) ({ cls := "DanceCardsModel", name := "doKnow", desc := "(II)Z" } : Jvm.MethodName)) ∈ gws := mem_g (i := 880) (by decide +kernel) (by decide +kernel)
theorem wg_882 : (Jvm.Cond.instanceMethod ({ cls := "DanceCardsModel", name := "doKnow", desc := "(II)Z" } : Jvm.MethodName)) ∈ gws := mem_g (i := 882) (by decide +kernel) (by decide +kernel)
theorem wg_883 : (Jvm.Cond.code ({ cls := "DanceCardsModel", name := "doKnow", desc := "(II)Z" } : Jvm.MethodName) prog_10_method_7_code (3 : Nat) (Option.some Jvm.ClassFile.FieldType.boolean)) ∈ gws := mem_g (i := 883) (by decide +kernel) (by decide +kernel)
theorem wg_887 : (Jvm.Cond.code ({ cls := "DanceCardsModel", name := "feud", desc := "(IIZ)I" } : Jvm.MethodName) prog_10_method_9_code (5 : Nat) (Option.some Jvm.ClassFile.FieldType.int)) ∈ gws := mem_g (i := 887) (by decide +kernel) (by decide +kernel)
theorem wg_891 : (Jvm.Cond.code ({ cls := "DanceCardsModel", name := "knows", desc := "(II)I" } : Jvm.MethodName) prog_10_method_10_code (3 : Nat) (Option.some Jvm.ClassFile.FieldType.int)) ∈ gws := mem_g (i := 891) (by decide +kernel) (by decide +kernel)
theorem wg_895 : (Jvm.Cond.code ({ cls := "DanceCardsModel", name := "feed", desc := "(J)I" } : Jvm.MethodName) prog_10_method_11_code (4 : Nat) (Option.some Jvm.ClassFile.FieldType.int)) ∈ gws := mem_g (i := 895) (by decide +kernel) (by decide +kernel)
theorem wg_899 : (Jvm.Cond.code ({ cls := "DanceCardsModel", name := "end", desc := "(I)I" } : Jvm.MethodName) prog_10_method_12_code (3 : Nat) (Option.some Jvm.ClassFile.FieldType.int)) ∈ gws := mem_g (i := 899) (by decide +kernel) (by decide +kernel)
theorem wg_903 : (Jvm.Cond.code ({ cls := "DanceCardsModel", name := "customs", desc := "()I" } : Jvm.MethodName) prog_10_method_19_code (3 : Nat) (Option.some Jvm.ClassFile.FieldType.int)) ∈ gws := mem_g (i := 903) (by decide +kernel) (by decide +kernel)
theorem wg_904 : (Jvm.Cond.methodLink "DanceCardsModel" (147 : Nat) ({ cls := "DanceCardsModel", name := "next", desc := "()V" } : Jvm.MethodName)) ∈ gws := mem_g (i := 904) (by decide +kernel) (by decide +kernel)
theorem wg_906 : (Jvm.Cond.instanceMethod ({ cls := "DanceCardsModel", name := "next", desc := "()V" } : Jvm.MethodName)) ∈ gws := mem_g (i := 906) (by decide +kernel) (by decide +kernel)
theorem wg_907 : (Jvm.Cond.code ({ cls := "DanceCardsModel", name := "next", desc := "()V" } : Jvm.MethodName) prog_10_method_16_code (4 : Nat) (Option.none : Option Jvm.ClassFile.FieldType)) ∈ gws := mem_g (i := 907) (by decide +kernel) (by decide +kernel)
theorem wg_908 : (Jvm.Cond.methodLink "DanceCardsModel" (118 : Nat) ({ cls := "DanceCardsModel", name := "byteAt", desc := "(I)I" } : Jvm.MethodName)) ∈ gws := mem_g (i := 908) (by decide +kernel) (by decide +kernel)
theorem wg_910 : (Jvm.Cond.instanceMethod ({ cls := "DanceCardsModel", name := "byteAt", desc := "(I)I" } : Jvm.MethodName)) ∈ gws := mem_g (i := 910) (by decide +kernel) (by decide +kernel)
theorem wg_911 : (Jvm.Cond.code ({ cls := "DanceCardsModel", name := "byteAt", desc := "(I)I" } : Jvm.MethodName) prog_10_method_13_code (2 : Nat) (Option.some Jvm.ClassFile.FieldType.int)) ∈ gws := mem_g (i := 911) (by decide +kernel) (by decide +kernel)
theorem wg_912 : (Jvm.Cond.constantLong "DanceCardsModel" (125 : Nat) (97 : Int64)) ∈ gws := mem_g (i := 912) (by decide +kernel) (by decide +kernel)
theorem wg_913 : (Jvm.Cond.constantLong "DanceCardsModel" (127 : Nat) (122 : Int64)) ∈ gws := mem_g (i := 913) (by decide +kernel) (by decide +kernel)
theorem wg_914 : (Jvm.Cond.methodLink "DanceCardsModel" (129 : Nat) ({ cls := "DanceCardsModel", name := "nameOf", desc := "(J)I" } : Jvm.MethodName)) ∈ gws := mem_g (i := 914) (by decide +kernel) (by decide +kernel)
theorem wg_915 : (Jvm.Cond.static ({ cls := "DanceCardsModel", name := "nameOf", desc := "(J)I" } : Jvm.MethodName)) ∈ gws := mem_g (i := 915) (by decide +kernel) (by decide +kernel)
theorem wg_916 : (Jvm.Cond.code ({ cls := "DanceCardsModel", name := "nameOf", desc := "(J)I" } : Jvm.MethodName) prog_10_method_15_code (2 : Nat) (Option.some Jvm.ClassFile.FieldType.int)) ∈ gws := mem_g (i := 916) (by decide +kernel) (by decide +kernel)
theorem wg_917 : (Jvm.Cond.constantLong "DanceCardsModel" (107 : Nat) (1885432178 : Int64)) ∈ gws := mem_g (i := 917) (by decide +kernel) (by decide +kernel)
theorem wg_918 : (Jvm.Cond.constantLong "DanceCardsModel" (109 : Nat) (1918987883 : Int64)) ∈ gws := mem_g (i := 918) (by decide +kernel) (by decide +kernel)
theorem wg_919 : (Jvm.Cond.constantLong "DanceCardsModel" (111 : Nat) (7499639 : Int64)) ∈ gws := mem_g (i := 919) (by decide +kernel) (by decide +kernel)
theorem wg_920 : (Jvm.Cond.constantLong "DanceCardsModel" (113 : Nat) (126948234782066 : Int64)) ∈ gws := mem_g (i := 920) (by decide +kernel) (by decide +kernel)
theorem wg_921 : (Jvm.Cond.methodLink "DanceCardsModel" (136 : Nat) ({ cls := "DanceCardsModel", name := "fails", desc := "(I)V" } : Jvm.MethodName)) ∈ gws := mem_g (i := 921) (by decide +kernel) (by decide +kernel)
theorem wg_923 : (Jvm.Cond.instanceMethod ({ cls := "DanceCardsModel", name := "fails", desc := "(I)V" } : Jvm.MethodName)) ∈ gws := mem_g (i := 923) (by decide +kernel) (by decide +kernel)
theorem wg_924 : (Jvm.Cond.code ({ cls := "DanceCardsModel", name := "fails", desc := "(I)V" } : Jvm.MethodName) prog_10_method_14_code (2 : Nat) (Option.none : Option Jvm.ClassFile.FieldType)) ∈ gws := mem_g (i := 924) (by decide +kernel) (by decide +kernel)
theorem wg_925 : (Jvm.Cond.constantLong "DanceCardsModel" (140 : Nat) (48 : Int64)) ∈ gws := mem_g (i := 925) (by decide +kernel) (by decide +kernel)
theorem wg_926 : (Jvm.Cond.constantLong "DanceCardsModel" (142 : Nat) (57 : Int64)) ∈ gws := mem_g (i := 926) (by decide +kernel) (by decide +kernel)
theorem wg_927 : (Jvm.Cond.methodLink "DanceCardsModel" (150 : Nat) ({ cls := "DanceCardsModel", name := "custom", desc := "()V" } : Jvm.MethodName)) ∈ gws := mem_g (i := 927) (by decide +kernel) (by decide +kernel)
theorem wg_929 : (Jvm.Cond.instanceMethod ({ cls := "DanceCardsModel", name := "custom", desc := "()V" } : Jvm.MethodName)) ∈ gws := mem_g (i := 929) (by decide +kernel) (by decide +kernel)
theorem wg_930 : (Jvm.Cond.code ({ cls := "DanceCardsModel", name := "custom", desc := "()V" } : Jvm.MethodName) prog_10_method_18_code (4 : Nat) (Option.none : Option Jvm.ClassFile.FieldType)) ∈ gws := mem_g (i := 930) (by decide +kernel) (by decide +kernel)
theorem wg_931 : (Jvm.Cond.methodLink "DanceCardsModel" (144 : Nat) ({ cls := "DanceCardsModel", name := "wants", desc := "(I)V" } : Jvm.MethodName)) ∈ gws := mem_g (i := 931) (by decide +kernel) (by decide +kernel)
theorem wg_933 : (Jvm.Cond.instanceMethod ({ cls := "DanceCardsModel", name := "wants", desc := "(I)V" } : Jvm.MethodName)) ∈ gws := mem_g (i := 933) (by decide +kernel) (by decide +kernel)
theorem wg_934 : (Jvm.Cond.code ({ cls := "DanceCardsModel", name := "wants", desc := "(I)V" } : Jvm.MethodName) prog_10_method_17_code (2 : Nat) (Option.none : Option Jvm.ClassFile.FieldType)) ∈ gws := mem_g (i := 934) (by decide +kernel) (by decide +kernel)
theorem wg_938 : (Jvm.Cond.code ({ cls := "DanceCardsModel", name := "fault", desc := "()I" } : Jvm.MethodName) prog_10_method_20_code (1 : Nat) (Option.some Jvm.ClassFile.FieldType.int)) ∈ gws := mem_g (i := 938) (by decide +kernel) (by decide +kernel)
theorem wg_942 : (Jvm.Cond.code ({ cls := "DanceCardsModel", name := "custom", desc := "(I)I" } : Jvm.MethodName) prog_10_method_21_code (2 : Nat) (Option.some Jvm.ClassFile.FieldType.int)) ∈ gws := mem_g (i := 942) (by decide +kernel) (by decide +kernel)
theorem wg_943 : (Jvm.Cond.constantLong "DanceCardsModel" (156 : Nat) (3 : Int64)) ∈ gws := mem_g (i := 943) (by decide +kernel) (by decide +kernel)
theorem wg_945 : (Jvm.Cond.instanceMethod ({ cls := "DanceCardsModel", name := "ask", desc := "(III)I" } : Jvm.MethodName)) ∈ gws := mem_g (i := 945) (by decide +kernel) (by decide +kernel)
theorem wg_946 : (Jvm.Cond.selects "DanceCardsModel" ({ cls := "DanceCardsModel", name := "ask", desc := "(III)I" } : Jvm.MethodName) ({ cls := "DanceCardsModel", name := "ask", desc := "(III)I" } : Jvm.MethodName)) ∈ gws := mem_g (i := 946) (by decide +kernel) (by decide +kernel)
theorem wg_947 : (Jvm.Cond.code ({ cls := "DanceCardsModel", name := "ask", desc := "(III)I" } : Jvm.MethodName) prog_10_method_31_code (5 : Nat) (Option.some Jvm.ClassFile.FieldType.int)) ∈ gws := mem_g (i := 947) (by decide +kernel) (by decide +kernel)
theorem wg_948 : (Jvm.Cond.methodLink "DanceCardsModel" (177 : Nat) ({ cls := "DanceCardsModel", name := "areCouple", desc := "(III)Z" } : Jvm.MethodName)) ∈ gws := mem_g (i := 948) (by decide +kernel) (by decide +kernel)
theorem wg_950 : (Jvm.Cond.instanceMethod ({ cls := "DanceCardsModel", name := "areCouple", desc := "(III)Z" } : Jvm.MethodName)) ∈ gws := mem_g (i := 950) (by decide +kernel) (by decide +kernel)
theorem wg_951 : (Jvm.Cond.code ({ cls := "DanceCardsModel", name := "areCouple", desc := "(III)Z" } : Jvm.MethodName) prog_10_method_28_code (4 : Nat) (Option.some Jvm.ClassFile.FieldType.boolean)) ∈ gws := mem_g (i := 951) (by decide +kernel) (by decide +kernel)
theorem wg_952 : (Jvm.Cond.constantLong "DanceCardsModel" (158 : Nat) (23 : Int64)) ∈ gws := mem_g (i := 952) (by decide +kernel) (by decide +kernel)
theorem wg_953 : (Jvm.Cond.methodLink "DanceCardsModel" (181 : Nat) ({ cls := "DanceCardsModel", name := "whyNot", desc := "(III)I" } : Jvm.MethodName)) ∈ gws := mem_g (i := 953) (by decide +kernel) (by decide +kernel)
theorem wg_955 : (Jvm.Cond.instanceMethod ({ cls := "DanceCardsModel", name := "whyNot", desc := "(III)I" } : Jvm.MethodName)) ∈ gws := mem_g (i := 955) (by decide +kernel) (by decide +kernel)
theorem wg_956 : (Jvm.Cond.code ({ cls := "DanceCardsModel", name := "whyNot", desc := "(III)I" } : Jvm.MethodName) prog_10_method_27_code (6 : Nat) (Option.some Jvm.ClassFile.FieldType.int)) ∈ gws := mem_g (i := 956) (by decide +kernel) (by decide +kernel)
theorem wg_957 : (Jvm.Cond.methodLink "DanceCardsModel" (167 : Nat) ({ cls := "DanceCardsModel", name := "together", desc := "(II)I" } : Jvm.MethodName)) ∈ gws := mem_g (i := 957) (by decide +kernel) (by decide +kernel)
theorem wg_959 : (Jvm.Cond.instanceMethod ({ cls := "DanceCardsModel", name := "together", desc := "(II)I" } : Jvm.MethodName)) ∈ gws := mem_g (i := 959) (by decide +kernel) (by decide +kernel)
theorem wg_960 : (Jvm.Cond.code ({ cls := "DanceCardsModel", name := "together", desc := "(II)I" } : Jvm.MethodName) prog_10_method_25_code (5 : Nat) (Option.some Jvm.ClassFile.FieldType.int)) ∈ gws := mem_g (i := 960) (by decide +kernel) (by decide +kernel)
theorem wg_961 : (Jvm.Cond.methodLink "DanceCardsModel" (160 : Nat) ({ cls := "DanceCardsModel", name := "cardOf", desc := "(II)I" } : Jvm.MethodName)) ∈ gws := mem_g (i := 961) (by decide +kernel) (by decide +kernel)
theorem wg_963 : (Jvm.Cond.instanceMethod ({ cls := "DanceCardsModel", name := "cardOf", desc := "(II)I" } : Jvm.MethodName)) ∈ gws := mem_g (i := 963) (by decide +kernel) (by decide +kernel)
theorem wg_964 : (Jvm.Cond.code ({ cls := "DanceCardsModel", name := "cardOf", desc := "(II)I" } : Jvm.MethodName) prog_10_method_22_code (3 : Nat) (Option.some Jvm.ClassFile.FieldType.int)) ∈ gws := mem_g (i := 964) (by decide +kernel) (by decide +kernel)
theorem wg_965 : (Jvm.Cond.methodLink "DanceCardsModel" (170 : Nat) ({ cls := "DanceCardsModel", name := "runWith", desc := "(II)I" } : Jvm.MethodName)) ∈ gws := mem_g (i := 965) (by decide +kernel) (by decide +kernel)
theorem wg_967 : (Jvm.Cond.instanceMethod ({ cls := "DanceCardsModel", name := "runWith", desc := "(II)I" } : Jvm.MethodName)) ∈ gws := mem_g (i := 967) (by decide +kernel) (by decide +kernel)
theorem wg_968 : (Jvm.Cond.code ({ cls := "DanceCardsModel", name := "runWith", desc := "(II)I" } : Jvm.MethodName) prog_10_method_26_code (5 : Nat) (Option.some Jvm.ClassFile.FieldType.int)) ∈ gws := mem_g (i := 968) (by decide +kernel) (by decide +kernel)
theorem wg_969 : (Jvm.Cond.methodLink "DanceCardsModel" (164 : Nat) ({ cls := "DanceCardsModel", name := "hasPartner", desc := "(II)Z" } : Jvm.MethodName)) ∈ gws := mem_g (i := 969) (by decide +kernel) (by decide +kernel)
theorem wg_971 : (Jvm.Cond.instanceMethod ({ cls := "DanceCardsModel", name := "hasPartner", desc := "(II)Z" } : Jvm.MethodName)) ∈ gws := mem_g (i := 971) (by decide +kernel) (by decide +kernel)
theorem wg_972 : (Jvm.Cond.code ({ cls := "DanceCardsModel", name := "hasPartner", desc := "(II)Z" } : Jvm.MethodName) prog_10_method_24_code (3 : Nat) (Option.some Jvm.ClassFile.FieldType.boolean)) ∈ gws := mem_g (i := 972) (by decide +kernel) (by decide +kernel)
theorem wg_973 : (Jvm.Cond.methodLink "DanceCardsModel" (185 : Nat) ({ cls := "DanceCardsModel", name := "couple", desc := "(III)V" } : Jvm.MethodName)) ∈ gws := mem_g (i := 973) (by decide +kernel) (by decide +kernel)
theorem wg_975 : (Jvm.Cond.instanceMethod ({ cls := "DanceCardsModel", name := "couple", desc := "(III)V" } : Jvm.MethodName)) ∈ gws := mem_g (i := 975) (by decide +kernel) (by decide +kernel)
theorem wg_976 : (Jvm.Cond.code ({ cls := "DanceCardsModel", name := "couple", desc := "(III)V" } : Jvm.MethodName) prog_10_method_29_code (4 : Nat) (Option.none : Option Jvm.ClassFile.FieldType)) ∈ gws := mem_g (i := 976) (by decide +kernel) (by decide +kernel)
theorem wg_977 : (Jvm.Cond.methodLink "DanceCardsModel" (173 : Nat) ({ cls := "DanceCardsModel", name := "write", desc := "(III)V" } : Jvm.MethodName)) ∈ gws := mem_g (i := 977) (by decide +kernel) (by decide +kernel)
theorem wg_979 : (Jvm.Cond.instanceMethod ({ cls := "DanceCardsModel", name := "write", desc := "(III)V" } : Jvm.MethodName)) ∈ gws := mem_g (i := 979) (by decide +kernel) (by decide +kernel)
theorem wg_980 : (Jvm.Cond.code ({ cls := "DanceCardsModel", name := "write", desc := "(III)V" } : Jvm.MethodName) prog_10_method_23_code (4 : Nat) (Option.none : Option Jvm.ClassFile.FieldType)) ∈ gws := mem_g (i := 980) (by decide +kernel) (by decide +kernel)
theorem wg_984 : (Jvm.Cond.code ({ cls := "DanceCardsModel", name := "why", desc := "(III)I" } : Jvm.MethodName) prog_10_method_32_code (4 : Nat) (Option.some Jvm.ClassFile.FieldType.int)) ∈ gws := mem_g (i := 984) (by decide +kernel) (by decide +kernel)
theorem wg_988 : (Jvm.Cond.code ({ cls := "DanceCardsModel", name := "refuse", desc := "(III)I" } : Jvm.MethodName) prog_10_method_33_code (5 : Nat) (Option.some Jvm.ClassFile.FieldType.int)) ∈ gws := mem_g (i := 988) (by decide +kernel) (by decide +kernel)
theorem wg_992 : (Jvm.Cond.code ({ cls := "DanceCardsModel", name := "part", desc := "(III)I" } : Jvm.MethodName) prog_10_method_34_code (4 : Nat) (Option.some Jvm.ClassFile.FieldType.int)) ∈ gws := mem_g (i := 992) (by decide +kernel) (by decide +kernel)
theorem wg_993 : (Jvm.Cond.methodLink "DanceCardsModel" (188 : Nat) ({ cls := "DanceCardsModel", name := "uncouple", desc := "(III)V" } : Jvm.MethodName)) ∈ gws := mem_g (i := 993) (by decide +kernel) (by decide +kernel)
theorem wg_995 : (Jvm.Cond.instanceMethod ({ cls := "DanceCardsModel", name := "uncouple", desc := "(III)V" } : Jvm.MethodName)) ∈ gws := mem_g (i := 995) (by decide +kernel) (by decide +kernel)
theorem wg_996 : (Jvm.Cond.code ({ cls := "DanceCardsModel", name := "uncouple", desc := "(III)V" } : Jvm.MethodName) prog_10_method_30_code (4 : Nat) (Option.none : Option Jvm.ClassFile.FieldType)) ∈ gws := mem_g (i := 996) (by decide +kernel) (by decide +kernel)
theorem wg_1000 : (Jvm.Cond.code ({ cls := "DanceCardsModel", name := "swap", desc := "(III)I" } : Jvm.MethodName) prog_10_method_35_code (7 : Nat) (Option.some Jvm.ClassFile.FieldType.int)) ∈ gws := mem_g (i := 1000) (by decide +kernel) (by decide +kernel)
theorem wg_1004 : (Jvm.Cond.code ({ cls := "DanceCardsModel", name := "card", desc := "(II)I" } : Jvm.MethodName) prog_10_method_36_code (3 : Nat) (Option.some Jvm.ClassFile.FieldType.int)) ∈ gws := mem_g (i := 1004) (by decide +kernel) (by decide +kernel)
theorem wg_1008 : (Jvm.Cond.code ({ cls := "DanceCardsModel", name := "ill", desc := "(I)I" } : Jvm.MethodName) prog_10_method_37_code (4 : Nat) (Option.some Jvm.ClassFile.FieldType.int)) ∈ gws := mem_g (i := 1008) (by decide +kernel) (by decide +kernel)
theorem wg_1012 : (Jvm.Cond.code ({ cls := "DanceCardsModel", name := "well", desc := "(I)I" } : Jvm.MethodName) prog_10_method_38_code (2 : Nat) (Option.some Jvm.ClassFile.FieldType.int)) ∈ gws := mem_g (i := 1012) (by decide +kernel) (by decide +kernel)
theorem wg_1016 : (Jvm.Cond.code ({ cls := "DanceCardsModel", name := "could", desc := "(I)I" } : Jvm.MethodName) prog_10_method_43_code (2 : Nat) (Option.some Jvm.ClassFile.FieldType.int)) ∈ gws := mem_g (i := 1016) (by decide +kernel) (by decide +kernel)
theorem wg_1017 : (Jvm.Cond.methodLink "DanceCardsModel" (198 : Nat) ({ cls := "DanceCardsModel", name := "layDance", desc := "(I)V" } : Jvm.MethodName)) ∈ gws := mem_g (i := 1017) (by decide +kernel) (by decide +kernel)
theorem wg_1019 : (Jvm.Cond.instanceMethod ({ cls := "DanceCardsModel", name := "layDance", desc := "(I)V" } : Jvm.MethodName)) ∈ gws := mem_g (i := 1019) (by decide +kernel) (by decide +kernel)
theorem wg_1020 : (Jvm.Cond.code ({ cls := "DanceCardsModel", name := "layDance", desc := "(I)V" } : Jvm.MethodName) prog_10_method_39_code (4 : Nat) (Option.none : Option Jvm.ClassFile.FieldType)) ∈ gws := mem_g (i := 1020) (by decide +kernel) (by decide +kernel)
theorem wg_1021 : (Jvm.Cond.methodLink "DanceCardsModel" (201 : Nat) ({ cls := "DanceCardsModel", name := "mostFrom", desc := "(I)I" } : Jvm.MethodName)) ∈ gws := mem_g (i := 1021) (by decide +kernel) (by decide +kernel)
theorem wg_1023 : (Jvm.Cond.instanceMethod ({ cls := "DanceCardsModel", name := "mostFrom", desc := "(I)I" } : Jvm.MethodName)) ∈ gws := mem_g (i := 1023) (by decide +kernel) (by decide +kernel)
theorem wg_1024 : (Jvm.Cond.code ({ cls := "DanceCardsModel", name := "mostFrom", desc := "(I)I" } : Jvm.MethodName) prog_10_method_42_code (4 : Nat) (Option.some Jvm.ClassFile.FieldType.int)) ∈ gws := mem_g (i := 1024) (by decide +kernel) (by decide +kernel)
theorem wg_1025 : (Jvm.Cond.methodLink "DanceCardsModel" (195 : Nat) ({ cls := "DanceCardsModel", name := "gets", desc := "(I)Z" } : Jvm.MethodName)) ∈ gws := mem_g (i := 1025) (by decide +kernel) (by decide +kernel)
theorem wg_1027 : (Jvm.Cond.instanceMethod ({ cls := "DanceCardsModel", name := "gets", desc := "(I)Z" } : Jvm.MethodName)) ∈ gws := mem_g (i := 1027) (by decide +kernel) (by decide +kernel)
theorem wg_1028 : (Jvm.Cond.code ({ cls := "DanceCardsModel", name := "gets", desc := "(I)Z" } : Jvm.MethodName) prog_10_method_40_code (6 : Nat) (Option.some Jvm.ClassFile.FieldType.boolean)) ∈ gws := mem_g (i := 1028) (by decide +kernel) (by decide +kernel)
theorem wg_1029 : (Jvm.Cond.methodLink "DanceCardsModel" (191 : Nat) ({ cls := "DanceCardsModel", name := "change", desc := "(II)V" } : Jvm.MethodName)) ∈ gws := mem_g (i := 1029) (by decide +kernel) (by decide +kernel)
theorem wg_1031 : (Jvm.Cond.instanceMethod ({ cls := "DanceCardsModel", name := "change", desc := "(II)V" } : Jvm.MethodName)) ∈ gws := mem_g (i := 1031) (by decide +kernel) (by decide +kernel)
theorem wg_1032 : (Jvm.Cond.code ({ cls := "DanceCardsModel", name := "change", desc := "(II)V" } : Jvm.MethodName) prog_10_method_41_code (7 : Nat) (Option.none : Option Jvm.ClassFile.FieldType)) ∈ gws := mem_g (i := 1032) (by decide +kernel) (by decide +kernel)
theorem wg_1036 : (Jvm.Cond.code ({ cls := "DanceCardsModel", name := "fill", desc := "(I)I" } : Jvm.MethodName) prog_10_method_45_code (7 : Nat) (Option.some Jvm.ClassFile.FieldType.int)) ∈ gws := mem_g (i := 1036) (by decide +kernel) (by decide +kernel)
theorem wg_1037 : (Jvm.Cond.methodLink "DanceCardsModel" (204 : Nat) ({ cls := "DanceCardsModel", name := "loosen", desc := "()V" } : Jvm.MethodName)) ∈ gws := mem_g (i := 1037) (by decide +kernel) (by decide +kernel)
theorem wg_1039 : (Jvm.Cond.instanceMethod ({ cls := "DanceCardsModel", name := "loosen", desc := "()V" } : Jvm.MethodName)) ∈ gws := mem_g (i := 1039) (by decide +kernel) (by decide +kernel)
theorem wg_1040 : (Jvm.Cond.code ({ cls := "DanceCardsModel", name := "loosen", desc := "()V" } : Jvm.MethodName) prog_10_method_44_code (2 : Nat) (Option.none : Option Jvm.ClassFile.FieldType)) ∈ gws := mem_g (i := 1040) (by decide +kernel) (by decide +kernel)
theorem wg_1041 : (Jvm.Cond.methodLink "DanceCardsModel" (207 : Nat) ({ cls := "DanceCardsModel", name := "fix", desc := "(IIZ)V" } : Jvm.MethodName)) ∈ gws := mem_g (i := 1041) (by decide +kernel) (by decide +kernel)
theorem wg_1043 : (Jvm.Cond.instanceMethod ({ cls := "DanceCardsModel", name := "fix", desc := "(IIZ)V" } : Jvm.MethodName)) ∈ gws := mem_g (i := 1043) (by decide +kernel) (by decide +kernel)
theorem wg_1044 : (Jvm.Cond.code ({ cls := "DanceCardsModel", name := "fix", desc := "(IIZ)V" } : Jvm.MethodName) prog_10_method_46_code (4 : Nat) (Option.none : Option Jvm.ClassFile.FieldType)) ∈ gws := mem_g (i := 1044) (by decide +kernel) (by decide +kernel)
theorem wg_1048 : (Jvm.Cond.code ({ cls := "DanceCardsModel", name := "about", desc := "(II)I" } : Jvm.MethodName) prog_10_method_47_code (10 : Nat) (Option.some Jvm.ClassFile.FieldType.int)) ∈ gws := mem_g (i := 1048) (by decide +kernel) (by decide +kernel)
theorem wg_1052 : (Jvm.Cond.code ({ cls := "DanceCardsModel", name := "sheet", desc := "(III)I" } : Jvm.MethodName) prog_10_method_48_code (5 : Nat) (Option.some Jvm.ClassFile.FieldType.int)) ∈ gws := mem_g (i := 1052) (by decide +kernel) (by decide +kernel)
theorem wg_1053 : (Jvm.Cond.constantLong "DanceCardsModel" (211 : Nat) (2 : Int64)) ∈ gws := mem_g (i := 1053) (by decide +kernel) (by decide +kernel)
theorem wg_1057 : (Jvm.Cond.code ({ cls := "DanceCardsModel", name := "lay", desc := "(III)I" } : Jvm.MethodName) prog_10_method_49_code (4 : Nat) (Option.some Jvm.ClassFile.FieldType.int)) ∈ gws := mem_g (i := 1057) (by decide +kernel) (by decide +kernel)
theorem wg_1061 : (Jvm.Cond.code ({ cls := "DanceCardsModel", name := "scan", desc := "(IIII)I" } : Jvm.MethodName) prog_10_method_50_code (12 : Nat) (Option.some Jvm.ClassFile.FieldType.int)) ∈ gws := mem_g (i := 1061) (by decide +kernel) (by decide +kernel)
theorem wg_1062 : (Jvm.Cond.constantLong "DanceCardsModel" (213 : Nat) (20 : Int64)) ∈ gws := mem_g (i := 1062) (by decide +kernel) (by decide +kernel)
theorem wg_1063 : (Jvm.Cond.methodLink "DanceCardsModel" (215 : Nat) ({ cls := "DanceCardsModel", name := "ask", desc := "(III)I" } : Jvm.MethodName)) ∈ gws := mem_g (i := 1063) (by decide +kernel) (by decide +kernel)
theorem wg_1067 : (Jvm.Cond.code ({ cls := "DanceCardsModel", name := "wish", desc := "(III)I" } : Jvm.MethodName) prog_10_method_51_code (5 : Nat) (Option.some Jvm.ClassFile.FieldType.int)) ∈ gws := mem_g (i := 1067) (by decide +kernel) (by decide +kernel)
theorem wg_1068 : (Jvm.Cond.constantLong "DanceCardsModel" (218 : Nat) (4 : Int64)) ∈ gws := mem_g (i := 1068) (by decide +kernel) (by decide +kernel)
theorem wg_1072 : (Jvm.Cond.code ({ cls := "DanceCardsModel", name := "fewest", desc := "()I" } : Jvm.MethodName) prog_10_method_52_code (5 : Nat) (Option.some Jvm.ClassFile.FieldType.int)) ∈ gws := mem_g (i := 1072) (by decide +kernel) (by decide +kernel)
theorem wg_1076 : (Jvm.Cond.code ({ cls := "DanceCardsModel", name := "laid", desc := "(II)I" } : Jvm.MethodName) prog_10_method_56_code (3 : Nat) (Option.some Jvm.ClassFile.FieldType.int)) ∈ gws := mem_g (i := 1076) (by decide +kernel) (by decide +kernel)
theorem wg_1077 : (Jvm.Cond.constantLong "DanceCardsModel" (226 : Nat) (63 : Int64)) ∈ gws := mem_g (i := 1077) (by decide +kernel) (by decide +kernel)
theorem wg_1078 : (Jvm.Cond.methodLink "DanceCardsModel" (228 : Nat) ({ cls := "DanceCardsModel", name := "layAll", desc := "()V" } : Jvm.MethodName)) ∈ gws := mem_g (i := 1078) (by decide +kernel) (by decide +kernel)
theorem wg_1080 : (Jvm.Cond.instanceMethod ({ cls := "DanceCardsModel", name := "layAll", desc := "()V" } : Jvm.MethodName)) ∈ gws := mem_g (i := 1080) (by decide +kernel) (by decide +kernel)
theorem wg_1081 : (Jvm.Cond.code ({ cls := "DanceCardsModel", name := "layAll", desc := "()V" } : Jvm.MethodName) prog_10_method_55_code (4 : Nat) (Option.none : Option Jvm.ClassFile.FieldType)) ∈ gws := mem_g (i := 1081) (by decide +kernel) (by decide +kernel)
theorem wg_1082 : (Jvm.Cond.methodLink "DanceCardsModel" (223 : Nat) ({ cls := "DanceCardsModel", name := "lays", desc := "(II)V" } : Jvm.MethodName)) ∈ gws := mem_g (i := 1082) (by decide +kernel) (by decide +kernel)
theorem wg_1084 : (Jvm.Cond.instanceMethod ({ cls := "DanceCardsModel", name := "lays", desc := "(II)V" } : Jvm.MethodName)) ∈ gws := mem_g (i := 1084) (by decide +kernel) (by decide +kernel)
theorem wg_1085 : (Jvm.Cond.code ({ cls := "DanceCardsModel", name := "lays", desc := "(II)V" } : Jvm.MethodName) prog_10_method_54_code (10 : Nat) (Option.none : Option Jvm.ClassFile.FieldType)) ∈ gws := mem_g (i := 1085) (by decide +kernel) (by decide +kernel)
theorem wg_1086 : (Jvm.Cond.methodLink "DanceCardsModel" (220 : Nat) ({ cls := "DanceCardsModel", name := "freeOf", desc := "(I)I" } : Jvm.MethodName)) ∈ gws := mem_g (i := 1086) (by decide +kernel) (by decide +kernel)
theorem wg_1088 : (Jvm.Cond.instanceMethod ({ cls := "DanceCardsModel", name := "freeOf", desc := "(I)I" } : Jvm.MethodName)) ∈ gws := mem_g (i := 1088) (by decide +kernel) (by decide +kernel)
theorem wg_1089 : (Jvm.Cond.code ({ cls := "DanceCardsModel", name := "freeOf", desc := "(I)I" } : Jvm.MethodName) prog_10_method_53_code (3 : Nat) (Option.some Jvm.ClassFile.FieldType.int)) ∈ gws := mem_g (i := 1089) (by decide +kernel) (by decide +kernel)
theorem wg_1093 : (Jvm.Cond.code ({ cls := "DanceCardsModel", name := "sets", desc := "(I)I" } : Jvm.MethodName) prog_10_method_61_code (2 : Nat) (Option.some Jvm.ClassFile.FieldType.int)) ∈ gws := mem_g (i := 1093) (by decide +kernel) (by decide +kernel)
theorem wg_1094 : (Jvm.Cond.methodLink "DanceCardsModel" (246 : Nat) ({ cls := "DanceCardsModel", name := "laySets", desc := "(I)V" } : Jvm.MethodName)) ∈ gws := mem_g (i := 1094) (by decide +kernel) (by decide +kernel)
theorem wg_1096 : (Jvm.Cond.instanceMethod ({ cls := "DanceCardsModel", name := "laySets", desc := "(I)V" } : Jvm.MethodName)) ∈ gws := mem_g (i := 1096) (by decide +kernel) (by decide +kernel)
theorem wg_1097 : (Jvm.Cond.code ({ cls := "DanceCardsModel", name := "laySets", desc := "(I)V" } : Jvm.MethodName) prog_10_method_60_code (3 : Nat) (Option.none : Option Jvm.ClassFile.FieldType)) ∈ gws := mem_g (i := 1097) (by decide +kernel) (by decide +kernel)
theorem wg_1098 : (Jvm.Cond.methodLink "DanceCardsModel" (243 : Nat) ({ cls := "DanceCardsModel", name := "stand", desc := "(II)Z" } : Jvm.MethodName)) ∈ gws := mem_g (i := 1098) (by decide +kernel) (by decide +kernel)
theorem wg_1100 : (Jvm.Cond.instanceMethod ({ cls := "DanceCardsModel", name := "stand", desc := "(II)Z" } : Jvm.MethodName)) ∈ gws := mem_g (i := 1100) (by decide +kernel) (by decide +kernel)
theorem wg_1101 : (Jvm.Cond.code ({ cls := "DanceCardsModel", name := "stand", desc := "(II)Z" } : Jvm.MethodName) prog_10_method_59_code (4 : Nat) (Option.some Jvm.ClassFile.FieldType.boolean)) ∈ gws := mem_g (i := 1101) (by decide +kernel) (by decide +kernel)
theorem wg_1102 : (Jvm.Cond.methodLink "DanceCardsModel" (237 : Nat) ({ cls := "DanceCardsModel", name := "mayStand", desc := "(II)Z" } : Jvm.MethodName)) ∈ gws := mem_g (i := 1102) (by decide +kernel) (by decide +kernel)
theorem wg_1104 : (Jvm.Cond.instanceMethod ({ cls := "DanceCardsModel", name := "mayStand", desc := "(II)Z" } : Jvm.MethodName)) ∈ gws := mem_g (i := 1104) (by decide +kernel) (by decide +kernel)
theorem wg_1105 : (Jvm.Cond.code ({ cls := "DanceCardsModel", name := "mayStand", desc := "(II)Z" } : Jvm.MethodName) prog_10_method_58_code (6 : Nat) (Option.some Jvm.ClassFile.FieldType.boolean)) ∈ gws := mem_g (i := 1105) (by decide +kernel) (by decide +kernel)
theorem wg_1106 : (Jvm.Cond.methodLink "DanceCardsModel" (231 : Nat) ({ cls := "DanceCardsModel", name := "quarrel", desc := "(III)Z" } : Jvm.MethodName)) ∈ gws := mem_g (i := 1106) (by decide +kernel) (by decide +kernel)
theorem wg_1108 : (Jvm.Cond.instanceMethod ({ cls := "DanceCardsModel", name := "quarrel", desc := "(III)Z" } : Jvm.MethodName)) ∈ gws := mem_g (i := 1108) (by decide +kernel) (by decide +kernel)
theorem wg_1109 : (Jvm.Cond.code ({ cls := "DanceCardsModel", name := "quarrel", desc := "(III)Z" } : Jvm.MethodName) prog_10_method_57_code (8 : Nat) (Option.some Jvm.ClassFile.FieldType.boolean)) ∈ gws := mem_g (i := 1109) (by decide +kernel) (by decide +kernel)
theorem wg_1113 : (Jvm.Cond.code ({ cls := "DanceCardsModel", name := "set", desc := "(II)I" } : Jvm.MethodName) prog_10_method_62_code (4 : Nat) (Option.some Jvm.ClassFile.FieldType.int)) ∈ gws := mem_g (i := 1113) (by decide +kernel) (by decide +kernel)
theorem wg_1117 : (Jvm.Cond.code ({ cls := "DanceCardsModel", name := "count", desc := "(I)I" } : Jvm.MethodName) prog_10_method_63_code (4 : Nat) (Option.some Jvm.ClassFile.FieldType.int)) ∈ gws := mem_g (i := 1117) (by decide +kernel) (by decide +kernel)
theorem wg_1119 : (Jvm.Cond.fieldLink "java/lang/String" (9 : Nat) "java/lang/String" "value" "[B") ∈ gws := mem_g (i := 1119) (by decide +kernel) (by decide +kernel)
theorem wg_1120 : (Jvm.Cond.fieldLink "java/lang/String" (15 : Nat) "java/lang/String" "coder" "B") ∈ gws := mem_g (i := 1120) (by decide +kernel) (by decide +kernel)
theorem wn_33 : (Jvm.Cond.fieldLinkNest "DanceCards" (62 : Nat) "DanceCards$Guests" "number" "I" "DanceCards") ∈ nws := mem_n (i := 33) (by decide +kernel) (by decide +kernel)
theorem wn_65 : (Jvm.Cond.fieldLinkNest "DanceCards" (243 : Nat) "DanceCards$Tape" "length" "I" "DanceCards") ∈ nws := mem_n (i := 65) (by decide +kernel) (by decide +kernel)
theorem wn_67 : (Jvm.Cond.fieldLinkNest "DanceCards" (108 : Nat) "DanceCards$Tape" "latestFault" "I" "DanceCards") ∈ nws := mem_n (i := 67) (by decide +kernel) (by decide +kernel)
theorem wn_69 : (Jvm.Cond.fieldLinkNest "DanceCards" (111 : Nat) "DanceCards$Tape" "told" "[I" "DanceCards") ∈ nws := mem_n (i := 69) (by decide +kernel) (by decide +kernel)
theorem wn_114 : (Jvm.Cond.fieldLinkNest "DanceCards" (165 : Nat) "DanceCards$Pairing" "chosen" "[I" "DanceCards") ∈ nws := mem_n (i := 114) (by decide +kernel) (by decide +kernel)
theorem wn_134 : (Jvm.Cond.fieldLinkNest "DanceCards" (198 : Nat) "DanceCards$Papers" "lanes" "[I" "DanceCards") ∈ nws := mem_n (i := 134) (by decide +kernel) (by decide +kernel)
theorem wn_136 : (Jvm.Cond.fieldLinkNest "DanceCards" (240 : Nat) "DanceCards$Papers" "sizes" "[I" "DanceCards") ∈ nws := mem_n (i := 136) (by decide +kernel) (by decide +kernel)
theorem wn_215 : (Jvm.Cond.methodLinkNest "DanceCards" (66 : Nat) ({ cls := "DanceCards$Guests", name := "welcome", desc := "(ZI)I" } : Jvm.MethodName) "DanceCards") ∈ nws := mem_n (i := 215) (by decide +kernel) (by decide +kernel)
theorem wn_227 : (Jvm.Cond.methodLinkNest "DanceCards" (74 : Nat) ({ cls := "DanceCards$Guests", name := "isThere", desc := "(I)Z" } : Jvm.MethodName) "DanceCards") ∈ nws := mem_n (i := 227) (by decide +kernel) (by decide +kernel)
theorem wn_231 : (Jvm.Cond.methodLinkNest "DanceCards" (78 : Nat) ({ cls := "DanceCards$Guests", name := "areKnown", desc := "(II)Z" } : Jvm.MethodName) "DanceCards") ∈ nws := mem_n (i := 231) (by decide +kernel) (by decide +kernel)
theorem wn_235 : (Jvm.Cond.methodLinkNest "DanceCards" (81 : Nat) ({ cls := "DanceCards$Guests", name := "makeKnown", desc := "(II)V" } : Jvm.MethodName) "DanceCards") ∈ nws := mem_n (i := 235) (by decide +kernel) (by decide +kernel)
theorem wn_243 : (Jvm.Cond.methodLinkNest "DanceCards" (85 : Nat) ({ cls := "DanceCards$Guests", name := "areAtFeud", desc := "(II)Z" } : Jvm.MethodName) "DanceCards") ∈ nws := mem_n (i := 243) (by decide +kernel) (by decide +kernel)
theorem wn_250 : (Jvm.Cond.methodLinkNest "DanceCards" (92 : Nat) ({ cls := "DanceCards$Guests", name := "putAtFeud", desc := "(IIZ)V" } : Jvm.MethodName) "DanceCards") ∈ nws := mem_n (i := 250) (by decide +kernel) (by decide +kernel)
theorem wn_262 : (Jvm.Cond.methodLinkNest "DanceCards" (96 : Nat) ({ cls := "DanceCards$Tape", name := "takeEight", desc := "(J)I" } : Jvm.MethodName) "DanceCards") ∈ nws := mem_n (i := 262) (by decide +kernel) (by decide +kernel)
theorem wn_270 : (Jvm.Cond.methodLinkNest "DanceCards" (100 : Nat) ({ cls := "DanceCards$Tape", name := "keepFirst", desc := "(I)I" } : Jvm.MethodName) "DanceCards") ∈ nws := mem_n (i := 270) (by decide +kernel) (by decide +kernel)
theorem wn_274 : (Jvm.Cond.methodLinkNest "DanceCards$Tape" (40 : Nat) ({ cls := "DanceCards", name := "isWithin", desc := "(III)Z" } : Jvm.MethodName) "DanceCards") ∈ nws := mem_n (i := 274) (by decide +kernel) (by decide +kernel)
theorem wn_279 : (Jvm.Cond.methodLinkNest "DanceCards" (104 : Nat) ({ cls := "DanceCards$Tape", name := "tellAll", desc := "()I" } : Jvm.MethodName) "DanceCards") ∈ nws := mem_n (i := 279) (by decide +kernel) (by decide +kernel)
theorem wn_389 : (Jvm.Cond.methodLinkNest "DanceCards$Tape" (32 : Nat) ({ cls := "DanceCards", name := "toInt", desc := "(Z)I" } : Jvm.MethodName) "DanceCards") ∈ nws := mem_n (i := 389) (by decide +kernel) (by decide +kernel)
theorem wn_406 : (Jvm.Cond.methodLinkNest "DanceCards" (136 : Nat) ({ cls := "DanceCards$Guests", name := "isGentleman", desc := "(I)Z" } : Jvm.MethodName) "DanceCards") ∈ nws := mem_n (i := 406) (by decide +kernel) (by decide +kernel)
theorem wn_411 : (Jvm.Cond.methodLinkNest "DanceCards" (207 : Nat) ({ cls := "DanceCards$Guests", name := "isLady", desc := "(I)Z" } : Jvm.MethodName) "DanceCards") ∈ nws := mem_n (i := 411) (by decide +kernel) (by decide +kernel)
theorem wn_422 : (Jvm.Cond.methodLinkNest "DanceCards" (145 : Nat) ({ cls := "DanceCards$Guests", name := "isIll", desc := "(I)Z" } : Jvm.MethodName) "DanceCards") ∈ nws := mem_n (i := 422) (by decide +kernel) (by decide +kernel)
theorem wn_426 : (Jvm.Cond.methodLinkNest "DanceCards" (246 : Nat) ({ cls := "DanceCards$Tape", name := "isTold", desc := "(I)Z" } : Jvm.MethodName) "DanceCards") ∈ nws := mem_n (i := 426) (by decide +kernel) (by decide +kernel)
theorem wn_427 : (Jvm.Cond.methodLinkNest "DanceCards" (249 : Nat) ({ cls := "DanceCards$Guests", name := "rankGap", desc := "(II)I" } : Jvm.MethodName) "DanceCards") ∈ nws := mem_n (i := 427) (by decide +kernel) (by decide +kernel)
theorem wn_434 : (Jvm.Cond.methodLinkNest "DanceCards" (252 : Nat) ({ cls := "DanceCards$Cards", name := "isTaken", desc := "(II)Z" } : Jvm.MethodName) "DanceCards") ∈ nws := mem_n (i := 434) (by decide +kernel) (by decide +kernel)
theorem wn_446 : (Jvm.Cond.methodLinkNest "DanceCards" (258 : Nat) ({ cls := "DanceCards$Cards", name := "together", desc := "(II)I" } : Jvm.MethodName) "DanceCards") ∈ nws := mem_n (i := 446) (by decide +kernel) (by decide +kernel)
theorem wn_450 : (Jvm.Cond.methodLinkNest "DanceCards$Cards" (36 : Nat) ({ cls := "DanceCards", name := "toInt", desc := "(Z)I" } : Jvm.MethodName) "DanceCards") ∈ nws := mem_n (i := 450) (by decide +kernel) (by decide +kernel)
theorem wn_451 : (Jvm.Cond.methodLinkNest "DanceCards" (261 : Nat) ({ cls := "DanceCards$Cards", name := "rowThrough", desc := "(II)I" } : Jvm.MethodName) "DanceCards") ∈ nws := mem_n (i := 451) (by decide +kernel) (by decide +kernel)
theorem wn_462 : (Jvm.Cond.methodLinkNest "DanceCards" (122 : Nat) ({ cls := "DanceCards$Cards", name := "join", desc := "(III)V" } : Jvm.MethodName) "DanceCards") ∈ nws := mem_n (i := 462) (by decide +kernel) (by decide +kernel)
theorem wn_478 : (Jvm.Cond.methodLinkNest "DanceCards" (126 : Nat) ({ cls := "DanceCards$Cards", name := "sitOut", desc := "(II)V" } : Jvm.MethodName) "DanceCards") ∈ nws := mem_n (i := 478) (by decide +kernel) (by decide +kernel)
theorem wn_486 : (Jvm.Cond.methodLinkNest "DanceCards" (129 : Nat) ({ cls := "DanceCards$Cards", name := "entry", desc := "(II)I" } : Jvm.MethodName) "DanceCards") ∈ nws := mem_n (i := 486) (by decide +kernel) (by decide +kernel)
theorem wn_487 : (Jvm.Cond.methodLinkNest "DanceCards" (133 : Nat) ({ cls := "DanceCards$Cards", name := "separate", desc := "(III)V" } : Jvm.MethodName) "DanceCards") ∈ nws := mem_n (i := 487) (by decide +kernel) (by decide +kernel)
theorem wn_495 : (Jvm.Cond.methodLinkNest "DanceCards" (142 : Nat) ({ cls := "DanceCards$Cards", name := "isPaired", desc := "(II)Z" } : Jvm.MethodName) "DanceCards") ∈ nws := mem_n (i := 495) (by decide +kernel) (by decide +kernel)
theorem wn_504 : (Jvm.Cond.methodLinkNest "DanceCards" (148 : Nat) ({ cls := "DanceCards$Guests", name := "makeIll", desc := "(IZ)V" } : Jvm.MethodName) "DanceCards") ∈ nws := mem_n (i := 504) (by decide +kernel) (by decide +kernel)
theorem wn_508 : (Jvm.Cond.methodLinkNest "DanceCards" (152 : Nat) ({ cls := "DanceCards$Cards", name := "separateAll", desc := "(I)I" } : Jvm.MethodName) "DanceCards") ∈ nws := mem_n (i := 508) (by decide +kernel) (by decide +kernel)
theorem wn_525 : (Jvm.Cond.methodLinkNest "DanceCards" (269 : Nat) ({ cls := "DanceCards$Pairing", name := "forget", desc := "()V" } : Jvm.MethodName) "DanceCards") ∈ nws := mem_n (i := 525) (by decide +kernel) (by decide +kernel)
theorem wn_530 : (Jvm.Cond.methodLinkNest "DanceCards" (272 : Nat) ({ cls := "DanceCards$Pairing", name := "allow", desc := "(II)V" } : Jvm.MethodName) "DanceCards") ∈ nws := mem_n (i := 530) (by decide +kernel) (by decide +kernel)
theorem wn_534 : (Jvm.Cond.methodLinkNest "DanceCards" (159 : Nat) ({ cls := "DanceCards$Pairing", name := "mostOfAll", desc := "()I" } : Jvm.MethodName) "DanceCards") ∈ nws := mem_n (i := 534) (by decide +kernel) (by decide +kernel)
theorem wn_550 : (Jvm.Cond.methodLinkNest "DanceCards" (162 : Nat) ({ cls := "DanceCards$Pairing", name := "chooseAll", desc := "()V" } : Jvm.MethodName) "DanceCards") ∈ nws := mem_n (i := 550) (by decide +kernel) (by decide +kernel)
theorem wn_563 : (Jvm.Cond.methodLinkNest "DanceCards" (168 : Nat) ({ cls := "DanceCards$Cards", name := "pairedDances", desc := "(I)I" } : Jvm.MethodName) "DanceCards") ∈ nws := mem_n (i := 563) (by decide +kernel) (by decide +kernel)
theorem wn_567 : (Jvm.Cond.methodLinkNest "DanceCards" (171 : Nat) ({ cls := "DanceCards$Cards", name := "others", desc := "(I)I" } : Jvm.MethodName) "DanceCards") ∈ nws := mem_n (i := 567) (by decide +kernel) (by decide +kernel)
theorem wn_577 : (Jvm.Cond.methodLinkNest "DanceCards" (174 : Nat) ({ cls := "DanceCards$Cards", name := "longestRow", desc := "(I)I" } : Jvm.MethodName) "DanceCards") ∈ nws := mem_n (i := 577) (by decide +kernel) (by decide +kernel)
theorem wn_582 : (Jvm.Cond.methodLinkNest "DanceCards" (177 : Nat) ({ cls := "DanceCards$Cards", name := "sittings", desc := "(I)I" } : Jvm.MethodName) "DanceCards") ∈ nws := mem_n (i := 582) (by decide +kernel) (by decide +kernel)
theorem wn_596 : (Jvm.Cond.methodLinkNest "DanceCards" (186 : Nat) ({ cls := "DanceCards$Papers", name := "renew", desc := "(III)V" } : Jvm.MethodName) "DanceCards") ∈ nws := mem_n (i := 596) (by decide +kernel) (by decide +kernel)
theorem wn_604 : (Jvm.Cond.methodLinkNest "DanceCards" (189 : Nat) ({ cls := "DanceCards$Papers", name := "isSomething", desc := "(I)Z" } : Jvm.MethodName) "DanceCards") ∈ nws := mem_n (i := 604) (by decide +kernel) (by decide +kernel)
theorem wn_608 : (Jvm.Cond.methodLinkNest "DanceCards" (192 : Nat) ({ cls := "DanceCards$Papers", name := "hasCells", desc := "(III)Z" } : Jvm.MethodName) "DanceCards") ∈ nws := mem_n (i := 608) (by decide +kernel) (by decide +kernel)
theorem wn_612 : (Jvm.Cond.methodLinkNest "DanceCards" (195 : Nat) ({ cls := "DanceCards$Papers", name := "write", desc := "(III)V" } : Jvm.MethodName) "DanceCards") ∈ nws := mem_n (i := 612) (by decide +kernel) (by decide +kernel)
theorem wn_627 : (Jvm.Cond.methodLinkNest "DanceCards" (275 : Nat) ({ cls := "DanceCards$Papers", name := "read", desc := "(II)I" } : Jvm.MethodName) "DanceCards") ∈ nws := mem_n (i := 627) (by decide +kernel) (by decide +kernel)
theorem wn_639 : (Jvm.Cond.methodLinkNest "DanceCards" (210 : Nat) ({ cls := "DanceCards$Wishes", name := "change", desc := "(III)I" } : Jvm.MethodName) "DanceCards") ∈ nws := mem_n (i := 639) (by decide +kernel) (by decide +kernel)
theorem wn_647 : (Jvm.Cond.methodLinkNest "DanceCards" (213 : Nat) ({ cls := "DanceCards$Wishes", name := "mostOfOne", desc := "()I" } : Jvm.MethodName) "DanceCards") ∈ nws := mem_n (i := 647) (by decide +kernel) (by decide +kernel)
theorem wn_660 : (Jvm.Cond.methodLinkNest "DanceCards" (216 : Nat) ({ cls := "DanceCards$Wishes", name := "partnerIn", desc := "(II)I" } : Jvm.MethodName) "DanceCards") ∈ nws := mem_n (i := 660) (by decide +kernel) (by decide +kernel)
theorem wn_697 : (Jvm.Cond.methodLinkNest "DanceCards" (278 : Nat) ({ cls := "DanceCards$Grouping", name := "forget", desc := "()V" } : Jvm.MethodName) "DanceCards") ∈ nws := mem_n (i := 697) (by decide +kernel) (by decide +kernel)
theorem wn_701 : (Jvm.Cond.methodLinkNest "DanceCards" (279 : Nat) ({ cls := "DanceCards$Guests", name := "bitsOf", desc := "(II)I" } : Jvm.MethodName) "DanceCards") ∈ nws := mem_n (i := 701) (by decide +kernel) (by decide +kernel)
theorem wn_705 : (Jvm.Cond.methodLinkNest "DanceCards" (282 : Nat) ({ cls := "DanceCards$Guests", name := "foesOf", desc := "(II)I" } : Jvm.MethodName) "DanceCards") ∈ nws := mem_n (i := 705) (by decide +kernel) (by decide +kernel)
theorem wn_709 : (Jvm.Cond.methodLinkNest "DanceCards" (285 : Nat) ({ cls := "DanceCards$Grouping", name := "addCouple", desc := "(II)V" } : Jvm.MethodName) "DanceCards") ∈ nws := mem_n (i := 709) (by decide +kernel) (by decide +kernel)
theorem wn_713 : (Jvm.Cond.methodLinkNest "DanceCards" (288 : Nat) ({ cls := "DanceCards$Grouping", name := "group", desc := "()I" } : Jvm.MethodName) "DanceCards") ∈ nws := mem_n (i := 713) (by decide +kernel) (by decide +kernel)
theorem wn_729 : (Jvm.Cond.methodLinkNest "DanceCards" (222 : Nat) ({ cls := "DanceCards$Grouping", name := "groupOf", desc := "(I)I" } : Jvm.MethodName) "DanceCards") ∈ nws := mem_n (i := 729) (by decide +kernel) (by decide +kernel)
theorem wn_737 : (Jvm.Cond.methodLinkNest "DanceCards" (225 : Nat) ({ cls := "DanceCards$Guests", name := "ladies", desc := "()I" } : Jvm.MethodName) "DanceCards") ∈ nws := mem_n (i := 737) (by decide +kernel) (by decide +kernel)
theorem wn_741 : (Jvm.Cond.methodLinkNest "DanceCards$Guests" (42 : Nat) ({ cls := "DanceCards", name := "toInt", desc := "(Z)I" } : Jvm.MethodName) "DanceCards") ∈ nws := mem_n (i := 741) (by decide +kernel) (by decide +kernel)
theorem wn_742 : (Jvm.Cond.methodLinkNest "DanceCards" (228 : Nat) ({ cls := "DanceCards$Cards", name := "couples", desc := "()I" } : Jvm.MethodName) "DanceCards") ∈ nws := mem_n (i := 742) (by decide +kernel) (by decide +kernel)
theorem wn_747 : (Jvm.Cond.methodLinkNest "DanceCards" (231 : Nat) ({ cls := "DanceCards$Tape", name := "toldCustoms", desc := "()I" } : Jvm.MethodName) "DanceCards") ∈ nws := mem_n (i := 747) (by decide +kernel) (by decide +kernel)
theorem wn_748 : (Jvm.Cond.methodLinkNest "DanceCards" (234 : Nat) ({ cls := "DanceCards$Guests", name := "illOnes", desc := "()I" } : Jvm.MethodName) "DanceCards") ∈ nws := mem_n (i := 748) (by decide +kernel) (by decide +kernel)
theorem wn_752 : (Jvm.Cond.methodLinkNest "DanceCards" (237 : Nat) ({ cls := "DanceCards$Guests", name := "knownPairs", desc := "()I" } : Jvm.MethodName) "DanceCards") ∈ nws := mem_n (i := 752) (by decide +kernel) (by decide +kernel)
theorem ws_0 : Cond.selects "DanceCards$Guests" ⟨"DanceCards$Guests", "welcome", "(ZI)I"⟩ ⟨"DanceCards$Guests", "welcome", "(ZI)I"⟩ ∈ gws := mem_s (q := (⟨"DanceCards$Guests", "welcome", "(ZI)I"⟩, 6)) (i := 0) (by decide +kernel) (by decide +kernel)
theorem ws_1 : Cond.selects "DanceCards" ⟨"DanceCards", "areTwo", "(II)Z"⟩ ⟨"DanceCards", "areTwo", "(II)Z"⟩ ∈ gws := mem_s (q := (⟨"DanceCards", "areTwo", "(II)Z"⟩, 7)) (i := 1) (by decide +kernel) (by decide +kernel)
theorem ws_2 : Cond.selects "DanceCards$Guests" ⟨"DanceCards$Guests", "isThere", "(I)Z"⟩ ⟨"DanceCards$Guests", "isThere", "(I)Z"⟩ ∈ gws := mem_s (q := (⟨"DanceCards$Guests", "isThere", "(I)Z"⟩, 6)) (i := 2) (by decide +kernel) (by decide +kernel)
theorem ws_3 : Cond.selects "DanceCards$Guests" ⟨"DanceCards$Guests", "areKnown", "(II)Z"⟩ ⟨"DanceCards$Guests", "areKnown", "(II)Z"⟩ ∈ gws := mem_s (q := (⟨"DanceCards$Guests", "areKnown", "(II)Z"⟩, 6)) (i := 3) (by decide +kernel) (by decide +kernel)
theorem ws_4 : Cond.selects "DanceCards$Guests" ⟨"DanceCards$Guests", "makeKnown", "(II)V"⟩ ⟨"DanceCards$Guests", "makeKnown", "(II)V"⟩ ∈ gws := mem_s (q := (⟨"DanceCards$Guests", "makeKnown", "(II)V"⟩, 6)) (i := 4) (by decide +kernel) (by decide +kernel)
theorem ws_5 : Cond.selects "DanceCards$Guests" ⟨"DanceCards$Guests", "areAtFeud", "(II)Z"⟩ ⟨"DanceCards$Guests", "areAtFeud", "(II)Z"⟩ ∈ gws := mem_s (q := (⟨"DanceCards$Guests", "areAtFeud", "(II)Z"⟩, 6)) (i := 5) (by decide +kernel) (by decide +kernel)
theorem ws_6 : Cond.selects "DanceCards$Guests" ⟨"DanceCards$Guests", "putAtFeud", "(IIZ)V"⟩ ⟨"DanceCards$Guests", "putAtFeud", "(IIZ)V"⟩ ∈ gws := mem_s (q := (⟨"DanceCards$Guests", "putAtFeud", "(IIZ)V"⟩, 6)) (i := 6) (by decide +kernel) (by decide +kernel)
theorem ws_7 : Cond.selects "DanceCards$Tape" ⟨"DanceCards$Tape", "takeEight", "(J)I"⟩ ⟨"DanceCards$Tape", "takeEight", "(J)I"⟩ ∈ gws := mem_s (q := (⟨"DanceCards$Tape", "takeEight", "(J)I"⟩, 9)) (i := 7) (by decide +kernel) (by decide +kernel)
theorem ws_8 : Cond.selects "DanceCards$Tape" ⟨"DanceCards$Tape", "keepFirst", "(I)I"⟩ ⟨"DanceCards$Tape", "keepFirst", "(I)I"⟩ ∈ gws := mem_s (q := (⟨"DanceCards$Tape", "keepFirst", "(I)I"⟩, 9)) (i := 8) (by decide +kernel) (by decide +kernel)
theorem ws_9 : Cond.selects "DanceCards$Tape" ⟨"DanceCards$Tape", "tellAll", "()I"⟩ ⟨"DanceCards$Tape", "tellAll", "()I"⟩ ∈ gws := mem_s (q := (⟨"DanceCards$Tape", "tellAll", "()I"⟩, 9)) (i := 9) (by decide +kernel) (by decide +kernel)
theorem ws_10 : Cond.selects "DanceCards$Tape" ⟨"DanceCards$Tape", "readText", "()I"⟩ ⟨"DanceCards$Tape", "readText", "()I"⟩ ∈ gws := mem_s (q := (⟨"DanceCards$Tape", "readText", "()I"⟩, 9)) (i := 10) (by decide +kernel) (by decide +kernel)
theorem ws_11 : Cond.selects "DanceCards$Tape" ⟨"DanceCards$Tape", "readToken", "()V"⟩ ⟨"DanceCards$Tape", "readToken", "()V"⟩ ∈ gws := mem_s (q := (⟨"DanceCards$Tape", "readToken", "()V"⟩, 9)) (i := 11) (by decide +kernel) (by decide +kernel)
theorem ws_12 : Cond.selects "DanceCards$Tape" ⟨"DanceCards$Tape", "isLetter", "(I)Z"⟩ ⟨"DanceCards$Tape", "isLetter", "(I)Z"⟩ ∈ gws := mem_s (q := (⟨"DanceCards$Tape", "isLetter", "(I)Z"⟩, 9)) (i := 12) (by decide +kernel) (by decide +kernel)
theorem ws_13 : Cond.selects "DanceCards$Tape" ⟨"DanceCards$Tape", "readName", "()V"⟩ ⟨"DanceCards$Tape", "readName", "()V"⟩ ∈ gws := mem_s (q := (⟨"DanceCards$Tape", "readName", "()V"⟩, 9)) (i := 13) (by decide +kernel) (by decide +kernel)
theorem ws_14 : Cond.selects "DanceCards$Tape" ⟨"DanceCards$Tape", "isTokenText", "(Ljava/lang/String;)Z"⟩ ⟨"DanceCards$Tape", "isTokenText", "(Ljava/lang/String;)Z"⟩ ∈ gws := mem_s (q := (⟨"DanceCards$Tape", "isTokenText", "(Ljava/lang/String;)Z"⟩, 9)) (i := 14) (by decide +kernel) (by decide +kernel)
theorem ws_15 : Cond.selects "DanceCards$Tape" ⟨"DanceCards$Tape", "isFigure", "(I)Z"⟩ ⟨"DanceCards$Tape", "isFigure", "(I)Z"⟩ ∈ gws := mem_s (q := (⟨"DanceCards$Tape", "isFigure", "(I)Z"⟩, 9)) (i := 15) (by decide +kernel) (by decide +kernel)
theorem ws_16 : Cond.selects "DanceCards$Tape" ⟨"DanceCards$Tape", "readNumber", "()V"⟩ ⟨"DanceCards$Tape", "readNumber", "()V"⟩ ∈ gws := mem_s (q := (⟨"DanceCards$Tape", "readNumber", "()V"⟩, 9)) (i := 16) (by decide +kernel) (by decide +kernel)
theorem ws_17 : Cond.selects "DanceCards$Tape" ⟨"DanceCards$Tape", "readCustom", "()I"⟩ ⟨"DanceCards$Tape", "readCustom", "()I"⟩ ∈ gws := mem_s (q := (⟨"DanceCards$Tape", "readCustom", "()I"⟩, 9)) (i := 17) (by decide +kernel) (by decide +kernel)
theorem ws_18 : Cond.selects "DanceCards$Tape" ⟨"DanceCards$Tape", "faultUnless", "(I)I"⟩ ⟨"DanceCards$Tape", "faultUnless", "(I)I"⟩ ∈ gws := mem_s (q := (⟨"DanceCards$Tape", "faultUnless", "(I)I"⟩, 9)) (i := 18) (by decide +kernel) (by decide +kernel)
theorem ws_19 : Cond.selects "DanceCards$Tape" ⟨"DanceCards$Tape", "toldCustoms", "()I"⟩ ⟨"DanceCards$Tape", "toldCustoms", "()I"⟩ ∈ gws := mem_s (q := (⟨"DanceCards$Tape", "toldCustoms", "()I"⟩, 9)) (i := 19) (by decide +kernel) (by decide +kernel)
theorem ws_20 : Cond.selects "DanceCards$Tape" ⟨"DanceCards$Tape", "isTold", "(I)Z"⟩ ⟨"DanceCards$Tape", "isTold", "(I)Z"⟩ ∈ gws := mem_s (q := (⟨"DanceCards$Tape", "isTold", "(I)Z"⟩, 9)) (i := 20) (by decide +kernel) (by decide +kernel)
theorem ws_21 : Cond.selects "DanceCards" ⟨"DanceCards", "isAsking", "(III)Z"⟩ ⟨"DanceCards", "isAsking", "(III)Z"⟩ ∈ gws := mem_s (q := (⟨"DanceCards", "isAsking", "(III)Z"⟩, 7)) (i := 21) (by decide +kernel) (by decide +kernel)
theorem ws_22 : Cond.selects "DanceCards$Guests" ⟨"DanceCards$Guests", "isGentleman", "(I)Z"⟩ ⟨"DanceCards$Guests", "isGentleman", "(I)Z"⟩ ∈ gws := mem_s (q := (⟨"DanceCards$Guests", "isGentleman", "(I)Z"⟩, 6)) (i := 22) (by decide +kernel) (by decide +kernel)
theorem ws_23 : Cond.selects "DanceCards$Guests" ⟨"DanceCards$Guests", "isLady", "(I)Z"⟩ ⟨"DanceCards$Guests", "isLady", "(I)Z"⟩ ∈ gws := mem_s (q := (⟨"DanceCards$Guests", "isLady", "(I)Z"⟩, 6)) (i := 23) (by decide +kernel) (by decide +kernel)
theorem ws_24 : Cond.selects "DanceCards" ⟨"DanceCards", "reasonAgainst", "(III)I"⟩ ⟨"DanceCards", "reasonAgainst", "(III)I"⟩ ∈ gws := mem_s (q := (⟨"DanceCards", "reasonAgainst", "(III)I"⟩, 7)) (i := 24) (by decide +kernel) (by decide +kernel)
theorem ws_25 : Cond.selects "DanceCards$Guests" ⟨"DanceCards$Guests", "isIll", "(I)Z"⟩ ⟨"DanceCards$Guests", "isIll", "(I)Z"⟩ ∈ gws := mem_s (q := (⟨"DanceCards$Guests", "isIll", "(I)Z"⟩, 6)) (i := 25) (by decide +kernel) (by decide +kernel)
theorem ws_26 : Cond.selects "DanceCards$Guests" ⟨"DanceCards$Guests", "rankGap", "(II)I"⟩ ⟨"DanceCards$Guests", "rankGap", "(II)I"⟩ ∈ gws := mem_s (q := (⟨"DanceCards$Guests", "rankGap", "(II)I"⟩, 6)) (i := 26) (by decide +kernel) (by decide +kernel)
theorem ws_27 : Cond.selects "DanceCards$Cards" ⟨"DanceCards$Cards", "isTaken", "(II)Z"⟩ ⟨"DanceCards$Cards", "isTaken", "(II)Z"⟩ ∈ gws := mem_s (q := (⟨"DanceCards$Cards", "isTaken", "(II)Z"⟩, 1)) (i := 27) (by decide +kernel) (by decide +kernel)
theorem ws_28 : Cond.selects "DanceCards$Cards" ⟨"DanceCards$Cards", "entry", "(II)I"⟩ ⟨"DanceCards$Cards", "entry", "(II)I"⟩ ∈ gws := mem_s (q := (⟨"DanceCards$Cards", "entry", "(II)I"⟩, 1)) (i := 28) (by decide +kernel) (by decide +kernel)
theorem ws_29 : Cond.selects "DanceCards" ⟨"DanceCards", "customAgainst", "(III)I"⟩ ⟨"DanceCards", "customAgainst", "(III)I"⟩ ∈ gws := mem_s (q := (⟨"DanceCards", "customAgainst", "(III)I"⟩, 7)) (i := 29) (by decide +kernel) (by decide +kernel)
theorem ws_30 : Cond.selects "DanceCards$Cards" ⟨"DanceCards$Cards", "together", "(II)I"⟩ ⟨"DanceCards$Cards", "together", "(II)I"⟩ ∈ gws := mem_s (q := (⟨"DanceCards$Cards", "together", "(II)I"⟩, 1)) (i := 30) (by decide +kernel) (by decide +kernel)
theorem ws_31 : Cond.selects "DanceCards$Cards" ⟨"DanceCards$Cards", "rowThrough", "(II)I"⟩ ⟨"DanceCards$Cards", "rowThrough", "(II)I"⟩ ∈ gws := mem_s (q := (⟨"DanceCards$Cards", "rowThrough", "(II)I"⟩, 1)) (i := 31) (by decide +kernel) (by decide +kernel)
theorem ws_32 : Cond.selects "DanceCards$Cards" ⟨"DanceCards$Cards", "isPaired", "(II)Z"⟩ ⟨"DanceCards$Cards", "isPaired", "(II)Z"⟩ ∈ gws := mem_s (q := (⟨"DanceCards$Cards", "isPaired", "(II)Z"⟩, 1)) (i := 32) (by decide +kernel) (by decide +kernel)
theorem ws_33 : Cond.selects "DanceCards$Cards" ⟨"DanceCards$Cards", "join", "(III)V"⟩ ⟨"DanceCards$Cards", "join", "(III)V"⟩ ∈ gws := mem_s (q := (⟨"DanceCards$Cards", "join", "(III)V"⟩, 1)) (i := 33) (by decide +kernel) (by decide +kernel)
theorem ws_34 : Cond.selects "DanceCards$Cards" ⟨"DanceCards$Cards", "enter", "(III)V"⟩ ⟨"DanceCards$Cards", "enter", "(III)V"⟩ ∈ gws := mem_s (q := (⟨"DanceCards$Cards", "enter", "(III)V"⟩, 1)) (i := 34) (by decide +kernel) (by decide +kernel)
theorem ws_35 : Cond.selects "DanceCards$Cards" ⟨"DanceCards$Cards", "sitOut", "(II)V"⟩ ⟨"DanceCards$Cards", "sitOut", "(II)V"⟩ ∈ gws := mem_s (q := (⟨"DanceCards$Cards", "sitOut", "(II)V"⟩, 1)) (i := 35) (by decide +kernel) (by decide +kernel)
theorem ws_36 : Cond.selects "DanceCards$Cards" ⟨"DanceCards$Cards", "separate", "(III)V"⟩ ⟨"DanceCards$Cards", "separate", "(III)V"⟩ ∈ gws := mem_s (q := (⟨"DanceCards$Cards", "separate", "(III)V"⟩, 1)) (i := 36) (by decide +kernel) (by decide +kernel)
theorem ws_37 : Cond.selects "DanceCards$Guests" ⟨"DanceCards$Guests", "makeIll", "(IZ)V"⟩ ⟨"DanceCards$Guests", "makeIll", "(IZ)V"⟩ ∈ gws := mem_s (q := (⟨"DanceCards$Guests", "makeIll", "(IZ)V"⟩, 6)) (i := 37) (by decide +kernel) (by decide +kernel)
theorem ws_38 : Cond.selects "DanceCards$Cards" ⟨"DanceCards$Cards", "separateAll", "(I)I"⟩ ⟨"DanceCards$Cards", "separateAll", "(I)I"⟩ ∈ gws := mem_s (q := (⟨"DanceCards$Cards", "separateAll", "(I)I"⟩, 1)) (i := 38) (by decide +kernel) (by decide +kernel)
theorem ws_39 : Cond.selects "DanceCards" ⟨"DanceCards", "findPossiblePairs", "(I)V"⟩ ⟨"DanceCards", "findPossiblePairs", "(I)V"⟩ ∈ gws := mem_s (q := (⟨"DanceCards", "findPossiblePairs", "(I)V"⟩, 7)) (i := 39) (by decide +kernel) (by decide +kernel)
theorem ws_40 : Cond.selects "DanceCards$Pairing" ⟨"DanceCards$Pairing", "forget", "()V"⟩ ⟨"DanceCards$Pairing", "forget", "()V"⟩ ∈ gws := mem_s (q := (⟨"DanceCards$Pairing", "forget", "()V"⟩, 4)) (i := 40) (by decide +kernel) (by decide +kernel)
theorem ws_41 : Cond.selects "DanceCards$Pairing" ⟨"DanceCards$Pairing", "allow", "(II)V"⟩ ⟨"DanceCards$Pairing", "allow", "(II)V"⟩ ∈ gws := mem_s (q := (⟨"DanceCards$Pairing", "allow", "(II)V"⟩, 4)) (i := 41) (by decide +kernel) (by decide +kernel)
theorem ws_42 : Cond.selects "DanceCards$Pairing" ⟨"DanceCards$Pairing", "mostOfAll", "()I"⟩ ⟨"DanceCards$Pairing", "mostOfAll", "()I"⟩ ∈ gws := mem_s (q := (⟨"DanceCards$Pairing", "mostOfAll", "()I"⟩, 4)) (i := 42) (by decide +kernel) (by decide +kernel)
theorem ws_43 : Cond.selects "DanceCards$Pairing" ⟨"DanceCards$Pairing", "mostBehind", "(II)I"⟩ ⟨"DanceCards$Pairing", "mostBehind", "(II)I"⟩ ∈ gws := mem_s (q := (⟨"DanceCards$Pairing", "mostBehind", "(II)I"⟩, 4)) (i := 43) (by decide +kernel) (by decide +kernel)
theorem ws_44 : Cond.selects "DanceCards$Pairing" ⟨"DanceCards$Pairing", "chooseAll", "()V"⟩ ⟨"DanceCards$Pairing", "chooseAll", "()V"⟩ ∈ gws := mem_s (q := (⟨"DanceCards$Pairing", "chooseAll", "()V"⟩, 4)) (i := 44) (by decide +kernel) (by decide +kernel)
theorem ws_45 : Cond.selects "DanceCards$Pairing" ⟨"DanceCards$Pairing", "leastFor", "(III)I"⟩ ⟨"DanceCards$Pairing", "leastFor", "(III)I"⟩ ∈ gws := mem_s (q := (⟨"DanceCards$Pairing", "leastFor", "(III)I"⟩, 4)) (i := 45) (by decide +kernel) (by decide +kernel)
theorem ws_46 : Cond.selects "DanceCards$Cards" ⟨"DanceCards$Cards", "pairedDances", "(I)I"⟩ ⟨"DanceCards$Cards", "pairedDances", "(I)I"⟩ ∈ gws := mem_s (q := (⟨"DanceCards$Cards", "pairedDances", "(I)I"⟩, 1)) (i := 46) (by decide +kernel) (by decide +kernel)
theorem ws_47 : Cond.selects "DanceCards$Cards" ⟨"DanceCards$Cards", "others", "(I)I"⟩ ⟨"DanceCards$Cards", "others", "(I)I"⟩ ∈ gws := mem_s (q := (⟨"DanceCards$Cards", "others", "(I)I"⟩, 1)) (i := 47) (by decide +kernel) (by decide +kernel)
theorem ws_48 : Cond.selects "DanceCards$Cards" ⟨"DanceCards$Cards", "longestRow", "(I)I"⟩ ⟨"DanceCards$Cards", "longestRow", "(I)I"⟩ ∈ gws := mem_s (q := (⟨"DanceCards$Cards", "longestRow", "(I)I"⟩, 1)) (i := 48) (by decide +kernel) (by decide +kernel)
theorem ws_49 : Cond.selects "DanceCards$Cards" ⟨"DanceCards$Cards", "sittings", "(I)I"⟩ ⟨"DanceCards$Cards", "sittings", "(I)I"⟩ ∈ gws := mem_s (q := (⟨"DanceCards$Cards", "sittings", "(I)I"⟩, 1)) (i := 49) (by decide +kernel) (by decide +kernel)
theorem ws_50 : Cond.selects "DanceCards$Papers" ⟨"DanceCards$Papers", "renew", "(III)V"⟩ ⟨"DanceCards$Papers", "renew", "(III)V"⟩ ∈ gws := mem_s (q := (⟨"DanceCards$Papers", "renew", "(III)V"⟩, 3)) (i := 50) (by decide +kernel) (by decide +kernel)
theorem ws_51 : Cond.selects "DanceCards$Papers" ⟨"DanceCards$Papers", "isSomething", "(I)Z"⟩ ⟨"DanceCards$Papers", "isSomething", "(I)Z"⟩ ∈ gws := mem_s (q := (⟨"DanceCards$Papers", "isSomething", "(I)Z"⟩, 3)) (i := 51) (by decide +kernel) (by decide +kernel)
theorem ws_52 : Cond.selects "DanceCards$Papers" ⟨"DanceCards$Papers", "hasCells", "(III)Z"⟩ ⟨"DanceCards$Papers", "hasCells", "(III)Z"⟩ ∈ gws := mem_s (q := (⟨"DanceCards$Papers", "hasCells", "(III)Z"⟩, 3)) (i := 52) (by decide +kernel) (by decide +kernel)
theorem ws_53 : Cond.selects "DanceCards$Papers" ⟨"DanceCards$Papers", "write", "(III)V"⟩ ⟨"DanceCards$Papers", "write", "(III)V"⟩ ∈ gws := mem_s (q := (⟨"DanceCards$Papers", "write", "(III)V"⟩, 3)) (i := 53) (by decide +kernel) (by decide +kernel)
theorem ws_54 : Cond.selects "DanceCards" ⟨"DanceCards", "askFromSheet", "(II)I"⟩ ⟨"DanceCards", "askFromSheet", "(II)I"⟩ ∈ gws := mem_s (q := (⟨"DanceCards", "askFromSheet", "(II)I"⟩, 7)) (i := 54) (by decide +kernel) (by decide +kernel)
theorem ws_55 : Cond.selects "DanceCards$Papers" ⟨"DanceCards$Papers", "read", "(II)I"⟩ ⟨"DanceCards$Papers", "read", "(II)I"⟩ ∈ gws := mem_s (q := (⟨"DanceCards$Papers", "read", "(II)I"⟩, 3)) (i := 55) (by decide +kernel) (by decide +kernel)
theorem ws_56 : Cond.selects "DanceCards" ⟨"DanceCards", "takeBack", "(III)V"⟩ ⟨"DanceCards", "takeBack", "(III)V"⟩ ∈ gws := mem_s (q := (⟨"DanceCards", "takeBack", "(III)V"⟩, 7)) (i := 56) (by decide +kernel) (by decide +kernel)
theorem ws_57 : Cond.selects "DanceCards$Wishes" ⟨"DanceCards$Wishes", "change", "(III)I"⟩ ⟨"DanceCards$Wishes", "change", "(III)I"⟩ ∈ gws := mem_s (q := (⟨"DanceCards$Wishes", "change", "(III)I"⟩, 3)) (i := 57) (by decide +kernel) (by decide +kernel)
theorem ws_58 : Cond.selects "DanceCards$Wishes" ⟨"DanceCards$Wishes", "mostOfOne", "()I"⟩ ⟨"DanceCards$Wishes", "mostOfOne", "()I"⟩ ∈ gws := mem_s (q := (⟨"DanceCards$Wishes", "mostOfOne", "()I"⟩, 3)) (i := 58) (by decide +kernel) (by decide +kernel)
theorem ws_59 : Cond.selects "DanceCards$Wishes" ⟨"DanceCards$Wishes", "ofOne", "(I)I"⟩ ⟨"DanceCards$Wishes", "ofOne", "(I)I"⟩ ∈ gws := mem_s (q := (⟨"DanceCards$Wishes", "ofOne", "(I)I"⟩, 3)) (i := 59) (by decide +kernel) (by decide +kernel)
theorem ws_60 : Cond.selects "DanceCards$Wishes" ⟨"DanceCards$Wishes", "partnerIn", "(II)I"⟩ ⟨"DanceCards$Wishes", "partnerIn", "(II)I"⟩ ∈ gws := mem_s (q := (⟨"DanceCards$Wishes", "partnerIn", "(II)I"⟩, 3)) (i := 60) (by decide +kernel) (by decide +kernel)
theorem ws_61 : Cond.selects "DanceCards$Wishes" ⟨"DanceCards$Wishes", "planAll", "()V"⟩ ⟨"DanceCards$Wishes", "planAll", "()V"⟩ ∈ gws := mem_s (q := (⟨"DanceCards$Wishes", "planAll", "()V"⟩, 3)) (i := 61) (by decide +kernel) (by decide +kernel)
theorem ws_62 : Cond.selects "DanceCards$Wishes" ⟨"DanceCards$Wishes", "planOne", "(II)V"⟩ ⟨"DanceCards$Wishes", "planOne", "(II)V"⟩ ∈ gws := mem_s (q := (⟨"DanceCards$Wishes", "planOne", "(II)V"⟩, 3)) (i := 62) (by decide +kernel) (by decide +kernel)
theorem ws_63 : Cond.selects "DanceCards$Wishes" ⟨"DanceCards$Wishes", "leastFree", "(I)I"⟩ ⟨"DanceCards$Wishes", "leastFree", "(I)I"⟩ ∈ gws := mem_s (q := (⟨"DanceCards$Wishes", "leastFree", "(I)I"⟩, 3)) (i := 63) (by decide +kernel) (by decide +kernel)
theorem ws_64 : Cond.selects "DanceCards$Wishes" ⟨"DanceCards$Wishes", "planned", "(II)I"⟩ ⟨"DanceCards$Wishes", "planned", "(II)I"⟩ ∈ gws := mem_s (q := (⟨"DanceCards$Wishes", "planned", "(II)I"⟩, 3)) (i := 64) (by decide +kernel) (by decide +kernel)
theorem ws_65 : Cond.selects "DanceCards$Wishes" ⟨"DanceCards$Wishes", "changeRow", "(III)V"⟩ ⟨"DanceCards$Wishes", "changeRow", "(III)V"⟩ ∈ gws := mem_s (q := (⟨"DanceCards$Wishes", "changeRow", "(III)V"⟩, 3)) (i := 65) (by decide +kernel) (by decide +kernel)
theorem ws_66 : Cond.selects "DanceCards$Wishes" ⟨"DanceCards$Wishes", "enter", "(III)V"⟩ ⟨"DanceCards$Wishes", "enter", "(III)V"⟩ ∈ gws := mem_s (q := (⟨"DanceCards$Wishes", "enter", "(III)V"⟩, 3)) (i := 66) (by decide +kernel) (by decide +kernel)
theorem ws_67 : Cond.selects "DanceCards" ⟨"DanceCards", "groupDance", "(I)I"⟩ ⟨"DanceCards", "groupDance", "(I)I"⟩ ∈ gws := mem_s (q := (⟨"DanceCards", "groupDance", "(I)I"⟩, 7)) (i := 67) (by decide +kernel) (by decide +kernel)
theorem ws_68 : Cond.selects "DanceCards$Grouping" ⟨"DanceCards$Grouping", "forget", "()V"⟩ ⟨"DanceCards$Grouping", "forget", "()V"⟩ ∈ gws := mem_s (q := (⟨"DanceCards$Grouping", "forget", "()V"⟩, 6)) (i := 68) (by decide +kernel) (by decide +kernel)
theorem ws_69 : Cond.selects "DanceCards$Guests" ⟨"DanceCards$Guests", "bitsOf", "(II)I"⟩ ⟨"DanceCards$Guests", "bitsOf", "(II)I"⟩ ∈ gws := mem_s (q := (⟨"DanceCards$Guests", "bitsOf", "(II)I"⟩, 6)) (i := 69) (by decide +kernel) (by decide +kernel)
theorem ws_70 : Cond.selects "DanceCards$Guests" ⟨"DanceCards$Guests", "foesOf", "(II)I"⟩ ⟨"DanceCards$Guests", "foesOf", "(II)I"⟩ ∈ gws := mem_s (q := (⟨"DanceCards$Guests", "foesOf", "(II)I"⟩, 6)) (i := 70) (by decide +kernel) (by decide +kernel)
theorem ws_71 : Cond.selects "DanceCards$Grouping" ⟨"DanceCards$Grouping", "addCouple", "(II)V"⟩ ⟨"DanceCards$Grouping", "addCouple", "(II)V"⟩ ∈ gws := mem_s (q := (⟨"DanceCards$Grouping", "addCouple", "(II)V"⟩, 6)) (i := 71) (by decide +kernel) (by decide +kernel)
theorem ws_72 : Cond.selects "DanceCards$Grouping" ⟨"DanceCards$Grouping", "group", "()I"⟩ ⟨"DanceCards$Grouping", "group", "()I"⟩ ∈ gws := mem_s (q := (⟨"DanceCards$Grouping", "group", "()I"⟩, 6)) (i := 72) (by decide +kernel) (by decide +kernel)
theorem ws_73 : Cond.selects "DanceCards$Grouping" ⟨"DanceCards$Grouping", "isOpenFor", "(II)Z"⟩ ⟨"DanceCards$Grouping", "isOpenFor", "(II)Z"⟩ ∈ gws := mem_s (q := (⟨"DanceCards$Grouping", "isOpenFor", "(II)Z"⟩, 6)) (i := 73) (by decide +kernel) (by decide +kernel)
theorem ws_74 : Cond.selects "DanceCards$Grouping" ⟨"DanceCards$Grouping", "groupOf", "(I)I"⟩ ⟨"DanceCards$Grouping", "groupOf", "(I)I"⟩ ∈ gws := mem_s (q := (⟨"DanceCards$Grouping", "groupOf", "(I)I"⟩, 6)) (i := 74) (by decide +kernel) (by decide +kernel)
theorem ws_75 : Cond.selects "DanceCards$Guests" ⟨"DanceCards$Guests", "ladies", "()I"⟩ ⟨"DanceCards$Guests", "ladies", "()I"⟩ ∈ gws := mem_s (q := (⟨"DanceCards$Guests", "ladies", "()I"⟩, 6)) (i := 75) (by decide +kernel) (by decide +kernel)
theorem ws_76 : Cond.selects "DanceCards$Cards" ⟨"DanceCards$Cards", "couples", "()I"⟩ ⟨"DanceCards$Cards", "couples", "()I"⟩ ∈ gws := mem_s (q := (⟨"DanceCards$Cards", "couples", "()I"⟩, 1)) (i := 76) (by decide +kernel) (by decide +kernel)
theorem ws_77 : Cond.selects "DanceCards$Guests" ⟨"DanceCards$Guests", "illOnes", "()I"⟩ ⟨"DanceCards$Guests", "illOnes", "()I"⟩ ∈ gws := mem_s (q := (⟨"DanceCards$Guests", "illOnes", "()I"⟩, 6)) (i := 77) (by decide +kernel) (by decide +kernel)
theorem ws_78 : Cond.selects "DanceCards$Guests" ⟨"DanceCards$Guests", "knownPairs", "()I"⟩ ⟨"DanceCards$Guests", "knownPairs", "()I"⟩ ∈ gws := mem_s (q := (⟨"DanceCards$Guests", "knownPairs", "()I"⟩, 6)) (i := 78) (by decide +kernel) (by decide +kernel)
theorem ws_79 : Cond.selects "DanceCardsModel" ⟨"DanceCardsModel", "areTwo", "(II)Z"⟩ ⟨"DanceCardsModel", "areTwo", "(II)Z"⟩ ∈ gws := mem_s (q := (⟨"DanceCardsModel", "areTwo", "(II)Z"⟩, 32)) (i := 79) (by decide +kernel) (by decide +kernel)
theorem ws_80 : Cond.selects "DanceCardsModel" ⟨"DanceCardsModel", "is", "(I)Z"⟩ ⟨"DanceCardsModel", "is", "(I)Z"⟩ ∈ gws := mem_s (q := (⟨"DanceCardsModel", "is", "(I)Z"⟩, 32)) (i := 80) (by decide +kernel) (by decide +kernel)
theorem ws_81 : Cond.selects "DanceCardsModel" ⟨"DanceCardsModel", "doKnow", "(II)Z"⟩ ⟨"DanceCardsModel", "doKnow", "(II)Z"⟩ ∈ gws := mem_s (q := (⟨"DanceCardsModel", "doKnow", "(II)Z"⟩, 32)) (i := 81) (by decide +kernel) (by decide +kernel)
theorem ws_82 : Cond.selects "DanceCardsModel" ⟨"DanceCardsModel", "next", "()V"⟩ ⟨"DanceCardsModel", "next", "()V"⟩ ∈ gws := mem_s (q := (⟨"DanceCardsModel", "next", "()V"⟩, 32)) (i := 82) (by decide +kernel) (by decide +kernel)
theorem ws_83 : Cond.selects "DanceCardsModel" ⟨"DanceCardsModel", "byteAt", "(I)I"⟩ ⟨"DanceCardsModel", "byteAt", "(I)I"⟩ ∈ gws := mem_s (q := (⟨"DanceCardsModel", "byteAt", "(I)I"⟩, 32)) (i := 83) (by decide +kernel) (by decide +kernel)
theorem ws_84 : Cond.selects "DanceCardsModel" ⟨"DanceCardsModel", "fails", "(I)V"⟩ ⟨"DanceCardsModel", "fails", "(I)V"⟩ ∈ gws := mem_s (q := (⟨"DanceCardsModel", "fails", "(I)V"⟩, 32)) (i := 84) (by decide +kernel) (by decide +kernel)
theorem ws_85 : Cond.selects "DanceCardsModel" ⟨"DanceCardsModel", "custom", "()V"⟩ ⟨"DanceCardsModel", "custom", "()V"⟩ ∈ gws := mem_s (q := (⟨"DanceCardsModel", "custom", "()V"⟩, 32)) (i := 85) (by decide +kernel) (by decide +kernel)
theorem ws_86 : Cond.selects "DanceCardsModel" ⟨"DanceCardsModel", "wants", "(I)V"⟩ ⟨"DanceCardsModel", "wants", "(I)V"⟩ ∈ gws := mem_s (q := (⟨"DanceCardsModel", "wants", "(I)V"⟩, 32)) (i := 86) (by decide +kernel) (by decide +kernel)
theorem ws_87 : Cond.selects "DanceCardsModel" ⟨"DanceCardsModel", "areCouple", "(III)Z"⟩ ⟨"DanceCardsModel", "areCouple", "(III)Z"⟩ ∈ gws := mem_s (q := (⟨"DanceCardsModel", "areCouple", "(III)Z"⟩, 32)) (i := 87) (by decide +kernel) (by decide +kernel)
theorem ws_88 : Cond.selects "DanceCardsModel" ⟨"DanceCardsModel", "whyNot", "(III)I"⟩ ⟨"DanceCardsModel", "whyNot", "(III)I"⟩ ∈ gws := mem_s (q := (⟨"DanceCardsModel", "whyNot", "(III)I"⟩, 32)) (i := 88) (by decide +kernel) (by decide +kernel)
theorem ws_89 : Cond.selects "DanceCardsModel" ⟨"DanceCardsModel", "together", "(II)I"⟩ ⟨"DanceCardsModel", "together", "(II)I"⟩ ∈ gws := mem_s (q := (⟨"DanceCardsModel", "together", "(II)I"⟩, 32)) (i := 89) (by decide +kernel) (by decide +kernel)
theorem ws_90 : Cond.selects "DanceCardsModel" ⟨"DanceCardsModel", "cardOf", "(II)I"⟩ ⟨"DanceCardsModel", "cardOf", "(II)I"⟩ ∈ gws := mem_s (q := (⟨"DanceCardsModel", "cardOf", "(II)I"⟩, 32)) (i := 90) (by decide +kernel) (by decide +kernel)
theorem ws_91 : Cond.selects "DanceCardsModel" ⟨"DanceCardsModel", "runWith", "(II)I"⟩ ⟨"DanceCardsModel", "runWith", "(II)I"⟩ ∈ gws := mem_s (q := (⟨"DanceCardsModel", "runWith", "(II)I"⟩, 32)) (i := 91) (by decide +kernel) (by decide +kernel)
theorem ws_92 : Cond.selects "DanceCardsModel" ⟨"DanceCardsModel", "hasPartner", "(II)Z"⟩ ⟨"DanceCardsModel", "hasPartner", "(II)Z"⟩ ∈ gws := mem_s (q := (⟨"DanceCardsModel", "hasPartner", "(II)Z"⟩, 32)) (i := 92) (by decide +kernel) (by decide +kernel)
theorem ws_93 : Cond.selects "DanceCardsModel" ⟨"DanceCardsModel", "couple", "(III)V"⟩ ⟨"DanceCardsModel", "couple", "(III)V"⟩ ∈ gws := mem_s (q := (⟨"DanceCardsModel", "couple", "(III)V"⟩, 32)) (i := 93) (by decide +kernel) (by decide +kernel)
theorem ws_94 : Cond.selects "DanceCardsModel" ⟨"DanceCardsModel", "write", "(III)V"⟩ ⟨"DanceCardsModel", "write", "(III)V"⟩ ∈ gws := mem_s (q := (⟨"DanceCardsModel", "write", "(III)V"⟩, 32)) (i := 94) (by decide +kernel) (by decide +kernel)
theorem ws_95 : Cond.selects "DanceCardsModel" ⟨"DanceCardsModel", "uncouple", "(III)V"⟩ ⟨"DanceCardsModel", "uncouple", "(III)V"⟩ ∈ gws := mem_s (q := (⟨"DanceCardsModel", "uncouple", "(III)V"⟩, 32)) (i := 95) (by decide +kernel) (by decide +kernel)
theorem ws_96 : Cond.selects "DanceCardsModel" ⟨"DanceCardsModel", "layDance", "(I)V"⟩ ⟨"DanceCardsModel", "layDance", "(I)V"⟩ ∈ gws := mem_s (q := (⟨"DanceCardsModel", "layDance", "(I)V"⟩, 32)) (i := 96) (by decide +kernel) (by decide +kernel)
theorem ws_97 : Cond.selects "DanceCardsModel" ⟨"DanceCardsModel", "mostFrom", "(I)I"⟩ ⟨"DanceCardsModel", "mostFrom", "(I)I"⟩ ∈ gws := mem_s (q := (⟨"DanceCardsModel", "mostFrom", "(I)I"⟩, 32)) (i := 97) (by decide +kernel) (by decide +kernel)
theorem ws_98 : Cond.selects "DanceCardsModel" ⟨"DanceCardsModel", "gets", "(I)Z"⟩ ⟨"DanceCardsModel", "gets", "(I)Z"⟩ ∈ gws := mem_s (q := (⟨"DanceCardsModel", "gets", "(I)Z"⟩, 32)) (i := 98) (by decide +kernel) (by decide +kernel)
theorem ws_99 : Cond.selects "DanceCardsModel" ⟨"DanceCardsModel", "change", "(II)V"⟩ ⟨"DanceCardsModel", "change", "(II)V"⟩ ∈ gws := mem_s (q := (⟨"DanceCardsModel", "change", "(II)V"⟩, 32)) (i := 99) (by decide +kernel) (by decide +kernel)
theorem ws_100 : Cond.selects "DanceCardsModel" ⟨"DanceCardsModel", "loosen", "()V"⟩ ⟨"DanceCardsModel", "loosen", "()V"⟩ ∈ gws := mem_s (q := (⟨"DanceCardsModel", "loosen", "()V"⟩, 32)) (i := 100) (by decide +kernel) (by decide +kernel)
theorem ws_101 : Cond.selects "DanceCardsModel" ⟨"DanceCardsModel", "fix", "(IIZ)V"⟩ ⟨"DanceCardsModel", "fix", "(IIZ)V"⟩ ∈ gws := mem_s (q := (⟨"DanceCardsModel", "fix", "(IIZ)V"⟩, 32)) (i := 101) (by decide +kernel) (by decide +kernel)
theorem ws_102 : Cond.selects "DanceCardsModel" ⟨"DanceCardsModel", "layAll", "()V"⟩ ⟨"DanceCardsModel", "layAll", "()V"⟩ ∈ gws := mem_s (q := (⟨"DanceCardsModel", "layAll", "()V"⟩, 32)) (i := 102) (by decide +kernel) (by decide +kernel)
theorem ws_103 : Cond.selects "DanceCardsModel" ⟨"DanceCardsModel", "lays", "(II)V"⟩ ⟨"DanceCardsModel", "lays", "(II)V"⟩ ∈ gws := mem_s (q := (⟨"DanceCardsModel", "lays", "(II)V"⟩, 32)) (i := 103) (by decide +kernel) (by decide +kernel)
theorem ws_104 : Cond.selects "DanceCardsModel" ⟨"DanceCardsModel", "freeOf", "(I)I"⟩ ⟨"DanceCardsModel", "freeOf", "(I)I"⟩ ∈ gws := mem_s (q := (⟨"DanceCardsModel", "freeOf", "(I)I"⟩, 32)) (i := 104) (by decide +kernel) (by decide +kernel)
theorem ws_105 : Cond.selects "DanceCardsModel" ⟨"DanceCardsModel", "laySets", "(I)V"⟩ ⟨"DanceCardsModel", "laySets", "(I)V"⟩ ∈ gws := mem_s (q := (⟨"DanceCardsModel", "laySets", "(I)V"⟩, 32)) (i := 105) (by decide +kernel) (by decide +kernel)
theorem ws_106 : Cond.selects "DanceCardsModel" ⟨"DanceCardsModel", "stand", "(II)Z"⟩ ⟨"DanceCardsModel", "stand", "(II)Z"⟩ ∈ gws := mem_s (q := (⟨"DanceCardsModel", "stand", "(II)Z"⟩, 32)) (i := 106) (by decide +kernel) (by decide +kernel)
theorem ws_107 : Cond.selects "DanceCardsModel" ⟨"DanceCardsModel", "mayStand", "(II)Z"⟩ ⟨"DanceCardsModel", "mayStand", "(II)Z"⟩ ∈ gws := mem_s (q := (⟨"DanceCardsModel", "mayStand", "(II)Z"⟩, 32)) (i := 107) (by decide +kernel) (by decide +kernel)
theorem ws_108 : Cond.selects "DanceCardsModel" ⟨"DanceCardsModel", "quarrel", "(III)Z"⟩ ⟨"DanceCardsModel", "quarrel", "(III)Z"⟩ ∈ gws := mem_s (q := (⟨"DanceCardsModel", "quarrel", "(III)Z"⟩, 32)) (i := 108) (by decide +kernel) (by decide +kernel)
theorem in_X0 : ∀ w ∈ u_ws RX0 TX0 1, w ∈ gws := List.forall_mem_cons.mpr ⟨wg_103, fun _ h => absurd h List.not_mem_nil⟩
theorem in_X1 : ∀ w ∈ u_ws RX1 TX1 6, w ∈ gws := List.forall_mem_cons.mpr ⟨wg_173, List.forall_mem_cons.mpr ⟨wg_175, List.forall_mem_cons.mpr ⟨wg_177, List.forall_mem_cons.mpr ⟨wg_179, List.forall_mem_cons.mpr ⟨wg_181, List.forall_mem_cons.mpr ⟨wg_183, fun _ h => absurd h List.not_mem_nil⟩⟩⟩⟩⟩⟩
theorem in_X2 : ∀ w ∈ u_ws RX2 TX2 6, w ∈ gws := List.forall_mem_cons.mpr ⟨wg_39, List.forall_mem_cons.mpr ⟨wg_41, List.forall_mem_cons.mpr ⟨wg_43, List.forall_mem_cons.mpr ⟨wg_45, List.forall_mem_cons.mpr ⟨wg_47, List.forall_mem_cons.mpr ⟨wg_49, fun _ h => absurd h List.not_mem_nil⟩⟩⟩⟩⟩⟩
theorem in_X3 : ∀ w ∈ u_ws RX3 TX3 4, w ∈ gws := List.forall_mem_cons.mpr ⟨wg_117, List.forall_mem_cons.mpr ⟨wg_119, List.forall_mem_cons.mpr ⟨wg_121, List.forall_mem_cons.mpr ⟨wg_123, fun _ h => absurd h List.not_mem_nil⟩⟩⟩⟩
theorem in_X4 : ∀ w ∈ u_ws RX4 TX4 3, w ∈ gws := List.forall_mem_cons.mpr ⟨wg_138, List.forall_mem_cons.mpr ⟨wg_140, List.forall_mem_cons.mpr ⟨wg_142, fun _ h => absurd h List.not_mem_nil⟩⟩⟩
theorem in_X5 : ∀ w ∈ u_ws RX5 TX5 9, w ∈ gws := List.forall_mem_cons.mpr ⟨wg_75, List.forall_mem_cons.mpr ⟨wg_77, List.forall_mem_cons.mpr ⟨wg_79, List.forall_mem_cons.mpr ⟨wg_81, List.forall_mem_cons.mpr ⟨wg_83, List.forall_mem_cons.mpr ⟨wg_85, List.forall_mem_cons.mpr ⟨wg_87, List.forall_mem_cons.mpr ⟨wg_89, List.forall_mem_cons.mpr ⟨wg_91, fun _ h => absurd h List.not_mem_nil⟩⟩⟩⟩⟩⟩⟩⟩⟩
theorem in_X6 : ∀ w ∈ u_ws RX6 TX6 3, w ∈ gws := List.forall_mem_cons.mpr ⟨wg_154, List.forall_mem_cons.mpr ⟨wg_156, List.forall_mem_cons.mpr ⟨wg_158, fun _ h => absurd h List.not_mem_nil⟩⟩⟩
theorem in_X7 : ∀ w ∈ u_ws RX7 TX7 7, w ∈ gws := List.forall_mem_cons.mpr ⟨wg_193, List.forall_mem_cons.mpr ⟨wg_195, List.forall_mem_cons.mpr ⟨wg_197, List.forall_mem_cons.mpr ⟨wg_199, List.forall_mem_cons.mpr ⟨wg_201, List.forall_mem_cons.mpr ⟨wg_203, List.forall_mem_cons.mpr ⟨wg_205, fun _ h => absurd h List.not_mem_nil⟩⟩⟩⟩⟩⟩⟩
theorem in_X8 : ∀ w ∈ u_ws RX8 TX8 32, w ∈ gws := List.forall_mem_cons.mpr ⟨wg_795, List.forall_mem_cons.mpr ⟨wg_797, List.forall_mem_cons.mpr ⟨wg_799, List.forall_mem_cons.mpr ⟨wg_801, List.forall_mem_cons.mpr ⟨wg_803, List.forall_mem_cons.mpr ⟨wg_805, List.forall_mem_cons.mpr ⟨wg_807, List.forall_mem_cons.mpr ⟨wg_809, List.forall_mem_cons.mpr ⟨wg_811, List.forall_mem_cons.mpr ⟨wg_813, List.forall_mem_cons.mpr ⟨wg_815, List.forall_mem_cons.mpr ⟨wg_817, List.forall_mem_cons.mpr ⟨wg_819, List.forall_mem_cons.mpr ⟨wg_821, List.forall_mem_cons.mpr ⟨wg_823, List.forall_mem_cons.mpr ⟨wg_825, List.forall_mem_cons.mpr ⟨wg_827, List.forall_mem_cons.mpr ⟨wg_829, List.forall_mem_cons.mpr ⟨wg_831, List.forall_mem_cons.mpr ⟨wg_833, List.forall_mem_cons.mpr ⟨wg_835, List.forall_mem_cons.mpr ⟨wg_837, List.forall_mem_cons.mpr ⟨wg_839, List.forall_mem_cons.mpr ⟨wg_841, List.forall_mem_cons.mpr ⟨wg_843, List.forall_mem_cons.mpr ⟨wg_845, List.forall_mem_cons.mpr ⟨wg_847, List.forall_mem_cons.mpr ⟨wg_849, List.forall_mem_cons.mpr ⟨wg_851, List.forall_mem_cons.mpr ⟨wg_853, List.forall_mem_cons.mpr ⟨wg_855, List.forall_mem_cons.mpr ⟨wg_857, fun _ h => absurd h List.not_mem_nil⟩⟩⟩⟩⟩⟩⟩⟩⟩⟩⟩⟩⟩⟩⟩⟩⟩⟩⟩⟩⟩⟩⟩⟩⟩⟩⟩⟩⟩⟩⟩⟩
theorem fl_X0_9 : FL "DanceCards$Cards" 9 0 RX0 TX0 1 0 := ⟨in_X0, rfl, by decide, wg_102⟩
theorem fl_X1_11 : FL "DanceCards$Grouping" 11 1 RX1 TX1 6 1 := ⟨in_X1, rfl, by decide, wg_168⟩
theorem fl_X1_15 : FL "DanceCards$Grouping" 15 1 RX1 TX1 6 2 := ⟨in_X1, rfl, by decide, wg_169⟩
theorem fl_X1_18 : FL "DanceCards$Grouping" 18 1 RX1 TX1 6 3 := ⟨in_X1, rfl, by decide, wg_170⟩
theorem fl_X1_21 : FL "DanceCards$Grouping" 21 1 RX1 TX1 6 4 := ⟨in_X1, rfl, by decide, wg_171⟩
theorem fl_X1_24 : FL "DanceCards$Grouping" 24 1 RX1 TX1 6 5 := ⟨in_X1, rfl, by decide, wg_172⟩
theorem fl_X1_27 : FL "DanceCards$Grouping" 27 1 RX1 TX1 6 0 := ⟨in_X1, rfl, by decide, wg_167⟩
theorem fl_X2_15 : FL "DanceCards$Guests" 15 2 RX2 TX2 6 2 := ⟨in_X2, rfl, by decide, wg_35⟩
theorem fl_X2_18 : FL "DanceCards$Guests" 18 2 RX2 TX2 6 3 := ⟨in_X2, rfl, by decide, wg_36⟩
theorem fl_X2_22 : FL "DanceCards$Guests" 22 2 RX2 TX2 6 4 := ⟨in_X2, rfl, by decide, wg_37⟩
theorem fl_X2_25 : FL "DanceCards$Guests" 25 2 RX2 TX2 6 5 := ⟨in_X2, rfl, by decide, wg_38⟩
theorem fl_X2_28 : FL "DanceCards$Guests" 28 2 RX2 TX2 6 0 := ⟨in_X2, rfl, by decide, wg_32⟩
theorem fl_X2_9 : FL "DanceCards$Guests" 9 2 RX2 TX2 6 1 := ⟨in_X2, rfl, by decide, wg_34⟩
theorem fl_X3_15 : FL "DanceCards$Pairing" 15 3 RX3 TX3 4 1 := ⟨in_X3, rfl, by decide, wg_113⟩
theorem fl_X3_18 : FL "DanceCards$Pairing" 18 3 RX3 TX3 4 2 := ⟨in_X3, rfl, by decide, wg_115⟩
theorem fl_X3_32 : FL "DanceCards$Pairing" 32 3 RX3 TX3 4 3 := ⟨in_X3, rfl, by decide, wg_116⟩
theorem fl_X3_9 : FL "DanceCards$Pairing" 9 3 RX3 TX3 4 0 := ⟨in_X3, rfl, by decide, wg_112⟩
theorem fl_X4_15 : FL "DanceCards$Papers" 15 4 RX4 TX4 3 1 := ⟨in_X4, rfl, by decide, wg_135⟩
theorem fl_X4_18 : FL "DanceCards$Papers" 18 4 RX4 TX4 3 2 := ⟨in_X4, rfl, by decide, wg_137⟩
theorem fl_X4_9 : FL "DanceCards$Papers" 9 4 RX4 TX4 3 0 := ⟨in_X4, rfl, by decide, wg_133⟩
theorem fl_X5_11 : FL "DanceCards$Tape" 11 5 RX5 TX5 9 0 := ⟨in_X5, rfl, by decide, wg_63⟩
theorem fl_X5_15 : FL "DanceCards$Tape" 15 5 RX5 TX5 9 3 := ⟨in_X5, rfl, by decide, wg_68⟩
theorem fl_X5_19 : FL "DanceCards$Tape" 19 5 RX5 TX5 9 4 := ⟨in_X5, rfl, by decide, wg_70⟩
theorem fl_X5_36 : FL "DanceCards$Tape" 36 5 RX5 TX5 9 1 := ⟨in_X5, rfl, by decide, wg_64⟩
theorem fl_X5_44 : FL "DanceCards$Tape" 44 5 RX5 TX5 9 5 := ⟨in_X5, rfl, by decide, wg_71⟩
theorem fl_X5_51 : FL "DanceCards$Tape" 51 5 RX5 TX5 9 2 := ⟨in_X5, rfl, by decide, wg_66⟩
theorem fl_X5_54 : FL "DanceCards$Tape" 54 5 RX5 TX5 9 7 := ⟨in_X5, rfl, by decide, wg_73⟩
theorem fl_X5_69 : FL "DanceCards$Tape" 69 5 RX5 TX5 9 6 := ⟨in_X5, rfl, by decide, wg_72⟩
theorem fl_X5_79 : FL "DanceCards$Tape" 79 5 RX5 TX5 9 8 := ⟨in_X5, rfl, by decide, wg_74⟩
theorem fl_X6_15 : FL "DanceCards$Wishes" 15 6 RX6 TX6 3 1 := ⟨in_X6, rfl, by decide, wg_152⟩
theorem fl_X6_18 : FL "DanceCards$Wishes" 18 6 RX6 TX6 3 2 := ⟨in_X6, rfl, by decide, wg_153⟩
theorem fl_X6_9 : FL "DanceCards$Wishes" 9 6 RX6 TX6 3 0 := ⟨in_X6, rfl, by decide, wg_151⟩
theorem fl_X7_10 : FL "DanceCards" 10 7 RX7 TX7 7 0 := ⟨in_X7, rfl, by decide, wg_186⟩
theorem fl_X7_108 : FLN "DanceCards" 108 5 RX5 TX5 9 2 "DanceCards" := ⟨in_X5, rfl, by decide, wn_67⟩
theorem fl_X7_111 : FLN "DanceCards" 111 5 RX5 TX5 9 3 "DanceCards" := ⟨in_X5, rfl, by decide, wn_69⟩
theorem fl_X7_165 : FLN "DanceCards" 165 3 RX3 TX3 4 1 "DanceCards" := ⟨in_X3, rfl, by decide, wn_114⟩
theorem fl_X7_19 : FL "DanceCards" 19 7 RX7 TX7 7 1 := ⟨in_X7, rfl, by decide, wg_187⟩
theorem fl_X7_198 : FLN "DanceCards" 198 4 RX4 TX4 3 0 "DanceCards" := ⟨in_X4, rfl, by decide, wn_134⟩
theorem fl_X7_240 : FLN "DanceCards" 240 4 RX4 TX4 3 1 "DanceCards" := ⟨in_X4, rfl, by decide, wn_136⟩
theorem fl_X7_243 : FLN "DanceCards" 243 5 RX5 TX5 9 1 "DanceCards" := ⟨in_X5, rfl, by decide, wn_65⟩
theorem fl_X7_26 : FL "DanceCards" 26 7 RX7 TX7 7 2 := ⟨in_X7, rfl, by decide, wg_188⟩
theorem fl_X7_33 : FL "DanceCards" 33 7 RX7 TX7 7 3 := ⟨in_X7, rfl, by decide, wg_189⟩
theorem fl_X7_40 : FL "DanceCards" 40 7 RX7 TX7 7 4 := ⟨in_X7, rfl, by decide, wg_190⟩
theorem fl_X7_47 : FL "DanceCards" 47 7 RX7 TX7 7 5 := ⟨in_X7, rfl, by decide, wg_191⟩
theorem fl_X7_54 : FL "DanceCards" 54 7 RX7 TX7 7 6 := ⟨in_X7, rfl, by decide, wg_192⟩
theorem fl_X7_62 : FLN "DanceCards" 62 2 RX2 TX2 6 0 "DanceCards" := ⟨in_X2, rfl, by decide, wn_33⟩
theorem fl_X8_101 : FL "DanceCardsModel" 101 8 RX8 TX8 32 14 := ⟨in_X8, rfl, by decide, wg_777⟩
theorem fl_X8_104 : FL "DanceCardsModel" 104 8 RX8 TX8 32 18 := ⟨in_X8, rfl, by decide, wg_781⟩
theorem fl_X8_115 : FL "DanceCardsModel" 115 8 RX8 TX8 32 13 := ⟨in_X8, rfl, by decide, wg_776⟩
theorem fl_X8_122 : FL "DanceCardsModel" 122 8 RX8 TX8 32 15 := ⟨in_X8, rfl, by decide, wg_778⟩
theorem fl_X8_13 : FL "DanceCardsModel" 13 8 RX8 TX8 32 2 := ⟨in_X8, rfl, by decide, wg_765⟩
theorem fl_X8_133 : FL "DanceCardsModel" 133 8 RX8 TX8 32 16 := ⟨in_X8, rfl, by decide, wg_779⟩
theorem fl_X8_153 : FL "DanceCardsModel" 153 8 RX8 TX8 32 10 := ⟨in_X8, rfl, by decide, wg_773⟩
theorem fl_X8_17 : FL "DanceCardsModel" 17 8 RX8 TX8 32 3 := ⟨in_X8, rfl, by decide, wg_766⟩
theorem fl_X8_20 : FL "DanceCardsModel" 20 8 RX8 TX8 32 4 := ⟨in_X8, rfl, by decide, wg_767⟩
theorem fl_X8_23 : FL "DanceCardsModel" 23 8 RX8 TX8 32 5 := ⟨in_X8, rfl, by decide, wg_768⟩
theorem fl_X8_234 : FL "DanceCardsModel" 234 8 RX8 TX8 32 28 := ⟨in_X8, rfl, by decide, wg_791⟩
theorem fl_X8_240 : FL "DanceCardsModel" 240 8 RX8 TX8 32 31 := ⟨in_X8, rfl, by decide, wg_794⟩
theorem fl_X8_26 : FL "DanceCardsModel" 26 8 RX8 TX8 32 6 := ⟨in_X8, rfl, by decide, wg_769⟩
theorem fl_X8_29 : FL "DanceCardsModel" 29 8 RX8 TX8 32 7 := ⟨in_X8, rfl, by decide, wg_770⟩
theorem fl_X8_32 : FL "DanceCardsModel" 32 8 RX8 TX8 32 8 := ⟨in_X8, rfl, by decide, wg_771⟩
theorem fl_X8_35 : FL "DanceCardsModel" 35 8 RX8 TX8 32 11 := ⟨in_X8, rfl, by decide, wg_774⟩
theorem fl_X8_38 : FL "DanceCardsModel" 38 8 RX8 TX8 32 12 := ⟨in_X8, rfl, by decide, wg_775⟩
theorem fl_X8_41 : FL "DanceCardsModel" 41 8 RX8 TX8 32 19 := ⟨in_X8, rfl, by decide, wg_782⟩
theorem fl_X8_44 : FL "DanceCardsModel" 44 8 RX8 TX8 32 20 := ⟨in_X8, rfl, by decide, wg_783⟩
theorem fl_X8_47 : FL "DanceCardsModel" 47 8 RX8 TX8 32 21 := ⟨in_X8, rfl, by decide, wg_784⟩
theorem fl_X8_50 : FL "DanceCardsModel" 50 8 RX8 TX8 32 22 := ⟨in_X8, rfl, by decide, wg_785⟩
theorem fl_X8_53 : FL "DanceCardsModel" 53 8 RX8 TX8 32 23 := ⟨in_X8, rfl, by decide, wg_786⟩
theorem fl_X8_56 : FL "DanceCardsModel" 56 8 RX8 TX8 32 24 := ⟨in_X8, rfl, by decide, wg_787⟩
theorem fl_X8_59 : FL "DanceCardsModel" 59 8 RX8 TX8 32 25 := ⟨in_X8, rfl, by decide, wg_788⟩
theorem fl_X8_62 : FL "DanceCardsModel" 62 8 RX8 TX8 32 26 := ⟨in_X8, rfl, by decide, wg_789⟩
theorem fl_X8_65 : FL "DanceCardsModel" 65 8 RX8 TX8 32 27 := ⟨in_X8, rfl, by decide, wg_790⟩
theorem fl_X8_68 : FL "DanceCardsModel" 68 8 RX8 TX8 32 29 := ⟨in_X8, rfl, by decide, wg_792⟩
theorem fl_X8_7 : FL "DanceCardsModel" 7 8 RX8 TX8 32 1 := ⟨in_X8, rfl, by decide, wg_764⟩
theorem fl_X8_71 : FL "DanceCardsModel" 71 8 RX8 TX8 32 30 := ⟨in_X8, rfl, by decide, wg_793⟩
theorem fl_X8_80 : FL "DanceCardsModel" 80 8 RX8 TX8 32 0 := ⟨in_X8, rfl, by decide, wg_763⟩
theorem fl_X8_95 : FL "DanceCardsModel" 95 8 RX8 TX8 32 9 := ⟨in_X8, rfl, by decide, wg_772⟩
theorem fl_X8_98 : FL "DanceCardsModel" 98 8 RX8 TX8 32 17 := ⟨in_X8, rfl, by decide, wg_780⟩
theorem pl_X1_0 : PLt TX1 6 tyX1 0 .int := ⟨tyX1_ok, nmX1, rfl, by decide +kernel⟩
theorem pl_X2_0 : PLt TX2 6 tyX2 0 .int := ⟨tyX2_ok, nmX2, rfl, by decide +kernel⟩
theorem pl_X3_3 : PLt TX3 4 tyX3 3 .int := ⟨tyX3_ok, nmX3, rfl, by decide +kernel⟩
theorem pl_X5_1 : PLt TX5 9 tyX5 1 .int := ⟨tyX5_ok, nmX5, rfl, by decide +kernel⟩
theorem pl_X5_2 : PLt TX5 9 tyX5 2 .int := ⟨tyX5_ok, nmX5, rfl, by decide +kernel⟩
theorem pl_X5_5 : PLt TX5 9 tyX5 5 .int := ⟨tyX5_ok, nmX5, rfl, by decide +kernel⟩
theorem pl_X5_6 : PLt TX5 9 tyX5 6 .int := ⟨tyX5_ok, nmX5, rfl, by decide +kernel⟩
theorem pl_X5_7 : PLt TX5 9 tyX5 7 .int := ⟨tyX5_ok, nmX5, rfl, by decide +kernel⟩
theorem pl_X5_8 : PLt TX5 9 tyX5 8 .int := ⟨tyX5_ok, nmX5, rfl, by decide +kernel⟩
theorem pl_X6_2 : PLt TX6 3 tyX6 2 .boolean := ⟨tyX6_ok, nmX6, rfl, by decide +kernel⟩
theorem pl_X8_0 : PLt TX8 32 tyX8 0 .int := ⟨tyX8_ok, nmX8, rfl, by decide +kernel⟩
theorem pl_X8_9 : PLt TX8 32 tyX8 9 .int := ⟨tyX8_ok, nmX8, rfl, by decide +kernel⟩
theorem pl_X8_10 : PLt TX8 32 tyX8 10 .int := ⟨tyX8_ok, nmX8, rfl, by decide +kernel⟩
theorem pl_X8_13 : PLt TX8 32 tyX8 13 .int := ⟨tyX8_ok, nmX8, rfl, by decide +kernel⟩
theorem pl_X8_14 : PLt TX8 32 tyX8 14 .int := ⟨tyX8_ok, nmX8, rfl, by decide +kernel⟩
theorem pl_X8_15 : PLt TX8 32 tyX8 15 .int := ⟨tyX8_ok, nmX8, rfl, by decide +kernel⟩
theorem pl_X8_16 : PLt TX8 32 tyX8 16 .int := ⟨tyX8_ok, nmX8, rfl, by decide +kernel⟩
theorem pl_X8_17 : PLt TX8 32 tyX8 17 .int := ⟨tyX8_ok, nmX8, rfl, by decide +kernel⟩
theorem pl_X8_18 : PLt TX8 32 tyX8 18 .int := ⟨tyX8_ok, nmX8, rfl, by decide +kernel⟩
theorem pl_X8_28 : PLt TX8 32 tyX8 28 .int := ⟨tyX8_ok, nmX8, rfl, by decide +kernel⟩
theorem pl_X8_31 : PLt TX8 32 tyX8 31 .int := ⟨tyX8_ok, nmX8, rfl, by decide +kernel⟩
theorem yf_J0_charAt_5068e : YF yJ0_charAt_5068e cJ0_charAt_5068e 2 (some .char) 1 := ⟨wg_323, wg_11, ⟨by decide +kernel, by decide +kernel, by decide +kernel⟩, by decide, by decide +kernel⟩
theorem yf_J0_checkIndex_df160 : YF yJ0_checkIndex_df160 cJ0_checkIndex_df160 2 none 2 := ⟨wg_333, wg_11, ⟨by decide +kernel, by decide +kernel, by decide +kernel⟩, by decide, by decide +kernel⟩
theorem yf_J0_coder_7d493 : YF yJ0_coder_7d493 cJ0_coder_7d493 1 (some .byte) 0 := ⟨wg_317, wg_11, ⟨by decide +kernel, by decide +kernel, by decide +kernel⟩, by decide, by decide +kernel⟩
theorem yf_J0_isLatin1_aae02 : YF yJ0_isLatin1_aae02 cJ0_isLatin1_aae02 1 (some .boolean) 0 := ⟨wg_327, wg_11, ⟨by decide +kernel, by decide +kernel, by decide +kernel⟩, by decide, by decide +kernel⟩
theorem yf_J0_length_8abf5 : YF yJ0_length_8abf5 cJ0_length_8abf5 1 (some .int) 0 := ⟨wg_313, wg_11, ⟨by decide +kernel, by decide +kernel, by decide +kernel⟩, by decide, by decide +kernel⟩
theorem yf_J1_charAt_3b067 : YF yJ1_charAt_3b067 cJ1_charAt_3b067 2 (some .char) 2 := ⟨wg_330, wg_12, ⟨by decide +kernel, by decide +kernel, by decide +kernel⟩, by decide, by decide +kernel⟩
theorem yf_J3_checkIndex_8e157 : YF yJ3_checkIndex_8e157 cJ3_checkIndex_8e157 3 (some .int) 3 := ⟨wg_338, wg_13, ⟨by decide +kernel, by decide +kernel, by decide +kernel⟩, by decide, by decide +kernel⟩
theorem yf_J6_bitCount_0f7a4 : YF yJ6_bitCount_0f7a4 cJ6_bitCount_0f7a4 1 (some .int) 1 := ⟨wg_573, wg_17, ⟨by decide +kernel, by decide +kernel, by decide +kernel⟩, by decide, by decide +kernel⟩
theorem yf_J7_fill_53178 : YF yJ7_fill_53178 cJ7_fill_53178 4 none 2 := ⟨wg_62, wg_4, ⟨by decide +kernel, by decide +kernel, by decide +kernel⟩, by decide, by decide +kernel⟩
theorem yf_X0_couples : YF yX0_couples cX0_couples 3 (some .int) 0 := ⟨wg_745, wg_5, ⟨by decide +kernel, by decide +kernel, by decide +kernel⟩, by decide, by decide +kernel⟩
theorem yf_X0_enter : YF yX0_enter cX0_enter 4 none 3 := ⟨wg_469, wg_5, ⟨by decide +kernel, by decide +kernel, by decide +kernel⟩, by decide, by decide +kernel⟩
theorem yf_X0_entry : YF yX0_entry cX0_entry 3 (some .int) 2 := ⟨wg_441, wg_5, ⟨by decide +kernel, by decide +kernel, by decide +kernel⟩, by decide, by decide +kernel⟩
theorem yf_X0_isPaired : YF yX0_isPaired cX0_isPaired 3 (some .boolean) 2 := ⟨wg_458, wg_5, ⟨by decide +kernel, by decide +kernel, by decide +kernel⟩, by decide, by decide +kernel⟩
theorem yf_X0_isTaken : YF yX0_isTaken cX0_isTaken 3 (some .boolean) 2 := ⟨wg_437, wg_5, ⟨by decide +kernel, by decide +kernel, by decide +kernel⟩, by decide, by decide +kernel⟩
theorem yf_X0_join : YF yX0_join cX0_join 4 none 3 := ⟨wg_465, wg_5, ⟨by decide +kernel, by decide +kernel, by decide +kernel⟩, by decide, by decide +kernel⟩
theorem yf_X0_longestRow : YF yX0_longestRow cX0_longestRow 5 (some .int) 1 := ⟨wg_580, wg_5, ⟨by decide +kernel, by decide +kernel, by decide +kernel⟩, by decide, by decide +kernel⟩
theorem yf_X0_others : YF yX0_others cX0_others 4 (some .int) 1 := ⟨wg_570, wg_5, ⟨by decide +kernel, by decide +kernel, by decide +kernel⟩, by decide, by decide +kernel⟩
theorem yf_X0_pairedDances : YF yX0_pairedDances cX0_pairedDances 4 (some .int) 1 := ⟨wg_566, wg_5, ⟨by decide +kernel, by decide +kernel, by decide +kernel⟩, by decide, by decide +kernel⟩
theorem yf_X0_rowThrough : YF yX0_rowThrough cX0_rowThrough 5 (some .int) 2 := ⟨wg_454, wg_5, ⟨by decide +kernel, by decide +kernel, by decide +kernel⟩, by decide, by decide +kernel⟩
theorem yf_X0_separate : YF yX0_separate cX0_separate 4 none 3 := ⟨wg_490, wg_5, ⟨by decide +kernel, by decide +kernel, by decide +kernel⟩, by decide, by decide +kernel⟩
theorem yf_X0_separateAll : YF yX0_separateAll cX0_separateAll 4 (some .int) 1 := ⟨wg_511, wg_5, ⟨by decide +kernel, by decide +kernel, by decide +kernel⟩, by decide, by decide +kernel⟩
theorem yf_X0_sitOut : YF yX0_sitOut cX0_sitOut 3 none 2 := ⟨wg_481, wg_5, ⟨by decide +kernel, by decide +kernel, by decide +kernel⟩, by decide, by decide +kernel⟩
theorem yf_X0_sittings : YF yX0_sittings cX0_sittings 4 (some .int) 1 := ⟨wg_585, wg_5, ⟨by decide +kernel, by decide +kernel, by decide +kernel⟩, by decide, by decide +kernel⟩
theorem yf_X0_together : YF yX0_together cX0_together 5 (some .int) 2 := ⟨wg_449, wg_5, ⟨by decide +kernel, by decide +kernel, by decide +kernel⟩, by decide, by decide +kernel⟩
theorem yf_X1_addCouple : YF yX1_addCouple cX1_addCouple 3 none 2 := ⟨wg_712, wg_9, ⟨by decide +kernel, by decide +kernel, by decide +kernel⟩, by decide, by decide +kernel⟩
theorem yf_X1_canPlace : YF yX1_canPlace cX1_canPlace 4 (some .boolean) 3 := ⟨wg_720, wg_9, ⟨by decide +kernel, by decide +kernel, by decide +kernel⟩, by decide, by decide +kernel⟩
theorem yf_X1_forget : YF yX1_forget cX1_forget 1 none 0 := ⟨wg_700, wg_9, ⟨by decide +kernel, by decide +kernel, by decide +kernel⟩, by decide, by decide +kernel⟩
theorem yf_X1_group : YF yX1_group cX1_group 2 (some .int) 0 := ⟨wg_716, wg_9, ⟨by decide +kernel, by decide +kernel, by decide +kernel⟩, by decide, by decide +kernel⟩
theorem yf_X1_groupOf : YF yX1_groupOf cX1_groupOf 3 (some .int) 1 := ⟨wg_732, wg_9, ⟨by decide +kernel, by decide +kernel, by decide +kernel⟩, by decide, by decide +kernel⟩
theorem yf_X1_isOpenFor : YF yX1_isOpenFor cX1_isOpenFor 3 (some .boolean) 2 := ⟨wg_724, wg_9, ⟨by decide +kernel, by decide +kernel, by decide +kernel⟩, by decide, by decide +kernel⟩
theorem yf_X2_areAtFeud : YF yX2_areAtFeud cX2_areAtFeud 3 (some .boolean) 2 := ⟨wg_246, wg_2, ⟨by decide +kernel, by decide +kernel, by decide +kernel⟩, by decide, by decide +kernel⟩
theorem yf_X2_areKnown : YF yX2_areKnown cX2_areKnown 3 (some .boolean) 2 := ⟨wg_234, wg_2, ⟨by decide +kernel, by decide +kernel, by decide +kernel⟩, by decide, by decide +kernel⟩
theorem yf_X2_bitsOf : YF yX2_bitsOf cX2_bitsOf 3 (some .int) 2 := ⟨wg_704, wg_2, ⟨by decide +kernel, by decide +kernel, by decide +kernel⟩, by decide, by decide +kernel⟩
theorem yf_X2_foesOf : YF yX2_foesOf cX2_foesOf 3 (some .int) 2 := ⟨wg_708, wg_2, ⟨by decide +kernel, by decide +kernel, by decide +kernel⟩, by decide, by decide +kernel⟩
theorem yf_X2_illOnes : YF yX2_illOnes cX2_illOnes 3 (some .int) 0 := ⟨wg_751, wg_2, ⟨by decide +kernel, by decide +kernel, by decide +kernel⟩, by decide, by decide +kernel⟩
theorem yf_X2_isGentleman : YF yX2_isGentleman cX2_isGentleman 2 (some .boolean) 1 := ⟨wg_409, wg_2, ⟨by decide +kernel, by decide +kernel, by decide +kernel⟩, by decide, by decide +kernel⟩
theorem yf_X2_isIll : YF yX2_isIll cX2_isIll 2 (some .boolean) 1 := ⟨wg_425, wg_2, ⟨by decide +kernel, by decide +kernel, by decide +kernel⟩, by decide, by decide +kernel⟩
theorem yf_X2_isLady : YF yX2_isLady cX2_isLady 2 (some .boolean) 1 := ⟨wg_414, wg_2, ⟨by decide +kernel, by decide +kernel, by decide +kernel⟩, by decide, by decide +kernel⟩
theorem yf_X2_isThere : YF yX2_isThere cX2_isThere 2 (some .boolean) 1 := ⟨wg_230, wg_2, ⟨by decide +kernel, by decide +kernel, by decide +kernel⟩, by decide, by decide +kernel⟩
theorem yf_X2_knownPairs : YF yX2_knownPairs cX2_knownPairs 3 (some .int) 0 := ⟨wg_755, wg_2, ⟨by decide +kernel, by decide +kernel, by decide +kernel⟩, by decide, by decide +kernel⟩
theorem yf_X2_ladies : YF yX2_ladies cX2_ladies 3 (some .int) 0 := ⟨wg_740, wg_2, ⟨by decide +kernel, by decide +kernel, by decide +kernel⟩, by decide, by decide +kernel⟩
theorem yf_X2_makeIll : YF yX2_makeIll cX2_makeIll 3 none 2 := ⟨wg_507, wg_2, ⟨by decide +kernel, by decide +kernel, by decide +kernel⟩, by decide, by decide +kernel⟩
theorem yf_X2_makeKnown : YF yX2_makeKnown cX2_makeKnown 3 none 2 := ⟨wg_238, wg_2, ⟨by decide +kernel, by decide +kernel, by decide +kernel⟩, by decide, by decide +kernel⟩
theorem yf_X2_putAtFeud : YF yX2_putAtFeud cX2_putAtFeud 4 none 3 := ⟨wg_253, wg_2, ⟨by decide +kernel, by decide +kernel, by decide +kernel⟩, by decide, by decide +kernel⟩
theorem yf_X2_rankGap : YF yX2_rankGap cX2_rankGap 3 (some .int) 2 := ⟨wg_430, wg_2, ⟨by decide +kernel, by decide +kernel, by decide +kernel⟩, by decide, by decide +kernel⟩
theorem yf_X2_welcome : YF yX2_welcome cX2_welcome 3 (some .int) 2 := ⟨wg_218, wg_2, ⟨by decide +kernel, by decide +kernel, by decide +kernel⟩, by decide, by decide +kernel⟩
theorem yf_X3_allow : YF yX3_allow cX3_allow 3 none 2 := ⟨wg_533, wg_6, ⟨by decide +kernel, by decide +kernel, by decide +kernel⟩, by decide, by decide +kernel⟩
theorem yf_X3_canHold : YF yX3_canHold cX3_canHold 5 (some .boolean) 3 := ⟨wg_545, wg_6, ⟨by decide +kernel, by decide +kernel, by decide +kernel⟩, by decide, by decide +kernel⟩
theorem yf_X3_chooseAll : YF yX3_chooseAll cX3_chooseAll 4 none 0 := ⟨wg_553, wg_6, ⟨by decide +kernel, by decide +kernel, by decide +kernel⟩, by decide, by decide +kernel⟩
theorem yf_X3_forget : YF yX3_forget cX3_forget 1 none 0 := ⟨wg_528, wg_6, ⟨by decide +kernel, by decide +kernel, by decide +kernel⟩, by decide, by decide +kernel⟩
theorem yf_X3_leastFor : YF yX3_leastFor cX3_leastFor 6 (some .int) 3 := ⟨wg_558, wg_6, ⟨by decide +kernel, by decide +kernel, by decide +kernel⟩, by decide, by decide +kernel⟩
theorem yf_X3_mostBehind : YF yX3_mostBehind cX3_mostBehind 5 (some .int) 2 := ⟨wg_542, wg_6, ⟨by decide +kernel, by decide +kernel, by decide +kernel⟩, by decide, by decide +kernel⟩
theorem yf_X3_mostOfAll : YF yX3_mostOfAll cX3_mostOfAll 1 (some .int) 0 := ⟨wg_537, wg_6, ⟨by decide +kernel, by decide +kernel, by decide +kernel⟩, by decide, by decide +kernel⟩
theorem yf_X4_hasCells : YF yX4_hasCells cX4_hasCells 4 (some .boolean) 3 := ⟨wg_611, wg_7, ⟨by decide +kernel, by decide +kernel, by decide +kernel⟩, by decide, by decide +kernel⟩
theorem yf_X4_isSomething : YF yX4_isSomething cX4_isSomething 2 (some .boolean) 1 := ⟨wg_607, wg_7, ⟨by decide +kernel, by decide +kernel, by decide +kernel⟩, by decide, by decide +kernel⟩
theorem yf_X4_lowestBits : YF yX4_lowestBits cX4_lowestBits 2 (some .int) 2 := ⟨wg_618, wg_7, ⟨by decide +kernel, by decide +kernel, by decide +kernel⟩, by decide, by decide +kernel⟩
theorem yf_X4_read : YF yX4_read cX4_read 3 (some .int) 2 := ⟨wg_630, wg_7, ⟨by decide +kernel, by decide +kernel, by decide +kernel⟩, by decide, by decide +kernel⟩
theorem yf_X4_renew : YF yX4_renew cX4_renew 5 none 3 := ⟨wg_599, wg_7, ⟨by decide +kernel, by decide +kernel, by decide +kernel⟩, by decide, by decide +kernel⟩
theorem yf_X4_write : YF yX4_write cX4_write 4 none 3 := ⟨wg_615, wg_7, ⟨by decide +kernel, by decide +kernel, by decide +kernel⟩, by decide, by decide +kernel⟩
theorem yf_X5_faultUnless : YF yX5_faultUnless cX5_faultUnless 2 (some .int) 1 := ⟨wg_373, wg_3, ⟨by decide +kernel, by decide +kernel, by decide +kernel⟩, by decide, by decide +kernel⟩
theorem yf_X5_isFigure : YF yX5_isFigure cX5_isFigure 2 (some .boolean) 1 := ⟨wg_361, wg_3, ⟨by decide +kernel, by decide +kernel, by decide +kernel⟩, by decide, by decide +kernel⟩
theorem yf_X5_isLetter : YF yX5_isLetter cX5_isLetter 2 (some .boolean) 1 := ⟨wg_294, wg_3, ⟨by decide +kernel, by decide +kernel, by decide +kernel⟩, by decide, by decide +kernel⟩
theorem yf_X5_isTokenText : YF yX5_isTokenText cX5_isTokenText 3 (some .boolean) 1 := ⟨wg_309, wg_3, ⟨by decide +kernel, by decide +kernel, by decide +kernel⟩, by decide, by decide +kernel⟩
theorem yf_X5_isTold : YF yX5_isTold cX5_isTold 2 (some .boolean) 1 := ⟨wg_388, wg_3, ⟨by decide +kernel, by decide +kernel, by decide +kernel⟩, by decide, by decide +kernel⟩
theorem yf_X5_keepFirst : YF yX5_keepFirst cX5_keepFirst 3 (some .int) 1 := ⟨wg_273, wg_3, ⟨by decide +kernel, by decide +kernel, by decide +kernel⟩, by decide, by decide +kernel⟩
theorem yf_X5_nameOf : YF yX5_nameOf cX5_nameOf 1 (some (.object "java/lang/String")) 1 := ⟨wg_301, wg_3, ⟨by decide +kernel, by decide +kernel, by decide +kernel⟩, by decide, by decide +kernel⟩
theorem yf_X5_readCustom : YF yX5_readCustom cX5_readCustom 3 (some .int) 0 := ⟨wg_369, wg_3, ⟨by decide +kernel, by decide +kernel, by decide +kernel⟩, by decide, by decide +kernel⟩
theorem yf_X5_readName : YF yX5_readName cX5_readName 2 none 0 := ⟨wg_298, wg_3, ⟨by decide +kernel, by decide +kernel, by decide +kernel⟩, by decide, by decide +kernel⟩
theorem yf_X5_readNumber : YF yX5_readNumber cX5_readNumber 1 none 0 := ⟨wg_365, wg_3, ⟨by decide +kernel, by decide +kernel, by decide +kernel⟩, by decide, by decide +kernel⟩
theorem yf_X5_readText : YF yX5_readText cX5_readText 3 (some .int) 0 := ⟨wg_286, wg_3, ⟨by decide +kernel, by decide +kernel, by decide +kernel⟩, by decide, by decide +kernel⟩
theorem yf_X5_readToken : YF yX5_readToken cX5_readToken 1 none 0 := ⟨wg_290, wg_3, ⟨by decide +kernel, by decide +kernel, by decide +kernel⟩, by decide, by decide +kernel⟩
theorem yf_X5_takeEight : YF yX5_takeEight cX5_takeEight 4 (some .int) 1 := ⟨wg_265, wg_3, ⟨by decide +kernel, by decide +kernel, by decide +kernel⟩, by decide, by decide +kernel⟩
theorem yf_X5_tellAll : YF yX5_tellAll cX5_tellAll 1 (some .int) 0 := ⟨wg_282, wg_3, ⟨by decide +kernel, by decide +kernel, by decide +kernel⟩, by decide, by decide +kernel⟩
theorem yf_X5_toldCustoms : YF yX5_toldCustoms cX5_toldCustoms 3 (some .int) 0 := ⟨wg_384, wg_3, ⟨by decide +kernel, by decide +kernel, by decide +kernel⟩, by decide, by decide +kernel⟩
theorem yf_X6_change : YF yX6_change cX6_change 5 (some .int) 3 := ⟨wg_642, wg_8, ⟨by decide +kernel, by decide +kernel, by decide +kernel⟩, by decide, by decide +kernel⟩
theorem yf_X6_changeRow : YF yX6_changeRow cX6_changeRow 8 none 3 := ⟨wg_684, wg_8, ⟨by decide +kernel, by decide +kernel, by decide +kernel⟩, by decide, by decide +kernel⟩
theorem yf_X6_enter : YF yX6_enter cX6_enter 4 none 3 := ⟨wg_688, wg_8, ⟨by decide +kernel, by decide +kernel, by decide +kernel⟩, by decide, by decide +kernel⟩
theorem yf_X6_leastFree : YF yX6_leastFree cX6_leastFree 3 (some .int) 1 := ⟨wg_676, wg_8, ⟨by decide +kernel, by decide +kernel, by decide +kernel⟩, by decide, by decide +kernel⟩
theorem yf_X6_mostOfOne : YF yX6_mostOfOne cX6_mostOfOne 3 (some .int) 0 := ⟨wg_650, wg_8, ⟨by decide +kernel, by decide +kernel, by decide +kernel⟩, by decide, by decide +kernel⟩
theorem yf_X6_ofOne : YF yX6_ofOne cX6_ofOne 4 (some .int) 1 := ⟨wg_654, wg_8, ⟨by decide +kernel, by decide +kernel, by decide +kernel⟩, by decide, by decide +kernel⟩
theorem yf_X6_partnerIn : YF yX6_partnerIn cX6_partnerIn 3 (some .int) 2 := ⟨wg_663, wg_8, ⟨by decide +kernel, by decide +kernel, by decide +kernel⟩, by decide, by decide +kernel⟩
theorem yf_X6_planAll : YF yX6_planAll cX6_planAll 4 none 0 := ⟨wg_667, wg_8, ⟨by decide +kernel, by decide +kernel, by decide +kernel⟩, by decide, by decide +kernel⟩
theorem yf_X6_planOne : YF yX6_planOne cX6_planOne 5 none 2 := ⟨wg_672, wg_8, ⟨by decide +kernel, by decide +kernel, by decide +kernel⟩, by decide, by decide +kernel⟩
theorem yf_X6_planned : YF yX6_planned cX6_planned 3 (some .int) 2 := ⟨wg_680, wg_8, ⟨by decide +kernel, by decide +kernel, by decide +kernel⟩, by decide, by decide +kernel⟩
theorem yf_X7_about : YF yX7_about cX7_about 3 (some .int) 2 := ⟨wg_562, wg_1, ⟨by decide +kernel, by decide +kernel, by decide +kernel⟩, by decide, by decide +kernel⟩
theorem yf_X7_areTwo : YF yX7_areTwo cX7_areTwo 3 (some .boolean) 2 := ⟨wg_226, wg_1, ⟨by decide +kernel, by decide +kernel, by decide +kernel⟩, by decide, by decide +kernel⟩
theorem yf_X7_ask : YF yX7_ask cX7_ask 5 (some .int) 3 := ⟨wg_401, wg_1, ⟨by decide +kernel, by decide +kernel, by decide +kernel⟩, by decide, by decide +kernel⟩
theorem yf_X7_askFromSheet : YF yX7_askFromSheet cX7_askFromSheet 7 (some .int) 2 := ⟨wg_626, wg_1, ⟨by decide +kernel, by decide +kernel, by decide +kernel⟩, by decide, by decide +kernel⟩
theorem yf_X7_card : YF yX7_card cX7_card 3 (some .int) 2 := ⟨wg_499, wg_1, ⟨by decide +kernel, by decide +kernel, by decide +kernel⟩, by decide, by decide +kernel⟩
theorem yf_X7_could : YF yX7_could cX7_could 2 (some .int) 1 := ⟨wg_520, wg_1, ⟨by decide +kernel, by decide +kernel, by decide +kernel⟩, by decide, by decide +kernel⟩
theorem yf_X7_count : YF yX7_count cX7_count 2 (some .int) 1 := ⟨wg_736, wg_1, ⟨by decide +kernel, by decide +kernel, by decide +kernel⟩, by decide, by decide +kernel⟩
theorem yf_X7_custom : YF yX7_custom cX7_custom 2 (some .int) 1 := ⟨wg_397, wg_1, ⟨by decide +kernel, by decide +kernel, by decide +kernel⟩, by decide, by decide +kernel⟩
theorem yf_X7_customAgainst : YF yX7_customAgainst cX7_customAgainst 6 (some .int) 3 := ⟨wg_445, wg_1, ⟨by decide +kernel, by decide +kernel, by decide +kernel⟩, by decide, by decide +kernel⟩
theorem yf_X7_customs : YF yX7_customs cX7_customs 1 (some .int) 0 := ⟨wg_278, wg_1, ⟨by decide +kernel, by decide +kernel, by decide +kernel⟩, by decide, by decide +kernel⟩
theorem yf_X7_end : YF yX7_end cX7_end 2 (some .int) 1 := ⟨wg_269, wg_1, ⟨by decide +kernel, by decide +kernel, by decide +kernel⟩, by decide, by decide +kernel⟩
theorem yf_X7_fault : YF yX7_fault cX7_fault 1 (some .int) 0 := ⟨wg_393, wg_1, ⟨by decide +kernel, by decide +kernel, by decide +kernel⟩, by decide, by decide +kernel⟩
theorem yf_X7_feed : YF yX7_feed cX7_feed 3 (some .int) 1 := ⟨wg_261, wg_1, ⟨by decide +kernel, by decide +kernel, by decide +kernel⟩, by decide, by decide +kernel⟩
theorem yf_X7_feud : YF yX7_feud cX7_feud 5 (some .int) 3 := ⟨wg_242, wg_1, ⟨by decide +kernel, by decide +kernel, by decide +kernel⟩, by decide, by decide +kernel⟩
theorem yf_X7_fewest : YF yX7_fewest cX7_fewest 1 (some .int) 0 := ⟨wg_646, wg_1, ⟨by decide +kernel, by decide +kernel, by decide +kernel⟩, by decide, by decide +kernel⟩
theorem yf_X7_fill : YF yX7_fill cX7_fill 5 (some .int) 1 := ⟨wg_549, wg_1, ⟨by decide +kernel, by decide +kernel, by decide +kernel⟩, by decide, by decide +kernel⟩
theorem yf_X7_findPossiblePairs : YF yX7_findPossiblePairs cX7_findPossiblePairs 4 none 1 := ⟨wg_524, wg_1, ⟨by decide +kernel, by decide +kernel, by decide +kernel⟩, by decide, by decide +kernel⟩
theorem yf_X7_groupDance : YF yX7_groupDance cX7_groupDance 4 (some .int) 1 := ⟨wg_696, wg_1, ⟨by decide +kernel, by decide +kernel, by decide +kernel⟩, by decide, by decide +kernel⟩
theorem yf_X7_ill : YF yX7_ill cX7_ill 2 (some .int) 1 := ⟨wg_503, wg_1, ⟨by decide +kernel, by decide +kernel, by decide +kernel⟩, by decide, by decide +kernel⟩
theorem yf_X7_introduce : YF yX7_introduce cX7_introduce 4 (some .int) 3 := ⟨wg_222, wg_1, ⟨by decide +kernel, by decide +kernel, by decide +kernel⟩, by decide, by decide +kernel⟩
theorem yf_X7_isAsking : YF yX7_isAsking cX7_isAsking 4 (some .boolean) 3 := ⟨wg_405, wg_1, ⟨by decide +kernel, by decide +kernel, by decide +kernel⟩, by decide, by decide +kernel⟩
theorem yf_X7_isDance : YF yX7_isDance cX7_isDance 1 (some .boolean) 1 := ⟨wg_417, wg_1, ⟨by decide +kernel, by decide +kernel, by decide +kernel⟩, by decide, by decide +kernel⟩
theorem yf_X7_isLane : YF yX7_isLane cX7_isLane 1 (some .boolean) 1 := ⟨wg_595, wg_1, ⟨by decide +kernel, by decide +kernel, by decide +kernel⟩, by decide, by decide +kernel⟩
theorem yf_X7_isSheet : YF yX7_isSheet cX7_isSheet 1 (some .boolean) 1 := ⟨wg_592, wg_1, ⟨by decide +kernel, by decide +kernel, by decide +kernel⟩, by decide, by decide +kernel⟩
theorem yf_X7_isWithin : YF yX7_isWithin cX7_isWithin 3 (some .boolean) 3 := ⟨wg_214, wg_1, ⟨by decide +kernel, by decide +kernel, by decide +kernel⟩, by decide, by decide +kernel⟩
theorem yf_X7_knows : YF yX7_knows cX7_knows 3 (some .int) 2 := ⟨wg_257, wg_1, ⟨by decide +kernel, by decide +kernel, by decide +kernel⟩, by decide, by decide +kernel⟩
theorem yf_X7_laid : YF yX7_laid cX7_laid 3 (some .int) 2 := ⟨wg_659, wg_1, ⟨by decide +kernel, by decide +kernel, by decide +kernel⟩, by decide, by decide +kernel⟩
theorem yf_X7_lay : YF yX7_lay cX7_lay 4 (some .int) 3 := ⟨wg_603, wg_1, ⟨by decide +kernel, by decide +kernel, by decide +kernel⟩, by decide, by decide +kernel⟩
theorem yf_X7_part : YF yX7_part cX7_part 4 (some .int) 3 := ⟨wg_485, wg_1, ⟨by decide +kernel, by decide +kernel, by decide +kernel⟩, by decide, by decide +kernel⟩
theorem yf_X7_person : YF yX7_person cX7_person 3 (some .int) 2 := ⟨wg_211, wg_1, ⟨by decide +kernel, by decide +kernel, by decide +kernel⟩, by decide, by decide +kernel⟩
theorem yf_X7_reasonAgainst : YF yX7_reasonAgainst cX7_reasonAgainst 4 (some .int) 3 := ⟨wg_421, wg_1, ⟨by decide +kernel, by decide +kernel, by decide +kernel⟩, by decide, by decide +kernel⟩
theorem yf_X7_refuse : YF yX7_refuse cX7_refuse 5 (some .int) 3 := ⟨wg_477, wg_1, ⟨by decide +kernel, by decide +kernel, by decide +kernel⟩, by decide, by decide +kernel⟩
theorem yf_X7_scan : YF yX7_scan cX7_scan 7 (some .int) 4 := ⟨wg_622, wg_1, ⟨by decide +kernel, by decide +kernel, by decide +kernel⟩, by decide, by decide +kernel⟩
theorem yf_X7_set : YF yX7_set cX7_set 3 (some .int) 2 := ⟨wg_728, wg_1, ⟨by decide +kernel, by decide +kernel, by decide +kernel⟩, by decide, by decide +kernel⟩
theorem yf_X7_sets : YF yX7_sets cX7_sets 2 (some .int) 1 := ⟨wg_692, wg_1, ⟨by decide +kernel, by decide +kernel, by decide +kernel⟩, by decide, by decide +kernel⟩
theorem yf_X7_sheet : YF yX7_sheet cX7_sheet 4 (some .int) 3 := ⟨wg_589, wg_1, ⟨by decide +kernel, by decide +kernel, by decide +kernel⟩, by decide, by decide +kernel⟩
theorem yf_X7_swap : YF yX7_swap cX7_swap 7 (some .int) 3 := ⟨wg_494, wg_1, ⟨by decide +kernel, by decide +kernel, by decide +kernel⟩, by decide, by decide +kernel⟩
theorem yf_X7_takeBack : YF yX7_takeBack cX7_takeBack 6 none 3 := ⟨wg_634, wg_1, ⟨by decide +kernel, by decide +kernel, by decide +kernel⟩, by decide, by decide +kernel⟩
theorem yf_X7_toInt : YF yX7_toInt cX7_toInt 1 (some .int) 1 := ⟨wg_249, wg_1, ⟨by decide +kernel, by decide +kernel, by decide +kernel⟩, by decide, by decide +kernel⟩
theorem yf_X7_well : YF yX7_well cX7_well 2 (some .int) 1 := ⟨wg_516, wg_1, ⟨by decide +kernel, by decide +kernel, by decide +kernel⟩, by decide, by decide +kernel⟩
theorem yf_X7_why : YF yX7_why cX7_why 4 (some .int) 3 := ⟨wg_473, wg_1, ⟨by decide +kernel, by decide +kernel, by decide +kernel⟩, by decide, by decide +kernel⟩
theorem yf_X7_wish : YF yX7_wish cX7_wish 4 (some .int) 3 := ⟨wg_638, wg_1, ⟨by decide +kernel, by decide +kernel, by decide +kernel⟩, by decide, by decide +kernel⟩
theorem yf_X8_about : YF yX8_about cX8_about 10 (some .int) 2 := ⟨wg_1048, wg_10, ⟨by decide +kernel, by decide +kernel, by decide +kernel⟩, by decide, by decide +kernel⟩
theorem yf_X8_areCouple : YF yX8_areCouple cX8_areCouple 4 (some .boolean) 3 := ⟨wg_951, wg_10, ⟨by decide +kernel, by decide +kernel, by decide +kernel⟩, by decide, by decide +kernel⟩
theorem yf_X8_areTwo : YF yX8_areTwo cX8_areTwo 3 (some .boolean) 2 := ⟨wg_875, wg_10, ⟨by decide +kernel, by decide +kernel, by decide +kernel⟩, by decide, by decide +kernel⟩
theorem yf_X8_ask : YF yX8_ask cX8_ask 5 (some .int) 3 := ⟨wg_947, wg_10, ⟨by decide +kernel, by decide +kernel, by decide +kernel⟩, by decide, by decide +kernel⟩
theorem yf_X8_byteAt : YF yX8_byteAt cX8_byteAt 2 (some .int) 1 := ⟨wg_911, wg_10, ⟨by decide +kernel, by decide +kernel, by decide +kernel⟩, by decide, by decide +kernel⟩
theorem yf_X8_card : YF yX8_card cX8_card 3 (some .int) 2 := ⟨wg_1004, wg_10, ⟨by decide +kernel, by decide +kernel, by decide +kernel⟩, by decide, by decide +kernel⟩
theorem yf_X8_cardOf : YF yX8_cardOf cX8_cardOf 3 (some .int) 2 := ⟨wg_964, wg_10, ⟨by decide +kernel, by decide +kernel, by decide +kernel⟩, by decide, by decide +kernel⟩
theorem yf_X8_change : YF yX8_change cX8_change 7 none 2 := ⟨wg_1032, wg_10, ⟨by decide +kernel, by decide +kernel, by decide +kernel⟩, by decide, by decide +kernel⟩
theorem yf_X8_could : YF yX8_could cX8_could 2 (some .int) 1 := ⟨wg_1016, wg_10, ⟨by decide +kernel, by decide +kernel, by decide +kernel⟩, by decide, by decide +kernel⟩
theorem yf_X8_count : YF yX8_count cX8_count 4 (some .int) 1 := ⟨wg_1117, wg_10, ⟨by decide +kernel, by decide +kernel, by decide +kernel⟩, by decide, by decide +kernel⟩
theorem yf_X8_couple : YF yX8_couple cX8_couple 4 none 3 := ⟨wg_976, wg_10, ⟨by decide +kernel, by decide +kernel, by decide +kernel⟩, by decide, by decide +kernel⟩
theorem yf_X8_custom : YF yX8_custom cX8_custom 4 none 0 := ⟨wg_930, wg_10, ⟨by decide +kernel, by decide +kernel, by decide +kernel⟩, by decide, by decide +kernel⟩
theorem yf_X8_custom_ : YF yX8_custom_ cX8_custom_ 2 (some .int) 1 := ⟨wg_942, wg_10, ⟨by decide +kernel, by decide +kernel, by decide +kernel⟩, by decide, by decide +kernel⟩
theorem yf_X8_customs : YF yX8_customs cX8_customs 3 (some .int) 0 := ⟨wg_903, wg_10, ⟨by decide +kernel, by decide +kernel, by decide +kernel⟩, by decide, by decide +kernel⟩
theorem yf_X8_doKnow : YF yX8_doKnow cX8_doKnow 3 (some .boolean) 2 := ⟨wg_883, wg_10, ⟨by decide +kernel, by decide +kernel, by decide +kernel⟩, by decide, by decide +kernel⟩
theorem yf_X8_end : YF yX8_end cX8_end 3 (some .int) 1 := ⟨wg_899, wg_10, ⟨by decide +kernel, by decide +kernel, by decide +kernel⟩, by decide, by decide +kernel⟩
theorem yf_X8_fails : YF yX8_fails cX8_fails 2 none 1 := ⟨wg_924, wg_10, ⟨by decide +kernel, by decide +kernel, by decide +kernel⟩, by decide, by decide +kernel⟩
theorem yf_X8_fault : YF yX8_fault cX8_fault 1 (some .int) 0 := ⟨wg_938, wg_10, ⟨by decide +kernel, by decide +kernel, by decide +kernel⟩, by decide, by decide +kernel⟩
theorem yf_X8_feed : YF yX8_feed cX8_feed 4 (some .int) 1 := ⟨wg_895, wg_10, ⟨by decide +kernel, by decide +kernel, by decide +kernel⟩, by decide, by decide +kernel⟩
theorem yf_X8_feud : YF yX8_feud cX8_feud 5 (some .int) 3 := ⟨wg_887, wg_10, ⟨by decide +kernel, by decide +kernel, by decide +kernel⟩, by decide, by decide +kernel⟩
theorem yf_X8_fewest : YF yX8_fewest cX8_fewest 5 (some .int) 0 := ⟨wg_1072, wg_10, ⟨by decide +kernel, by decide +kernel, by decide +kernel⟩, by decide, by decide +kernel⟩
theorem yf_X8_fill : YF yX8_fill cX8_fill 7 (some .int) 1 := ⟨wg_1036, wg_10, ⟨by decide +kernel, by decide +kernel, by decide +kernel⟩, by decide, by decide +kernel⟩
theorem yf_X8_fix : YF yX8_fix cX8_fix 4 none 3 := ⟨wg_1044, wg_10, ⟨by decide +kernel, by decide +kernel, by decide +kernel⟩, by decide, by decide +kernel⟩
theorem yf_X8_freeOf : YF yX8_freeOf cX8_freeOf 3 (some .int) 1 := ⟨wg_1089, wg_10, ⟨by decide +kernel, by decide +kernel, by decide +kernel⟩, by decide, by decide +kernel⟩
theorem yf_X8_gets : YF yX8_gets cX8_gets 6 (some .boolean) 1 := ⟨wg_1028, wg_10, ⟨by decide +kernel, by decide +kernel, by decide +kernel⟩, by decide, by decide +kernel⟩
theorem yf_X8_hasPartner : YF yX8_hasPartner cX8_hasPartner 3 (some .boolean) 2 := ⟨wg_972, wg_10, ⟨by decide +kernel, by decide +kernel, by decide +kernel⟩, by decide, by decide +kernel⟩
theorem yf_X8_ill : YF yX8_ill cX8_ill 4 (some .int) 1 := ⟨wg_1008, wg_10, ⟨by decide +kernel, by decide +kernel, by decide +kernel⟩, by decide, by decide +kernel⟩
theorem yf_X8_in : YF yX8_in cX8_in 6 (some .boolean) 3 := ⟨wg_867, wg_10, ⟨by decide +kernel, by decide +kernel, by decide +kernel⟩, by decide, by decide +kernel⟩
theorem yf_X8_introduce : YF yX8_introduce cX8_introduce 4 (some .int) 3 := ⟨wg_871, wg_10, ⟨by decide +kernel, by decide +kernel, by decide +kernel⟩, by decide, by decide +kernel⟩
theorem yf_X8_is : YF yX8_is cX8_is 2 (some .boolean) 1 := ⟨wg_879, wg_10, ⟨by decide +kernel, by decide +kernel, by decide +kernel⟩, by decide, by decide +kernel⟩
theorem yf_X8_knows : YF yX8_knows cX8_knows 3 (some .int) 2 := ⟨wg_891, wg_10, ⟨by decide +kernel, by decide +kernel, by decide +kernel⟩, by decide, by decide +kernel⟩
theorem yf_X8_laid : YF yX8_laid cX8_laid 3 (some .int) 2 := ⟨wg_1076, wg_10, ⟨by decide +kernel, by decide +kernel, by decide +kernel⟩, by decide, by decide +kernel⟩
theorem yf_X8_lay : YF yX8_lay cX8_lay 4 (some .int) 3 := ⟨wg_1057, wg_10, ⟨by decide +kernel, by decide +kernel, by decide +kernel⟩, by decide, by decide +kernel⟩
theorem yf_X8_layAll : YF yX8_layAll cX8_layAll 4 none 0 := ⟨wg_1081, wg_10, ⟨by decide +kernel, by decide +kernel, by decide +kernel⟩, by decide, by decide +kernel⟩
theorem yf_X8_layDance : YF yX8_layDance cX8_layDance 4 none 1 := ⟨wg_1020, wg_10, ⟨by decide +kernel, by decide +kernel, by decide +kernel⟩, by decide, by decide +kernel⟩
theorem yf_X8_laySets : YF yX8_laySets cX8_laySets 3 none 1 := ⟨wg_1097, wg_10, ⟨by decide +kernel, by decide +kernel, by decide +kernel⟩, by decide, by decide +kernel⟩
theorem yf_X8_lays : YF yX8_lays cX8_lays 10 none 2 := ⟨wg_1085, wg_10, ⟨by decide +kernel, by decide +kernel, by decide +kernel⟩, by decide, by decide +kernel⟩
theorem yf_X8_loosen : YF yX8_loosen cX8_loosen 2 none 0 := ⟨wg_1040, wg_10, ⟨by decide +kernel, by decide +kernel, by decide +kernel⟩, by decide, by decide +kernel⟩
theorem yf_X8_mayStand : YF yX8_mayStand cX8_mayStand 6 (some .boolean) 2 := ⟨wg_1105, wg_10, ⟨by decide +kernel, by decide +kernel, by decide +kernel⟩, by decide, by decide +kernel⟩
theorem yf_X8_mostFrom : YF yX8_mostFrom cX8_mostFrom 4 (some .int) 1 := ⟨wg_1024, wg_10, ⟨by decide +kernel, by decide +kernel, by decide +kernel⟩, by decide, by decide +kernel⟩
theorem yf_X8_nameOf : YF yX8_nameOf cX8_nameOf 2 (some .int) 1 := ⟨wg_916, wg_10, ⟨by decide +kernel, by decide +kernel, by decide +kernel⟩, by decide, by decide +kernel⟩
theorem yf_X8_next : YF yX8_next cX8_next 4 none 0 := ⟨wg_907, wg_10, ⟨by decide +kernel, by decide +kernel, by decide +kernel⟩, by decide, by decide +kernel⟩
theorem yf_X8_part : YF yX8_part cX8_part 4 (some .int) 3 := ⟨wg_992, wg_10, ⟨by decide +kernel, by decide +kernel, by decide +kernel⟩, by decide, by decide +kernel⟩
theorem yf_X8_person : YF yX8_person cX8_person 4 (some .int) 2 := ⟨wg_863, wg_10, ⟨by decide +kernel, by decide +kernel, by decide +kernel⟩, by decide, by decide +kernel⟩
theorem yf_X8_quarrel : YF yX8_quarrel cX8_quarrel 8 (some .boolean) 3 := ⟨wg_1109, wg_10, ⟨by decide +kernel, by decide +kernel, by decide +kernel⟩, by decide, by decide +kernel⟩
theorem yf_X8_refuse : YF yX8_refuse cX8_refuse 5 (some .int) 3 := ⟨wg_988, wg_10, ⟨by decide +kernel, by decide +kernel, by decide +kernel⟩, by decide, by decide +kernel⟩
theorem yf_X8_runWith : YF yX8_runWith cX8_runWith 5 (some .int) 2 := ⟨wg_968, wg_10, ⟨by decide +kernel, by decide +kernel, by decide +kernel⟩, by decide, by decide +kernel⟩
theorem yf_X8_scan : YF yX8_scan cX8_scan 12 (some .int) 4 := ⟨wg_1061, wg_10, ⟨by decide +kernel, by decide +kernel, by decide +kernel⟩, by decide, by decide +kernel⟩
theorem yf_X8_set : YF yX8_set cX8_set 4 (some .int) 2 := ⟨wg_1113, wg_10, ⟨by decide +kernel, by decide +kernel, by decide +kernel⟩, by decide, by decide +kernel⟩
theorem yf_X8_sets : YF yX8_sets cX8_sets 2 (some .int) 1 := ⟨wg_1093, wg_10, ⟨by decide +kernel, by decide +kernel, by decide +kernel⟩, by decide, by decide +kernel⟩
theorem yf_X8_sheet : YF yX8_sheet cX8_sheet 5 (some .int) 3 := ⟨wg_1052, wg_10, ⟨by decide +kernel, by decide +kernel, by decide +kernel⟩, by decide, by decide +kernel⟩
theorem yf_X8_stand : YF yX8_stand cX8_stand 4 (some .boolean) 2 := ⟨wg_1101, wg_10, ⟨by decide +kernel, by decide +kernel, by decide +kernel⟩, by decide, by decide +kernel⟩
theorem yf_X8_swap : YF yX8_swap cX8_swap 7 (some .int) 3 := ⟨wg_1000, wg_10, ⟨by decide +kernel, by decide +kernel, by decide +kernel⟩, by decide, by decide +kernel⟩
theorem yf_X8_together : YF yX8_together cX8_together 5 (some .int) 2 := ⟨wg_960, wg_10, ⟨by decide +kernel, by decide +kernel, by decide +kernel⟩, by decide, by decide +kernel⟩
theorem yf_X8_uncouple : YF yX8_uncouple cX8_uncouple 4 none 3 := ⟨wg_996, wg_10, ⟨by decide +kernel, by decide +kernel, by decide +kernel⟩, by decide, by decide +kernel⟩
theorem yf_X8_wants : YF yX8_wants cX8_wants 2 none 1 := ⟨wg_934, wg_10, ⟨by decide +kernel, by decide +kernel, by decide +kernel⟩, by decide, by decide +kernel⟩
theorem yf_X8_well : YF yX8_well cX8_well 2 (some .int) 1 := ⟨wg_1012, wg_10, ⟨by decide +kernel, by decide +kernel, by decide +kernel⟩, by decide, by decide +kernel⟩
theorem yf_X8_why : YF yX8_why cX8_why 4 (some .int) 3 := ⟨wg_984, wg_10, ⟨by decide +kernel, by decide +kernel, by decide +kernel⟩, by decide, by decide +kernel⟩
theorem yf_X8_whyNot : YF yX8_whyNot cX8_whyNot 6 (some .int) 3 := ⟨wg_956, wg_10, ⟨by decide +kernel, by decide +kernel, by decide +kernel⟩, by decide, by decide +kernel⟩
theorem yf_X8_wish : YF yX8_wish cX8_wish 5 (some .int) 3 := ⟨wg_1067, wg_10, ⟨by decide +kernel, by decide +kernel, by decide +kernel⟩, by decide, by decide +kernel⟩
theorem yf_X8_write : YF yX8_write cX8_write 4 none 3 := ⟨wg_980, wg_10, ⟨by decide +kernel, by decide +kernel, by decide +kernel⟩, by decide, by decide +kernel⟩
theorem if_J0_charAt_5068e : IF yJ0_charAt_5068e := ⟨wg_321, wg_322⟩
theorem if_J0_coder_7d493 : IF yJ0_coder_7d493 := ⟨wg_315, wg_316⟩
theorem if_J0_isLatin1_aae02 : IF yJ0_isLatin1_aae02 := ⟨wg_325, wg_326⟩
theorem if_J0_length_8abf5 : IF yJ0_length_8abf5 := ⟨wg_311, wg_312⟩
theorem if_X0_couples : IF yX0_couples := ⟨wg_744, ws_76⟩
theorem if_X0_enter : IF yX0_enter := ⟨wg_468, ws_34⟩
theorem if_X0_entry : IF yX0_entry := ⟨wg_440, ws_28⟩
theorem if_X0_isPaired : IF yX0_isPaired := ⟨wg_457, ws_32⟩
theorem if_X0_isTaken : IF yX0_isTaken := ⟨wg_436, ws_27⟩
theorem if_X0_join : IF yX0_join := ⟨wg_464, ws_33⟩
theorem if_X0_longestRow : IF yX0_longestRow := ⟨wg_579, ws_48⟩
theorem if_X0_others : IF yX0_others := ⟨wg_569, ws_47⟩
theorem if_X0_pairedDances : IF yX0_pairedDances := ⟨wg_565, ws_46⟩
theorem if_X0_rowThrough : IF yX0_rowThrough := ⟨wg_453, ws_31⟩
theorem if_X0_separate : IF yX0_separate := ⟨wg_489, ws_36⟩
theorem if_X0_separateAll : IF yX0_separateAll := ⟨wg_510, ws_38⟩
theorem if_X0_sitOut : IF yX0_sitOut := ⟨wg_480, ws_35⟩
theorem if_X0_sittings : IF yX0_sittings := ⟨wg_584, ws_49⟩
theorem if_X0_together : IF yX0_together := ⟨wg_448, ws_30⟩
theorem if_X1_addCouple : IF yX1_addCouple := ⟨wg_711, ws_71⟩
theorem if_X1_forget : IF yX1_forget := ⟨wg_699, ws_68⟩
theorem if_X1_group : IF yX1_group := ⟨wg_715, ws_72⟩
theorem if_X1_groupOf : IF yX1_groupOf := ⟨wg_731, ws_74⟩
theorem if_X1_isOpenFor : IF yX1_isOpenFor := ⟨wg_723, ws_73⟩
theorem if_X2_areAtFeud : IF yX2_areAtFeud := ⟨wg_245, ws_5⟩
theorem if_X2_areKnown : IF yX2_areKnown := ⟨wg_233, ws_3⟩
theorem if_X2_bitsOf : IF yX2_bitsOf := ⟨wg_703, ws_69⟩
theorem if_X2_foesOf : IF yX2_foesOf := ⟨wg_707, ws_70⟩
theorem if_X2_illOnes : IF yX2_illOnes := ⟨wg_750, ws_77⟩
theorem if_X2_isGentleman : IF yX2_isGentleman := ⟨wg_408, ws_22⟩
theorem if_X2_isIll : IF yX2_isIll := ⟨wg_424, ws_25⟩
theorem if_X2_isLady : IF yX2_isLady := ⟨wg_413, ws_23⟩
theorem if_X2_isThere : IF yX2_isThere := ⟨wg_229, ws_2⟩
theorem if_X2_knownPairs : IF yX2_knownPairs := ⟨wg_754, ws_78⟩
theorem if_X2_ladies : IF yX2_ladies := ⟨wg_739, ws_75⟩
theorem if_X2_makeIll : IF yX2_makeIll := ⟨wg_506, ws_37⟩
theorem if_X2_makeKnown : IF yX2_makeKnown := ⟨wg_237, ws_4⟩
theorem if_X2_putAtFeud : IF yX2_putAtFeud := ⟨wg_252, ws_6⟩
theorem if_X2_rankGap : IF yX2_rankGap := ⟨wg_429, ws_26⟩
theorem if_X2_welcome : IF yX2_welcome := ⟨wg_217, ws_0⟩
theorem if_X3_allow : IF yX3_allow := ⟨wg_532, ws_41⟩
theorem if_X3_chooseAll : IF yX3_chooseAll := ⟨wg_552, ws_44⟩
theorem if_X3_forget : IF yX3_forget := ⟨wg_527, ws_40⟩
theorem if_X3_leastFor : IF yX3_leastFor := ⟨wg_557, ws_45⟩
theorem if_X3_mostBehind : IF yX3_mostBehind := ⟨wg_541, ws_43⟩
theorem if_X3_mostOfAll : IF yX3_mostOfAll := ⟨wg_536, ws_42⟩
theorem if_X4_hasCells : IF yX4_hasCells := ⟨wg_610, ws_52⟩
theorem if_X4_isSomething : IF yX4_isSomething := ⟨wg_606, ws_51⟩
theorem if_X4_read : IF yX4_read := ⟨wg_629, ws_55⟩
theorem if_X4_renew : IF yX4_renew := ⟨wg_598, ws_50⟩
theorem if_X4_write : IF yX4_write := ⟨wg_614, ws_53⟩
theorem if_X5_faultUnless : IF yX5_faultUnless := ⟨wg_372, ws_18⟩
theorem if_X5_isFigure : IF yX5_isFigure := ⟨wg_360, ws_15⟩
theorem if_X5_isLetter : IF yX5_isLetter := ⟨wg_293, ws_12⟩
theorem if_X5_isTokenText : IF yX5_isTokenText := ⟨wg_308, ws_14⟩
theorem if_X5_isTold : IF yX5_isTold := ⟨wg_387, ws_20⟩
theorem if_X5_keepFirst : IF yX5_keepFirst := ⟨wg_272, ws_8⟩
theorem if_X5_readCustom : IF yX5_readCustom := ⟨wg_368, ws_17⟩
theorem if_X5_readName : IF yX5_readName := ⟨wg_297, ws_13⟩
theorem if_X5_readNumber : IF yX5_readNumber := ⟨wg_364, ws_16⟩
theorem if_X5_readText : IF yX5_readText := ⟨wg_285, ws_10⟩
theorem if_X5_readToken : IF yX5_readToken := ⟨wg_289, ws_11⟩
theorem if_X5_takeEight : IF yX5_takeEight := ⟨wg_264, ws_7⟩
theorem if_X5_tellAll : IF yX5_tellAll := ⟨wg_281, ws_9⟩
theorem if_X5_toldCustoms : IF yX5_toldCustoms := ⟨wg_383, ws_19⟩
theorem if_X6_change : IF yX6_change := ⟨wg_641, ws_57⟩
theorem if_X6_changeRow : IF yX6_changeRow := ⟨wg_683, ws_65⟩
theorem if_X6_enter : IF yX6_enter := ⟨wg_687, ws_66⟩
theorem if_X6_leastFree : IF yX6_leastFree := ⟨wg_675, ws_63⟩
theorem if_X6_mostOfOne : IF yX6_mostOfOne := ⟨wg_649, ws_58⟩
theorem if_X6_ofOne : IF yX6_ofOne := ⟨wg_653, ws_59⟩
theorem if_X6_partnerIn : IF yX6_partnerIn := ⟨wg_662, ws_60⟩
theorem if_X6_planAll : IF yX6_planAll := ⟨wg_666, ws_61⟩
theorem if_X6_planOne : IF yX6_planOne := ⟨wg_671, ws_62⟩
theorem if_X6_planned : IF yX6_planned := ⟨wg_679, ws_64⟩
theorem if_X7_areTwo : IF yX7_areTwo := ⟨wg_225, ws_1⟩
theorem if_X7_askFromSheet : IF yX7_askFromSheet := ⟨wg_625, ws_54⟩
theorem if_X7_customAgainst : IF yX7_customAgainst := ⟨wg_444, ws_29⟩
theorem if_X7_findPossiblePairs : IF yX7_findPossiblePairs := ⟨wg_523, ws_39⟩
theorem if_X7_groupDance : IF yX7_groupDance := ⟨wg_695, ws_67⟩
theorem if_X7_isAsking : IF yX7_isAsking := ⟨wg_404, ws_21⟩
theorem if_X7_reasonAgainst : IF yX7_reasonAgainst := ⟨wg_420, ws_24⟩
theorem if_X7_takeBack : IF yX7_takeBack := ⟨wg_633, ws_56⟩
theorem if_X8_areCouple : IF yX8_areCouple := ⟨wg_950, ws_87⟩
theorem if_X8_areTwo : IF yX8_areTwo := ⟨wg_874, ws_79⟩
theorem if_X8_ask : IF yX8_ask := ⟨wg_945, wg_946⟩
theorem if_X8_byteAt : IF yX8_byteAt := ⟨wg_910, ws_83⟩
theorem if_X8_cardOf : IF yX8_cardOf := ⟨wg_963, ws_90⟩
theorem if_X8_change : IF yX8_change := ⟨wg_1031, ws_99⟩
theorem if_X8_couple : IF yX8_couple := ⟨wg_975, ws_93⟩
theorem if_X8_custom : IF yX8_custom := ⟨wg_929, ws_85⟩
theorem if_X8_doKnow : IF yX8_doKnow := ⟨wg_882, ws_81⟩
theorem if_X8_fails : IF yX8_fails := ⟨wg_923, ws_84⟩
theorem if_X8_fix : IF yX8_fix := ⟨wg_1043, ws_101⟩
theorem if_X8_freeOf : IF yX8_freeOf := ⟨wg_1088, ws_104⟩
theorem if_X8_gets : IF yX8_gets := ⟨wg_1027, ws_98⟩
theorem if_X8_hasPartner : IF yX8_hasPartner := ⟨wg_971, ws_92⟩
theorem if_X8_is : IF yX8_is := ⟨wg_878, ws_80⟩
theorem if_X8_layAll : IF yX8_layAll := ⟨wg_1080, ws_102⟩
theorem if_X8_layDance : IF yX8_layDance := ⟨wg_1019, ws_96⟩
theorem if_X8_laySets : IF yX8_laySets := ⟨wg_1096, ws_105⟩
theorem if_X8_lays : IF yX8_lays := ⟨wg_1084, ws_103⟩
theorem if_X8_loosen : IF yX8_loosen := ⟨wg_1039, ws_100⟩
theorem if_X8_mayStand : IF yX8_mayStand := ⟨wg_1104, ws_107⟩
theorem if_X8_mostFrom : IF yX8_mostFrom := ⟨wg_1023, ws_97⟩
theorem if_X8_next : IF yX8_next := ⟨wg_906, ws_82⟩
theorem if_X8_quarrel : IF yX8_quarrel := ⟨wg_1108, ws_108⟩
theorem if_X8_runWith : IF yX8_runWith := ⟨wg_967, ws_91⟩
theorem if_X8_stand : IF yX8_stand := ⟨wg_1100, ws_106⟩
theorem if_X8_together : IF yX8_together := ⟨wg_959, ws_89⟩
theorem if_X8_uncouple : IF yX8_uncouple := ⟨wg_995, ws_95⟩
theorem if_X8_wants : IF yX8_wants := ⟨wg_933, ws_86⟩
theorem if_X8_whyNot : IF yX8_whyNot := ⟨wg_955, ws_88⟩
theorem if_X8_write : IF yX8_write := ⟨wg_979, ws_94⟩
theorem bp_10 : (Int8.ofInt (10)).toInt32 = (10 : Int32) := by decide +kernel
theorem bp_100 : (Int8.ofInt (100)).toInt32 = (100 : Int32) := by decide +kernel
theorem bp_122 : (Int8.ofInt (122)).toInt32 = (122 : Int32) := by decide +kernel
theorem bp_16 : (Int8.ofInt (16)).toInt32 = (16 : Int32) := by decide +kernel
theorem bp_20 : (Int8.ofInt (20)).toInt32 = (20 : Int32) := by decide +kernel
theorem bp_23 : (Int8.ofInt (23)).toInt32 = (23 : Int32) := by decide +kernel
theorem bp_24 : (Int8.ofInt (24)).toInt32 = (24 : Int32) := by decide +kernel
theorem bp_32 : (Int8.ofInt (32)).toInt32 = (32 : Int32) := by decide +kernel
theorem bp_48 : (Int8.ofInt (48)).toInt32 = (48 : Int32) := by decide +kernel
theorem bp_56 : (Int8.ofInt (56)).toInt32 = (56 : Int32) := by decide +kernel
theorem bp_57 : (Int8.ofInt (57)).toInt32 = (57 : Int32) := by decide +kernel
theorem bp_59 : (Int8.ofInt (59)).toInt32 = (59 : Int32) := by decide +kernel
theorem bp_6 : (Int8.ofInt (6)).toInt32 = (6 : Int32) := by decide +kernel
theorem bp_60 : (Int8.ofInt (60)).toInt32 = (60 : Int32) := by decide +kernel
theorem bp_63 : (Int8.ofInt (63)).toInt32 = (63 : Int32) := by decide +kernel
theorem bp_64 : (Int8.ofInt (64)).toInt32 = (64 : Int32) := by decide +kernel
theorem bp_7 : (Int8.ofInt (7)).toInt32 = (7 : Int32) := by decide +kernel
theorem bp_8 : (Int8.ofInt (8)).toInt32 = (8 : Int32) := by decide +kernel
theorem bp_9 : (Int8.ofInt (9)).toInt32 = (9 : Int32) := by decide +kernel
theorem bp_92 : (Int8.ofInt (92)).toInt32 = (92 : Int32) := by decide +kernel
theorem bp_97 : (Int8.ofInt (97)).toInt32 = (97 : Int32) := by decide +kernel
theorem bp_m10 : (Int8.ofInt (-10)).toInt32 = (-10 : Int32) := by decide +kernel
theorem bp_m11 : (Int8.ofInt (-11)).toInt32 = (-11 : Int32) := by decide +kernel
theorem bp_m12 : (Int8.ofInt (-12)).toInt32 = (-12 : Int32) := by decide +kernel
theorem bp_m14 : (Int8.ofInt (-14)).toInt32 = (-14 : Int32) := by decide +kernel
theorem bp_m2 : (Int8.ofInt (-2)).toInt32 = (-2 : Int32) := by decide +kernel
theorem bp_m20 : (Int8.ofInt (-20)).toInt32 = (-20 : Int32) := by decide +kernel
theorem bp_m21 : (Int8.ofInt (-21)).toInt32 = (-21 : Int32) := by decide +kernel
theorem bp_m22 : (Int8.ofInt (-22)).toInt32 = (-22 : Int32) := by decide +kernel
theorem bp_m23 : (Int8.ofInt (-23)).toInt32 = (-23 : Int32) := by decide +kernel
theorem bp_m3 : (Int8.ofInt (-3)).toInt32 = (-3 : Int32) := by decide +kernel
theorem bp_m30 : (Int8.ofInt (-30)).toInt32 = (-30 : Int32) := by decide +kernel
theorem bp_m4 : (Int8.ofInt (-4)).toInt32 = (-4 : Int32) := by decide +kernel
theorem bp_m5 : (Int8.ofInt (-5)).toInt32 = (-5 : Int32) := by decide +kernel
theorem ic_0 : Int32.ofInt (0) = (0 : Int32) := by decide +kernel
theorem ic_1 : Int32.ofInt (1) = (1 : Int32) := by decide +kernel
theorem ic_2 : Int32.ofInt (2) = (2 : Int32) := by decide +kernel
theorem ic_3 : Int32.ofInt (3) = (3 : Int32) := by decide +kernel
theorem ic_4 : Int32.ofInt (4) = (4 : Int32) := by decide +kernel
theorem ic_5 : Int32.ofInt (5) = (5 : Int32) := by decide +kernel
theorem ic_m1 : Int32.ofInt (-1) = (-1 : Int32) := by decide +kernel
theorem ii_1 (u : Int32) : u + Int32.ofInt (1) = u + (1 : Int32) := congrArg (u + ·) (by decide +kernel)
theorem ii_m1 (u : Int32) : u + Int32.ofInt (-1) = u + (-1 : Int32) := congrArg (u + ·) (by decide +kernel)
theorem ii_m8 (u : Int32) : u + Int32.ofInt (-8) = u + (-8 : Int32) := congrArg (u + ·) (by decide +kernel)
theorem lc_0 : Int64.ofNat ((0 : Fin 2) : Nat) = (0 : Int64) := by decide +kernel
theorem sp_1024 : (Int16.ofInt (1024)).toInt32 = (1024 : Int32) := by decide +kernel
theorem sp_255 : (Int16.ofInt (255)).toInt32 = (255 : Int32) := by decide +kernel
theorem sp_256 : (Int16.ofInt (256)).toInt32 = (256 : Int32) := by decide +kernel
