section
-- ===== PART A: goes FIRST, ahead of the names: the tables' words, and 'selects' of the private methods out of them =====
/-- a private method of a class that the tables say can be made, by its rows of tables_1 -/
def lw_okq (q : MethodName × Nat) : Prop := (q.1.cls ≠ "java/lang/invoke/MethodHandle" ∧ q.1.cls ≠ "java/lang/invoke/VarHandle") ∧ Cond.instantiable q.1.cls q.2 ∈ tables_1 ∧ Cond.privateMethod q.1 ∈ tables_1 ∧ Cond.instanceMethod q.1 ∈ tables_1
theorem lw_p0 : lw_okq (⟨"DanceCards$Guests", "welcome", "(ZI)I"⟩, 6) := ⟨⟨by decide +kernel, by decide +kernel⟩, List.mem_of_getElem? (i := 27) (by decide +kernel), List.mem_of_getElem? (i := 216) (by decide +kernel), List.mem_of_getElem? (i := 217) (by decide +kernel)⟩
theorem lw_p1 : lw_okq (⟨"DanceCards", "areTwo", "(II)Z"⟩, 7) := ⟨⟨by decide +kernel, by decide +kernel⟩, List.mem_of_getElem? (i := 19) (by decide +kernel), List.mem_of_getElem? (i := 224) (by decide +kernel), List.mem_of_getElem? (i := 225) (by decide +kernel)⟩
theorem lw_p2 : lw_okq (⟨"DanceCards$Guests", "isThere", "(I)Z"⟩, 6) := ⟨⟨by decide +kernel, by decide +kernel⟩, List.mem_of_getElem? (i := 27) (by decide +kernel), List.mem_of_getElem? (i := 228) (by decide +kernel), List.mem_of_getElem? (i := 229) (by decide +kernel)⟩
theorem lw_p3 : lw_okq (⟨"DanceCards$Guests", "areKnown", "(II)Z"⟩, 6) := ⟨⟨by decide +kernel, by decide +kernel⟩, List.mem_of_getElem? (i := 27) (by decide +kernel), List.mem_of_getElem? (i := 232) (by decide +kernel), List.mem_of_getElem? (i := 233) (by decide +kernel)⟩
theorem lw_p4 : lw_okq (⟨"DanceCards$Guests", "makeKnown", "(II)V"⟩, 6) := ⟨⟨by decide +kernel, by decide +kernel⟩, List.mem_of_getElem? (i := 27) (by decide +kernel), List.mem_of_getElem? (i := 236) (by decide +kernel), List.mem_of_getElem? (i := 237) (by decide +kernel)⟩
theorem lw_p5 : lw_okq (⟨"DanceCards$Guests", "areAtFeud", "(II)Z"⟩, 6) := ⟨⟨by decide +kernel, by decide +kernel⟩, List.mem_of_getElem? (i := 27) (by decide +kernel), List.mem_of_getElem? (i := 244) (by decide +kernel), List.mem_of_getElem? (i := 245) (by decide +kernel)⟩
theorem lw_p6 : lw_okq (⟨"DanceCards$Guests", "putAtFeud", "(IIZ)V"⟩, 6) := ⟨⟨by decide +kernel, by decide +kernel⟩, List.mem_of_getElem? (i := 27) (by decide +kernel), List.mem_of_getElem? (i := 251) (by decide +kernel), List.mem_of_getElem? (i := 252) (by decide +kernel)⟩
theorem lw_p7 : lw_okq (⟨"DanceCards$Tape", "takeEight", "(J)I"⟩, 9) := ⟨⟨by decide +kernel, by decide +kernel⟩, List.mem_of_getElem? (i := 55) (by decide +kernel), List.mem_of_getElem? (i := 263) (by decide +kernel), List.mem_of_getElem? (i := 264) (by decide +kernel)⟩
theorem lw_p8 : lw_okq (⟨"DanceCards$Tape", "keepFirst", "(I)I"⟩, 9) := ⟨⟨by decide +kernel, by decide +kernel⟩, List.mem_of_getElem? (i := 55) (by decide +kernel), List.mem_of_getElem? (i := 271) (by decide +kernel), List.mem_of_getElem? (i := 272) (by decide +kernel)⟩
theorem lw_p9 : lw_okq (⟨"DanceCards$Tape", "tellAll", "()I"⟩, 9) := ⟨⟨by decide +kernel, by decide +kernel⟩, List.mem_of_getElem? (i := 55) (by decide +kernel), List.mem_of_getElem? (i := 280) (by decide +kernel), List.mem_of_getElem? (i := 281) (by decide +kernel)⟩
theorem lw_p10 : lw_okq (⟨"DanceCards$Tape", "readText", "()I"⟩, 9) := ⟨⟨by decide +kernel, by decide +kernel⟩, List.mem_of_getElem? (i := 55) (by decide +kernel), List.mem_of_getElem? (i := 284) (by decide +kernel), List.mem_of_getElem? (i := 285) (by decide +kernel)⟩
theorem lw_p11 : lw_okq (⟨"DanceCards$Tape", "readToken", "()V"⟩, 9) := ⟨⟨by decide +kernel, by decide +kernel⟩, List.mem_of_getElem? (i := 55) (by decide +kernel), List.mem_of_getElem? (i := 288) (by decide +kernel), List.mem_of_getElem? (i := 289) (by decide +kernel)⟩
theorem lw_p12 : lw_okq (⟨"DanceCards$Tape", "isLetter", "(I)Z"⟩, 9) := ⟨⟨by decide +kernel, by decide +kernel⟩, List.mem_of_getElem? (i := 55) (by decide +kernel), List.mem_of_getElem? (i := 292) (by decide +kernel), List.mem_of_getElem? (i := 293) (by decide +kernel)⟩
theorem lw_p13 : lw_okq (⟨"DanceCards$Tape", "readName", "()V"⟩, 9) := ⟨⟨by decide +kernel, by decide +kernel⟩, List.mem_of_getElem? (i := 55) (by decide +kernel), List.mem_of_getElem? (i := 296) (by decide +kernel), List.mem_of_getElem? (i := 297) (by decide +kernel)⟩
theorem lw_p14 : lw_okq (⟨"DanceCards$Tape", "isTokenText", "(Ljava/lang/String;)Z"⟩, 9) := ⟨⟨by decide +kernel, by decide +kernel⟩, List.mem_of_getElem? (i := 55) (by decide +kernel), List.mem_of_getElem? (i := 307) (by decide +kernel), List.mem_of_getElem? (i := 308) (by decide +kernel)⟩
theorem lw_p15 : lw_okq (⟨"DanceCards$Tape", "isFigure", "(I)Z"⟩, 9) := ⟨⟨by decide +kernel, by decide +kernel⟩, List.mem_of_getElem? (i := 55) (by decide +kernel), List.mem_of_getElem? (i := 359) (by decide +kernel), List.mem_of_getElem? (i := 360) (by decide +kernel)⟩
def lw_privs_1 : List (MethodName × Nat) := [(⟨"DanceCards$Guests", "welcome", "(ZI)I"⟩, 6), (⟨"DanceCards", "areTwo", "(II)Z"⟩, 7), (⟨"DanceCards$Guests", "isThere", "(I)Z"⟩, 6), (⟨"DanceCards$Guests", "areKnown", "(II)Z"⟩, 6), (⟨"DanceCards$Guests", "makeKnown", "(II)V"⟩, 6), (⟨"DanceCards$Guests", "areAtFeud", "(II)Z"⟩, 6), (⟨"DanceCards$Guests", "putAtFeud", "(IIZ)V"⟩, 6), (⟨"DanceCards$Tape", "takeEight", "(J)I"⟩, 9), (⟨"DanceCards$Tape", "keepFirst", "(I)I"⟩, 9), (⟨"DanceCards$Tape", "tellAll", "()I"⟩, 9), (⟨"DanceCards$Tape", "readText", "()I"⟩, 9), (⟨"DanceCards$Tape", "readToken", "()V"⟩, 9), (⟨"DanceCards$Tape", "isLetter", "(I)Z"⟩, 9), (⟨"DanceCards$Tape", "readName", "()V"⟩, 9), (⟨"DanceCards$Tape", "isTokenText", "(Ljava/lang/String;)Z"⟩, 9), (⟨"DanceCards$Tape", "isFigure", "(I)Z"⟩, 9)]
theorem lw_r1 : ∀ q ∈ lw_privs_1, lw_okq q := List.forall_mem_cons.mpr ⟨lw_p0, List.forall_mem_cons.mpr ⟨lw_p1, List.forall_mem_cons.mpr ⟨lw_p2, List.forall_mem_cons.mpr ⟨lw_p3, List.forall_mem_cons.mpr ⟨lw_p4, List.forall_mem_cons.mpr ⟨lw_p5, List.forall_mem_cons.mpr ⟨lw_p6, List.forall_mem_cons.mpr ⟨lw_p7, List.forall_mem_cons.mpr ⟨lw_p8, List.forall_mem_cons.mpr ⟨lw_p9, List.forall_mem_cons.mpr ⟨lw_p10, List.forall_mem_cons.mpr ⟨lw_p11, List.forall_mem_cons.mpr ⟨lw_p12, List.forall_mem_cons.mpr ⟨lw_p13, List.forall_mem_cons.mpr ⟨lw_p14, List.forall_mem_cons.mpr ⟨lw_p15, fun _ h => absurd h List.not_mem_nil⟩⟩⟩⟩⟩⟩⟩⟩⟩⟩⟩⟩⟩⟩⟩⟩
theorem lw_p16 : lw_okq (⟨"DanceCards$Tape", "readNumber", "()V"⟩, 9) := ⟨⟨by decide +kernel, by decide +kernel⟩, List.mem_of_getElem? (i := 55) (by decide +kernel), List.mem_of_getElem? (i := 363) (by decide +kernel), List.mem_of_getElem? (i := 364) (by decide +kernel)⟩
theorem lw_p17 : lw_okq (⟨"DanceCards$Tape", "readCustom", "()I"⟩, 9) := ⟨⟨by decide +kernel, by decide +kernel⟩, List.mem_of_getElem? (i := 55) (by decide +kernel), List.mem_of_getElem? (i := 367) (by decide +kernel), List.mem_of_getElem? (i := 368) (by decide +kernel)⟩
theorem lw_p18 : lw_okq (⟨"DanceCards$Tape", "faultUnless", "(I)I"⟩, 9) := ⟨⟨by decide +kernel, by decide +kernel⟩, List.mem_of_getElem? (i := 55) (by decide +kernel), List.mem_of_getElem? (i := 371) (by decide +kernel), List.mem_of_getElem? (i := 372) (by decide +kernel)⟩
theorem lw_p19 : lw_okq (⟨"DanceCards$Tape", "toldCustoms", "()I"⟩, 9) := ⟨⟨by decide +kernel, by decide +kernel⟩, List.mem_of_getElem? (i := 55) (by decide +kernel), List.mem_of_getElem? (i := 382) (by decide +kernel), List.mem_of_getElem? (i := 383) (by decide +kernel)⟩
theorem lw_p20 : lw_okq (⟨"DanceCards$Tape", "isTold", "(I)Z"⟩, 9) := ⟨⟨by decide +kernel, by decide +kernel⟩, List.mem_of_getElem? (i := 55) (by decide +kernel), List.mem_of_getElem? (i := 386) (by decide +kernel), List.mem_of_getElem? (i := 387) (by decide +kernel)⟩
theorem lw_p21 : lw_okq (⟨"DanceCards", "isAsking", "(III)Z"⟩, 7) := ⟨⟨by decide +kernel, by decide +kernel⟩, List.mem_of_getElem? (i := 19) (by decide +kernel), List.mem_of_getElem? (i := 403) (by decide +kernel), List.mem_of_getElem? (i := 404) (by decide +kernel)⟩
theorem lw_p22 : lw_okq (⟨"DanceCards$Guests", "isGentleman", "(I)Z"⟩, 6) := ⟨⟨by decide +kernel, by decide +kernel⟩, List.mem_of_getElem? (i := 27) (by decide +kernel), List.mem_of_getElem? (i := 407) (by decide +kernel), List.mem_of_getElem? (i := 408) (by decide +kernel)⟩
theorem lw_p23 : lw_okq (⟨"DanceCards$Guests", "isLady", "(I)Z"⟩, 6) := ⟨⟨by decide +kernel, by decide +kernel⟩, List.mem_of_getElem? (i := 27) (by decide +kernel), List.mem_of_getElem? (i := 412) (by decide +kernel), List.mem_of_getElem? (i := 413) (by decide +kernel)⟩
theorem lw_p24 : lw_okq (⟨"DanceCards", "reasonAgainst", "(III)I"⟩, 7) := ⟨⟨by decide +kernel, by decide +kernel⟩, List.mem_of_getElem? (i := 19) (by decide +kernel), List.mem_of_getElem? (i := 419) (by decide +kernel), List.mem_of_getElem? (i := 420) (by decide +kernel)⟩
theorem lw_p25 : lw_okq (⟨"DanceCards$Guests", "isIll", "(I)Z"⟩, 6) := ⟨⟨by decide +kernel, by decide +kernel⟩, List.mem_of_getElem? (i := 27) (by decide +kernel), List.mem_of_getElem? (i := 423) (by decide +kernel), List.mem_of_getElem? (i := 424) (by decide +kernel)⟩
theorem lw_p26 : lw_okq (⟨"DanceCards$Guests", "rankGap", "(II)I"⟩, 6) := ⟨⟨by decide +kernel, by decide +kernel⟩, List.mem_of_getElem? (i := 27) (by decide +kernel), List.mem_of_getElem? (i := 428) (by decide +kernel), List.mem_of_getElem? (i := 429) (by decide +kernel)⟩
theorem lw_p27 : lw_okq (⟨"DanceCards$Cards", "isTaken", "(II)Z"⟩, 1) := ⟨⟨by decide +kernel, by decide +kernel⟩, List.mem_of_getElem? (i := 96) (by decide +kernel), List.mem_of_getElem? (i := 435) (by decide +kernel), List.mem_of_getElem? (i := 436) (by decide +kernel)⟩
theorem lw_p28 : lw_okq (⟨"DanceCards$Cards", "entry", "(II)I"⟩, 1) := ⟨⟨by decide +kernel, by decide +kernel⟩, List.mem_of_getElem? (i := 96) (by decide +kernel), List.mem_of_getElem? (i := 439) (by decide +kernel), List.mem_of_getElem? (i := 440) (by decide +kernel)⟩
theorem lw_p29 : lw_okq (⟨"DanceCards", "customAgainst", "(III)I"⟩, 7) := ⟨⟨by decide +kernel, by decide +kernel⟩, List.mem_of_getElem? (i := 19) (by decide +kernel), List.mem_of_getElem? (i := 443) (by decide +kernel), List.mem_of_getElem? (i := 444) (by decide +kernel)⟩
theorem lw_p30 : lw_okq (⟨"DanceCards$Cards", "together", "(II)I"⟩, 1) := ⟨⟨by decide +kernel, by decide +kernel⟩, List.mem_of_getElem? (i := 96) (by decide +kernel), List.mem_of_getElem? (i := 447) (by decide +kernel), List.mem_of_getElem? (i := 448) (by decide +kernel)⟩
theorem lw_p31 : lw_okq (⟨"DanceCards", "longerRow", "(III)I"⟩, 7) := ⟨⟨by decide +kernel, by decide +kernel⟩, List.mem_of_getElem? (i := 19) (by decide +kernel), List.mem_of_getElem? (i := 452) (by decide +kernel), List.mem_of_getElem? (i := 453) (by decide +kernel)⟩
def lw_privs_2 : List (MethodName × Nat) := [(⟨"DanceCards$Tape", "readNumber", "()V"⟩, 9), (⟨"DanceCards$Tape", "readCustom", "()I"⟩, 9), (⟨"DanceCards$Tape", "faultUnless", "(I)I"⟩, 9), (⟨"DanceCards$Tape", "toldCustoms", "()I"⟩, 9), (⟨"DanceCards$Tape", "isTold", "(I)Z"⟩, 9), (⟨"DanceCards", "isAsking", "(III)Z"⟩, 7), (⟨"DanceCards$Guests", "isGentleman", "(I)Z"⟩, 6), (⟨"DanceCards$Guests", "isLady", "(I)Z"⟩, 6), (⟨"DanceCards", "reasonAgainst", "(III)I"⟩, 7), (⟨"DanceCards$Guests", "isIll", "(I)Z"⟩, 6), (⟨"DanceCards$Guests", "rankGap", "(II)I"⟩, 6), (⟨"DanceCards$Cards", "isTaken", "(II)Z"⟩, 1), (⟨"DanceCards$Cards", "entry", "(II)I"⟩, 1), (⟨"DanceCards", "customAgainst", "(III)I"⟩, 7), (⟨"DanceCards$Cards", "together", "(II)I"⟩, 1), (⟨"DanceCards", "longerRow", "(III)I"⟩, 7)]
theorem lw_r2 : ∀ q ∈ lw_privs_2, lw_okq q := List.forall_mem_cons.mpr ⟨lw_p16, List.forall_mem_cons.mpr ⟨lw_p17, List.forall_mem_cons.mpr ⟨lw_p18, List.forall_mem_cons.mpr ⟨lw_p19, List.forall_mem_cons.mpr ⟨lw_p20, List.forall_mem_cons.mpr ⟨lw_p21, List.forall_mem_cons.mpr ⟨lw_p22, List.forall_mem_cons.mpr ⟨lw_p23, List.forall_mem_cons.mpr ⟨lw_p24, List.forall_mem_cons.mpr ⟨lw_p25, List.forall_mem_cons.mpr ⟨lw_p26, List.forall_mem_cons.mpr ⟨lw_p27, List.forall_mem_cons.mpr ⟨lw_p28, List.forall_mem_cons.mpr ⟨lw_p29, List.forall_mem_cons.mpr ⟨lw_p30, List.forall_mem_cons.mpr ⟨lw_p31, fun _ h => absurd h List.not_mem_nil⟩⟩⟩⟩⟩⟩⟩⟩⟩⟩⟩⟩⟩⟩⟩⟩
theorem lw_p32 : lw_okq (⟨"DanceCards$Cards", "rowThrough", "(II)I"⟩, 1) := ⟨⟨by decide +kernel, by decide +kernel⟩, List.mem_of_getElem? (i := 96) (by decide +kernel), List.mem_of_getElem? (i := 456) (by decide +kernel), List.mem_of_getElem? (i := 457) (by decide +kernel)⟩
theorem lw_p33 : lw_okq (⟨"DanceCards$Cards", "isPaired", "(II)Z"⟩, 1) := ⟨⟨by decide +kernel, by decide +kernel⟩, List.mem_of_getElem? (i := 96) (by decide +kernel), List.mem_of_getElem? (i := 460) (by decide +kernel), List.mem_of_getElem? (i := 461) (by decide +kernel)⟩
theorem lw_p34 : lw_okq (⟨"DanceCards$Cards", "join", "(III)V"⟩, 1) := ⟨⟨by decide +kernel, by decide +kernel⟩, List.mem_of_getElem? (i := 96) (by decide +kernel), List.mem_of_getElem? (i := 467) (by decide +kernel), List.mem_of_getElem? (i := 468) (by decide +kernel)⟩
theorem lw_p35 : lw_okq (⟨"DanceCards$Cards", "enter", "(III)V"⟩, 1) := ⟨⟨by decide +kernel, by decide +kernel⟩, List.mem_of_getElem? (i := 96) (by decide +kernel), List.mem_of_getElem? (i := 471) (by decide +kernel), List.mem_of_getElem? (i := 472) (by decide +kernel)⟩
theorem lw_p36 : lw_okq (⟨"DanceCards$Cards", "sitOut", "(II)V"⟩, 1) := ⟨⟨by decide +kernel, by decide +kernel⟩, List.mem_of_getElem? (i := 96) (by decide +kernel), List.mem_of_getElem? (i := 483) (by decide +kernel), List.mem_of_getElem? (i := 484) (by decide +kernel)⟩
theorem lw_p37 : lw_okq (⟨"DanceCards$Cards", "separate", "(III)V"⟩, 1) := ⟨⟨by decide +kernel, by decide +kernel⟩, List.mem_of_getElem? (i := 96) (by decide +kernel), List.mem_of_getElem? (i := 492) (by decide +kernel), List.mem_of_getElem? (i := 493) (by decide +kernel)⟩
theorem lw_p38 : lw_okq (⟨"DanceCards$Guests", "makeIll", "(IZ)V"⟩, 6) := ⟨⟨by decide +kernel, by decide +kernel⟩, List.mem_of_getElem? (i := 27) (by decide +kernel), List.mem_of_getElem? (i := 509) (by decide +kernel), List.mem_of_getElem? (i := 510) (by decide +kernel)⟩
theorem lw_p39 : lw_okq (⟨"DanceCards$Cards", "separateAll", "(I)I"⟩, 1) := ⟨⟨by decide +kernel, by decide +kernel⟩, List.mem_of_getElem? (i := 96) (by decide +kernel), List.mem_of_getElem? (i := 513) (by decide +kernel), List.mem_of_getElem? (i := 514) (by decide +kernel)⟩
theorem lw_p40 : lw_okq (⟨"DanceCards", "findPossiblePairs", "(I)V"⟩, 7) := ⟨⟨by decide +kernel, by decide +kernel⟩, List.mem_of_getElem? (i := 19) (by decide +kernel), List.mem_of_getElem? (i := 526) (by decide +kernel), List.mem_of_getElem? (i := 527) (by decide +kernel)⟩
theorem lw_p41 : lw_okq (⟨"DanceCards$Pairing", "forget", "()V"⟩, 4) := ⟨⟨by decide +kernel, by decide +kernel⟩, List.mem_of_getElem? (i := 107) (by decide +kernel), List.mem_of_getElem? (i := 530) (by decide +kernel), List.mem_of_getElem? (i := 531) (by decide +kernel)⟩
theorem lw_p42 : lw_okq (⟨"DanceCards$Pairing", "allow", "(II)V"⟩, 4) := ⟨⟨by decide +kernel, by decide +kernel⟩, List.mem_of_getElem? (i := 107) (by decide +kernel), List.mem_of_getElem? (i := 535) (by decide +kernel), List.mem_of_getElem? (i := 536) (by decide +kernel)⟩
theorem lw_p43 : lw_okq (⟨"DanceCards$Pairing", "mostOfAll", "()I"⟩, 4) := ⟨⟨by decide +kernel, by decide +kernel⟩, List.mem_of_getElem? (i := 107) (by decide +kernel), List.mem_of_getElem? (i := 539) (by decide +kernel), List.mem_of_getElem? (i := 540) (by decide +kernel)⟩
theorem lw_p44 : lw_okq (⟨"DanceCards$Pairing", "mostBehind", "(II)I"⟩, 4) := ⟨⟨by decide +kernel, by decide +kernel⟩, List.mem_of_getElem? (i := 107) (by decide +kernel), List.mem_of_getElem? (i := 544) (by decide +kernel), List.mem_of_getElem? (i := 545) (by decide +kernel)⟩
theorem lw_p45 : lw_okq (⟨"DanceCards$Pairing", "chooseAll", "()V"⟩, 4) := ⟨⟨by decide +kernel, by decide +kernel⟩, List.mem_of_getElem? (i := 107) (by decide +kernel), List.mem_of_getElem? (i := 555) (by decide +kernel), List.mem_of_getElem? (i := 556) (by decide +kernel)⟩
theorem lw_p46 : lw_okq (⟨"DanceCards$Pairing", "leastFor", "(III)I"⟩, 4) := ⟨⟨by decide +kernel, by decide +kernel⟩, List.mem_of_getElem? (i := 107) (by decide +kernel), List.mem_of_getElem? (i := 560) (by decide +kernel), List.mem_of_getElem? (i := 561) (by decide +kernel)⟩
theorem lw_p47 : lw_okq (⟨"DanceCards$Cards", "pairedDances", "(I)I"⟩, 1) := ⟨⟨by decide +kernel, by decide +kernel⟩, List.mem_of_getElem? (i := 96) (by decide +kernel), List.mem_of_getElem? (i := 568) (by decide +kernel), List.mem_of_getElem? (i := 569) (by decide +kernel)⟩
def lw_privs_3 : List (MethodName × Nat) := [(⟨"DanceCards$Cards", "rowThrough", "(II)I"⟩, 1), (⟨"DanceCards$Cards", "isPaired", "(II)Z"⟩, 1), (⟨"DanceCards$Cards", "join", "(III)V"⟩, 1), (⟨"DanceCards$Cards", "enter", "(III)V"⟩, 1), (⟨"DanceCards$Cards", "sitOut", "(II)V"⟩, 1), (⟨"DanceCards$Cards", "separate", "(III)V"⟩, 1), (⟨"DanceCards$Guests", "makeIll", "(IZ)V"⟩, 6), (⟨"DanceCards$Cards", "separateAll", "(I)I"⟩, 1), (⟨"DanceCards", "findPossiblePairs", "(I)V"⟩, 7), (⟨"DanceCards$Pairing", "forget", "()V"⟩, 4), (⟨"DanceCards$Pairing", "allow", "(II)V"⟩, 4), (⟨"DanceCards$Pairing", "mostOfAll", "()I"⟩, 4), (⟨"DanceCards$Pairing", "mostBehind", "(II)I"⟩, 4), (⟨"DanceCards$Pairing", "chooseAll", "()V"⟩, 4), (⟨"DanceCards$Pairing", "leastFor", "(III)I"⟩, 4), (⟨"DanceCards$Cards", "pairedDances", "(I)I"⟩, 1)]
theorem lw_r3 : ∀ q ∈ lw_privs_3, lw_okq q := List.forall_mem_cons.mpr ⟨lw_p32, List.forall_mem_cons.mpr ⟨lw_p33, List.forall_mem_cons.mpr ⟨lw_p34, List.forall_mem_cons.mpr ⟨lw_p35, List.forall_mem_cons.mpr ⟨lw_p36, List.forall_mem_cons.mpr ⟨lw_p37, List.forall_mem_cons.mpr ⟨lw_p38, List.forall_mem_cons.mpr ⟨lw_p39, List.forall_mem_cons.mpr ⟨lw_p40, List.forall_mem_cons.mpr ⟨lw_p41, List.forall_mem_cons.mpr ⟨lw_p42, List.forall_mem_cons.mpr ⟨lw_p43, List.forall_mem_cons.mpr ⟨lw_p44, List.forall_mem_cons.mpr ⟨lw_p45, List.forall_mem_cons.mpr ⟨lw_p46, List.forall_mem_cons.mpr ⟨lw_p47, fun _ h => absurd h List.not_mem_nil⟩⟩⟩⟩⟩⟩⟩⟩⟩⟩⟩⟩⟩⟩⟩⟩
theorem lw_p48 : lw_okq (⟨"DanceCards$Cards", "others", "(I)I"⟩, 1) := ⟨⟨by decide +kernel, by decide +kernel⟩, List.mem_of_getElem? (i := 96) (by decide +kernel), List.mem_of_getElem? (i := 572) (by decide +kernel), List.mem_of_getElem? (i := 573) (by decide +kernel)⟩
theorem lw_p49 : lw_okq (⟨"DanceCards$Cards", "longestRow", "(I)I"⟩, 1) := ⟨⟨by decide +kernel, by decide +kernel⟩, List.mem_of_getElem? (i := 96) (by decide +kernel), List.mem_of_getElem? (i := 582) (by decide +kernel), List.mem_of_getElem? (i := 583) (by decide +kernel)⟩
theorem lw_p50 : lw_okq (⟨"DanceCards$Cards", "sittings", "(I)I"⟩, 1) := ⟨⟨by decide +kernel, by decide +kernel⟩, List.mem_of_getElem? (i := 96) (by decide +kernel), List.mem_of_getElem? (i := 587) (by decide +kernel), List.mem_of_getElem? (i := 588) (by decide +kernel)⟩
theorem lw_p51 : lw_okq (⟨"DanceCards$Papers", "renew", "(III)V"⟩, 3) := ⟨⟨by decide +kernel, by decide +kernel⟩, List.mem_of_getElem? (i := 127) (by decide +kernel), List.mem_of_getElem? (i := 601) (by decide +kernel), List.mem_of_getElem? (i := 602) (by decide +kernel)⟩
theorem lw_p52 : lw_okq (⟨"DanceCards$Papers", "isSomething", "(I)Z"⟩, 3) := ⟨⟨by decide +kernel, by decide +kernel⟩, List.mem_of_getElem? (i := 127) (by decide +kernel), List.mem_of_getElem? (i := 609) (by decide +kernel), List.mem_of_getElem? (i := 610) (by decide +kernel)⟩
theorem lw_p53 : lw_okq (⟨"DanceCards$Papers", "hasCells", "(III)Z"⟩, 3) := ⟨⟨by decide +kernel, by decide +kernel⟩, List.mem_of_getElem? (i := 127) (by decide +kernel), List.mem_of_getElem? (i := 613) (by decide +kernel), List.mem_of_getElem? (i := 614) (by decide +kernel)⟩
theorem lw_p54 : lw_okq (⟨"DanceCards$Papers", "write", "(III)V"⟩, 3) := ⟨⟨by decide +kernel, by decide +kernel⟩, List.mem_of_getElem? (i := 127) (by decide +kernel), List.mem_of_getElem? (i := 617) (by decide +kernel), List.mem_of_getElem? (i := 618) (by decide +kernel)⟩
theorem lw_p55 : lw_okq (⟨"DanceCards", "askFromSheet", "(II)I"⟩, 7) := ⟨⟨by decide +kernel, by decide +kernel⟩, List.mem_of_getElem? (i := 19) (by decide +kernel), List.mem_of_getElem? (i := 628) (by decide +kernel), List.mem_of_getElem? (i := 629) (by decide +kernel)⟩
theorem lw_p56 : lw_okq (⟨"DanceCards$Papers", "read", "(II)I"⟩, 3) := ⟨⟨by decide +kernel, by decide +kernel⟩, List.mem_of_getElem? (i := 127) (by decide +kernel), List.mem_of_getElem? (i := 632) (by decide +kernel), List.mem_of_getElem? (i := 633) (by decide +kernel)⟩
theorem lw_p57 : lw_okq (⟨"DanceCards", "takeBack", "(III)V"⟩, 7) := ⟨⟨by decide +kernel, by decide +kernel⟩, List.mem_of_getElem? (i := 19) (by decide +kernel), List.mem_of_getElem? (i := 636) (by decide +kernel), List.mem_of_getElem? (i := 637) (by decide +kernel)⟩
theorem lw_p58 : lw_okq (⟨"DanceCards$Wishes", "change", "(III)I"⟩, 3) := ⟨⟨by decide +kernel, by decide +kernel⟩, List.mem_of_getElem? (i := 146) (by decide +kernel), List.mem_of_getElem? (i := 644) (by decide +kernel), List.mem_of_getElem? (i := 645) (by decide +kernel)⟩
theorem lw_p59 : lw_okq (⟨"DanceCards$Wishes", "mostOfOne", "()I"⟩, 3) := ⟨⟨by decide +kernel, by decide +kernel⟩, List.mem_of_getElem? (i := 146) (by decide +kernel), List.mem_of_getElem? (i := 652) (by decide +kernel), List.mem_of_getElem? (i := 653) (by decide +kernel)⟩
theorem lw_p60 : lw_okq (⟨"DanceCards$Wishes", "ofOne", "(I)I"⟩, 3) := ⟨⟨by decide +kernel, by decide +kernel⟩, List.mem_of_getElem? (i := 146) (by decide +kernel), List.mem_of_getElem? (i := 656) (by decide +kernel), List.mem_of_getElem? (i := 657) (by decide +kernel)⟩
theorem lw_p61 : lw_okq (⟨"DanceCards$Wishes", "partnerIn", "(II)I"⟩, 3) := ⟨⟨by decide +kernel, by decide +kernel⟩, List.mem_of_getElem? (i := 146) (by decide +kernel), List.mem_of_getElem? (i := 665) (by decide +kernel), List.mem_of_getElem? (i := 666) (by decide +kernel)⟩
theorem lw_p62 : lw_okq (⟨"DanceCards$Wishes", "planAll", "()V"⟩, 3) := ⟨⟨by decide +kernel, by decide +kernel⟩, List.mem_of_getElem? (i := 146) (by decide +kernel), List.mem_of_getElem? (i := 669) (by decide +kernel), List.mem_of_getElem? (i := 670) (by decide +kernel)⟩
theorem lw_p63 : lw_okq (⟨"DanceCards$Wishes", "planOne", "(II)V"⟩, 3) := ⟨⟨by decide +kernel, by decide +kernel⟩, List.mem_of_getElem? (i := 146) (by decide +kernel), List.mem_of_getElem? (i := 674) (by decide +kernel), List.mem_of_getElem? (i := 675) (by decide +kernel)⟩
def lw_privs_4 : List (MethodName × Nat) := [(⟨"DanceCards$Cards", "others", "(I)I"⟩, 1), (⟨"DanceCards$Cards", "longestRow", "(I)I"⟩, 1), (⟨"DanceCards$Cards", "sittings", "(I)I"⟩, 1), (⟨"DanceCards$Papers", "renew", "(III)V"⟩, 3), (⟨"DanceCards$Papers", "isSomething", "(I)Z"⟩, 3), (⟨"DanceCards$Papers", "hasCells", "(III)Z"⟩, 3), (⟨"DanceCards$Papers", "write", "(III)V"⟩, 3), (⟨"DanceCards", "askFromSheet", "(II)I"⟩, 7), (⟨"DanceCards$Papers", "read", "(II)I"⟩, 3), (⟨"DanceCards", "takeBack", "(III)V"⟩, 7), (⟨"DanceCards$Wishes", "change", "(III)I"⟩, 3), (⟨"DanceCards$Wishes", "mostOfOne", "()I"⟩, 3), (⟨"DanceCards$Wishes", "ofOne", "(I)I"⟩, 3), (⟨"DanceCards$Wishes", "partnerIn", "(II)I"⟩, 3), (⟨"DanceCards$Wishes", "planAll", "()V"⟩, 3), (⟨"DanceCards$Wishes", "planOne", "(II)V"⟩, 3)]
theorem lw_r4 : ∀ q ∈ lw_privs_4, lw_okq q := List.forall_mem_cons.mpr ⟨lw_p48, List.forall_mem_cons.mpr ⟨lw_p49, List.forall_mem_cons.mpr ⟨lw_p50, List.forall_mem_cons.mpr ⟨lw_p51, List.forall_mem_cons.mpr ⟨lw_p52, List.forall_mem_cons.mpr ⟨lw_p53, List.forall_mem_cons.mpr ⟨lw_p54, List.forall_mem_cons.mpr ⟨lw_p55, List.forall_mem_cons.mpr ⟨lw_p56, List.forall_mem_cons.mpr ⟨lw_p57, List.forall_mem_cons.mpr ⟨lw_p58, List.forall_mem_cons.mpr ⟨lw_p59, List.forall_mem_cons.mpr ⟨lw_p60, List.forall_mem_cons.mpr ⟨lw_p61, List.forall_mem_cons.mpr ⟨lw_p62, List.forall_mem_cons.mpr ⟨lw_p63, fun _ h => absurd h List.not_mem_nil⟩⟩⟩⟩⟩⟩⟩⟩⟩⟩⟩⟩⟩⟩⟩⟩
theorem lw_p64 : lw_okq (⟨"DanceCards$Wishes", "leastFree", "(I)I"⟩, 3) := ⟨⟨by decide +kernel, by decide +kernel⟩, List.mem_of_getElem? (i := 146) (by decide +kernel), List.mem_of_getElem? (i := 678) (by decide +kernel), List.mem_of_getElem? (i := 679) (by decide +kernel)⟩
theorem lw_p65 : lw_okq (⟨"DanceCards$Wishes", "planned", "(II)I"⟩, 3) := ⟨⟨by decide +kernel, by decide +kernel⟩, List.mem_of_getElem? (i := 146) (by decide +kernel), List.mem_of_getElem? (i := 682) (by decide +kernel), List.mem_of_getElem? (i := 683) (by decide +kernel)⟩
theorem lw_p66 : lw_okq (⟨"DanceCards$Wishes", "changeRow", "(III)V"⟩, 3) := ⟨⟨by decide +kernel, by decide +kernel⟩, List.mem_of_getElem? (i := 146) (by decide +kernel), List.mem_of_getElem? (i := 686) (by decide +kernel), List.mem_of_getElem? (i := 687) (by decide +kernel)⟩
theorem lw_p67 : lw_okq (⟨"DanceCards$Wishes", "enter", "(III)V"⟩, 3) := ⟨⟨by decide +kernel, by decide +kernel⟩, List.mem_of_getElem? (i := 146) (by decide +kernel), List.mem_of_getElem? (i := 690) (by decide +kernel), List.mem_of_getElem? (i := 691) (by decide +kernel)⟩
theorem lw_p68 : lw_okq (⟨"DanceCards", "groupDance", "(I)I"⟩, 7) := ⟨⟨by decide +kernel, by decide +kernel⟩, List.mem_of_getElem? (i := 19) (by decide +kernel), List.mem_of_getElem? (i := 698) (by decide +kernel), List.mem_of_getElem? (i := 699) (by decide +kernel)⟩
theorem lw_p69 : lw_okq (⟨"DanceCards$Grouping", "forget", "()V"⟩, 6) := ⟨⟨by decide +kernel, by decide +kernel⟩, List.mem_of_getElem? (i := 162) (by decide +kernel), List.mem_of_getElem? (i := 702) (by decide +kernel), List.mem_of_getElem? (i := 703) (by decide +kernel)⟩
theorem lw_p70 : lw_okq (⟨"DanceCards$Guests", "bitsOf", "(II)I"⟩, 6) := ⟨⟨by decide +kernel, by decide +kernel⟩, List.mem_of_getElem? (i := 27) (by decide +kernel), List.mem_of_getElem? (i := 706) (by decide +kernel), List.mem_of_getElem? (i := 707) (by decide +kernel)⟩
theorem lw_p71 : lw_okq (⟨"DanceCards$Guests", "foesOf", "(II)I"⟩, 6) := ⟨⟨by decide +kernel, by decide +kernel⟩, List.mem_of_getElem? (i := 27) (by decide +kernel), List.mem_of_getElem? (i := 710) (by decide +kernel), List.mem_of_getElem? (i := 711) (by decide +kernel)⟩
theorem lw_p72 : lw_okq (⟨"DanceCards$Grouping", "addCouple", "(II)V"⟩, 6) := ⟨⟨by decide +kernel, by decide +kernel⟩, List.mem_of_getElem? (i := 162) (by decide +kernel), List.mem_of_getElem? (i := 714) (by decide +kernel), List.mem_of_getElem? (i := 715) (by decide +kernel)⟩
theorem lw_p73 : lw_okq (⟨"DanceCards$Grouping", "group", "()I"⟩, 6) := ⟨⟨by decide +kernel, by decide +kernel⟩, List.mem_of_getElem? (i := 162) (by decide +kernel), List.mem_of_getElem? (i := 718) (by decide +kernel), List.mem_of_getElem? (i := 719) (by decide +kernel)⟩
theorem lw_p74 : lw_okq (⟨"DanceCards$Grouping", "isOpenFor", "(II)Z"⟩, 6) := ⟨⟨by decide +kernel, by decide +kernel⟩, List.mem_of_getElem? (i := 162) (by decide +kernel), List.mem_of_getElem? (i := 726) (by decide +kernel), List.mem_of_getElem? (i := 727) (by decide +kernel)⟩
theorem lw_p75 : lw_okq (⟨"DanceCards$Grouping", "groupOf", "(I)I"⟩, 6) := ⟨⟨by decide +kernel, by decide +kernel⟩, List.mem_of_getElem? (i := 162) (by decide +kernel), List.mem_of_getElem? (i := 734) (by decide +kernel), List.mem_of_getElem? (i := 735) (by decide +kernel)⟩
theorem lw_p76 : lw_okq (⟨"DanceCards$Guests", "ladies", "()I"⟩, 6) := ⟨⟨by decide +kernel, by decide +kernel⟩, List.mem_of_getElem? (i := 27) (by decide +kernel), List.mem_of_getElem? (i := 742) (by decide +kernel), List.mem_of_getElem? (i := 743) (by decide +kernel)⟩
theorem lw_p77 : lw_okq (⟨"DanceCards$Cards", "couples", "()I"⟩, 1) := ⟨⟨by decide +kernel, by decide +kernel⟩, List.mem_of_getElem? (i := 96) (by decide +kernel), List.mem_of_getElem? (i := 747) (by decide +kernel), List.mem_of_getElem? (i := 748) (by decide +kernel)⟩
theorem lw_p78 : lw_okq (⟨"DanceCards$Guests", "illOnes", "()I"⟩, 6) := ⟨⟨by decide +kernel, by decide +kernel⟩, List.mem_of_getElem? (i := 27) (by decide +kernel), List.mem_of_getElem? (i := 753) (by decide +kernel), List.mem_of_getElem? (i := 754) (by decide +kernel)⟩
theorem lw_p79 : lw_okq (⟨"DanceCards$Guests", "knownPairs", "()I"⟩, 6) := ⟨⟨by decide +kernel, by decide +kernel⟩, List.mem_of_getElem? (i := 27) (by decide +kernel), List.mem_of_getElem? (i := 757) (by decide +kernel), List.mem_of_getElem? (i := 758) (by decide +kernel)⟩
def lw_privs_5 : List (MethodName × Nat) := [(⟨"DanceCards$Wishes", "leastFree", "(I)I"⟩, 3), (⟨"DanceCards$Wishes", "planned", "(II)I"⟩, 3), (⟨"DanceCards$Wishes", "changeRow", "(III)V"⟩, 3), (⟨"DanceCards$Wishes", "enter", "(III)V"⟩, 3), (⟨"DanceCards", "groupDance", "(I)I"⟩, 7), (⟨"DanceCards$Grouping", "forget", "()V"⟩, 6), (⟨"DanceCards$Guests", "bitsOf", "(II)I"⟩, 6), (⟨"DanceCards$Guests", "foesOf", "(II)I"⟩, 6), (⟨"DanceCards$Grouping", "addCouple", "(II)V"⟩, 6), (⟨"DanceCards$Grouping", "group", "()I"⟩, 6), (⟨"DanceCards$Grouping", "isOpenFor", "(II)Z"⟩, 6), (⟨"DanceCards$Grouping", "groupOf", "(I)I"⟩, 6), (⟨"DanceCards$Guests", "ladies", "()I"⟩, 6), (⟨"DanceCards$Cards", "couples", "()I"⟩, 1), (⟨"DanceCards$Guests", "illOnes", "()I"⟩, 6), (⟨"DanceCards$Guests", "knownPairs", "()I"⟩, 6)]
theorem lw_r5 : ∀ q ∈ lw_privs_5, lw_okq q := List.forall_mem_cons.mpr ⟨lw_p64, List.forall_mem_cons.mpr ⟨lw_p65, List.forall_mem_cons.mpr ⟨lw_p66, List.forall_mem_cons.mpr ⟨lw_p67, List.forall_mem_cons.mpr ⟨lw_p68, List.forall_mem_cons.mpr ⟨lw_p69, List.forall_mem_cons.mpr ⟨lw_p70, List.forall_mem_cons.mpr ⟨lw_p71, List.forall_mem_cons.mpr ⟨lw_p72, List.forall_mem_cons.mpr ⟨lw_p73, List.forall_mem_cons.mpr ⟨lw_p74, List.forall_mem_cons.mpr ⟨lw_p75, List.forall_mem_cons.mpr ⟨lw_p76, List.forall_mem_cons.mpr ⟨lw_p77, List.forall_mem_cons.mpr ⟨lw_p78, List.forall_mem_cons.mpr ⟨lw_p79, fun _ h => absurd h List.not_mem_nil⟩⟩⟩⟩⟩⟩⟩⟩⟩⟩⟩⟩⟩⟩⟩⟩
theorem lw_p80 : lw_okq (⟨"DanceCardsModel", "areTwo", "(II)Z"⟩, 32) := ⟨⟨by decide +kernel, by decide +kernel⟩, List.mem_of_getElem? (i := 762) (by decide +kernel), List.mem_of_getElem? (i := 877) (by decide +kernel), List.mem_of_getElem? (i := 878) (by decide +kernel)⟩
theorem lw_p81 : lw_okq (⟨"DanceCardsModel", "is", "(I)Z"⟩, 32) := ⟨⟨by decide +kernel, by decide +kernel⟩, List.mem_of_getElem? (i := 762) (by decide +kernel), List.mem_of_getElem? (i := 881) (by decide +kernel), List.mem_of_getElem? (i := 882) (by decide +kernel)⟩
theorem lw_p82 : lw_okq (⟨"DanceCardsModel", "doKnow", "(II)Z"⟩, 32) := ⟨⟨by decide +kernel, by decide +kernel⟩, List.mem_of_getElem? (i := 762) (by decide +kernel), List.mem_of_getElem? (i := 885) (by decide +kernel), List.mem_of_getElem? (i := 886) (by decide +kernel)⟩
theorem lw_p83 : lw_okq (⟨"DanceCardsModel", "next", "()V"⟩, 32) := ⟨⟨by decide +kernel, by decide +kernel⟩, List.mem_of_getElem? (i := 762) (by decide +kernel), List.mem_of_getElem? (i := 909) (by decide +kernel), List.mem_of_getElem? (i := 910) (by decide +kernel)⟩
theorem lw_p84 : lw_okq (⟨"DanceCardsModel", "byteAt", "(I)I"⟩, 32) := ⟨⟨by decide +kernel, by decide +kernel⟩, List.mem_of_getElem? (i := 762) (by decide +kernel), List.mem_of_getElem? (i := 913) (by decide +kernel), List.mem_of_getElem? (i := 914) (by decide +kernel)⟩
theorem lw_p85 : lw_okq (⟨"DanceCardsModel", "fails", "(I)V"⟩, 32) := ⟨⟨by decide +kernel, by decide +kernel⟩, List.mem_of_getElem? (i := 762) (by decide +kernel), List.mem_of_getElem? (i := 926) (by decide +kernel), List.mem_of_getElem? (i := 927) (by decide +kernel)⟩
theorem lw_p86 : lw_okq (⟨"DanceCardsModel", "custom", "()V"⟩, 32) := ⟨⟨by decide +kernel, by decide +kernel⟩, List.mem_of_getElem? (i := 762) (by decide +kernel), List.mem_of_getElem? (i := 932) (by decide +kernel), List.mem_of_getElem? (i := 933) (by decide +kernel)⟩
theorem lw_p87 : lw_okq (⟨"DanceCardsModel", "wants", "(I)V"⟩, 32) := ⟨⟨by decide +kernel, by decide +kernel⟩, List.mem_of_getElem? (i := 762) (by decide +kernel), List.mem_of_getElem? (i := 936) (by decide +kernel), List.mem_of_getElem? (i := 937) (by decide +kernel)⟩
theorem lw_p88 : lw_okq (⟨"DanceCardsModel", "areCouple", "(III)Z"⟩, 32) := ⟨⟨by decide +kernel, by decide +kernel⟩, List.mem_of_getElem? (i := 762) (by decide +kernel), List.mem_of_getElem? (i := 953) (by decide +kernel), List.mem_of_getElem? (i := 954) (by decide +kernel)⟩
theorem lw_p89 : lw_okq (⟨"DanceCardsModel", "whyNot", "(III)I"⟩, 32) := ⟨⟨by decide +kernel, by decide +kernel⟩, List.mem_of_getElem? (i := 762) (by decide +kernel), List.mem_of_getElem? (i := 958) (by decide +kernel), List.mem_of_getElem? (i := 959) (by decide +kernel)⟩
theorem lw_p90 : lw_okq (⟨"DanceCardsModel", "together", "(II)I"⟩, 32) := ⟨⟨by decide +kernel, by decide +kernel⟩, List.mem_of_getElem? (i := 762) (by decide +kernel), List.mem_of_getElem? (i := 962) (by decide +kernel), List.mem_of_getElem? (i := 963) (by decide +kernel)⟩
theorem lw_p91 : lw_okq (⟨"DanceCardsModel", "cardOf", "(II)I"⟩, 32) := ⟨⟨by decide +kernel, by decide +kernel⟩, List.mem_of_getElem? (i := 762) (by decide +kernel), List.mem_of_getElem? (i := 966) (by decide +kernel), List.mem_of_getElem? (i := 967) (by decide +kernel)⟩
theorem lw_p92 : lw_okq (⟨"DanceCardsModel", "runWith", "(II)I"⟩, 32) := ⟨⟨by decide +kernel, by decide +kernel⟩, List.mem_of_getElem? (i := 762) (by decide +kernel), List.mem_of_getElem? (i := 970) (by decide +kernel), List.mem_of_getElem? (i := 971) (by decide +kernel)⟩
theorem lw_p93 : lw_okq (⟨"DanceCardsModel", "hasPartner", "(II)Z"⟩, 32) := ⟨⟨by decide +kernel, by decide +kernel⟩, List.mem_of_getElem? (i := 762) (by decide +kernel), List.mem_of_getElem? (i := 974) (by decide +kernel), List.mem_of_getElem? (i := 975) (by decide +kernel)⟩
theorem lw_p94 : lw_okq (⟨"DanceCardsModel", "couple", "(III)V"⟩, 32) := ⟨⟨by decide +kernel, by decide +kernel⟩, List.mem_of_getElem? (i := 762) (by decide +kernel), List.mem_of_getElem? (i := 978) (by decide +kernel), List.mem_of_getElem? (i := 979) (by decide +kernel)⟩
theorem lw_p95 : lw_okq (⟨"DanceCardsModel", "write", "(III)V"⟩, 32) := ⟨⟨by decide +kernel, by decide +kernel⟩, List.mem_of_getElem? (i := 762) (by decide +kernel), List.mem_of_getElem? (i := 982) (by decide +kernel), List.mem_of_getElem? (i := 983) (by decide +kernel)⟩
def lw_privs_6 : List (MethodName × Nat) := [(⟨"DanceCardsModel", "areTwo", "(II)Z"⟩, 32), (⟨"DanceCardsModel", "is", "(I)Z"⟩, 32), (⟨"DanceCardsModel", "doKnow", "(II)Z"⟩, 32), (⟨"DanceCardsModel", "next", "()V"⟩, 32), (⟨"DanceCardsModel", "byteAt", "(I)I"⟩, 32), (⟨"DanceCardsModel", "fails", "(I)V"⟩, 32), (⟨"DanceCardsModel", "custom", "()V"⟩, 32), (⟨"DanceCardsModel", "wants", "(I)V"⟩, 32), (⟨"DanceCardsModel", "areCouple", "(III)Z"⟩, 32), (⟨"DanceCardsModel", "whyNot", "(III)I"⟩, 32), (⟨"DanceCardsModel", "together", "(II)I"⟩, 32), (⟨"DanceCardsModel", "cardOf", "(II)I"⟩, 32), (⟨"DanceCardsModel", "runWith", "(II)I"⟩, 32), (⟨"DanceCardsModel", "hasPartner", "(II)Z"⟩, 32), (⟨"DanceCardsModel", "couple", "(III)V"⟩, 32), (⟨"DanceCardsModel", "write", "(III)V"⟩, 32)]
theorem lw_r6 : ∀ q ∈ lw_privs_6, lw_okq q := List.forall_mem_cons.mpr ⟨lw_p80, List.forall_mem_cons.mpr ⟨lw_p81, List.forall_mem_cons.mpr ⟨lw_p82, List.forall_mem_cons.mpr ⟨lw_p83, List.forall_mem_cons.mpr ⟨lw_p84, List.forall_mem_cons.mpr ⟨lw_p85, List.forall_mem_cons.mpr ⟨lw_p86, List.forall_mem_cons.mpr ⟨lw_p87, List.forall_mem_cons.mpr ⟨lw_p88, List.forall_mem_cons.mpr ⟨lw_p89, List.forall_mem_cons.mpr ⟨lw_p90, List.forall_mem_cons.mpr ⟨lw_p91, List.forall_mem_cons.mpr ⟨lw_p92, List.forall_mem_cons.mpr ⟨lw_p93, List.forall_mem_cons.mpr ⟨lw_p94, List.forall_mem_cons.mpr ⟨lw_p95, fun _ h => absurd h List.not_mem_nil⟩⟩⟩⟩⟩⟩⟩⟩⟩⟩⟩⟩⟩⟩⟩⟩
theorem lw_p96 : lw_okq (⟨"DanceCardsModel", "uncouple", "(III)V"⟩, 32) := ⟨⟨by decide +kernel, by decide +kernel⟩, List.mem_of_getElem? (i := 762) (by decide +kernel), List.mem_of_getElem? (i := 998) (by decide +kernel), List.mem_of_getElem? (i := 999) (by decide +kernel)⟩
theorem lw_p97 : lw_okq (⟨"DanceCardsModel", "layDance", "(I)V"⟩, 32) := ⟨⟨by decide +kernel, by decide +kernel⟩, List.mem_of_getElem? (i := 762) (by decide +kernel), List.mem_of_getElem? (i := 1022) (by decide +kernel), List.mem_of_getElem? (i := 1023) (by decide +kernel)⟩
theorem lw_p98 : lw_okq (⟨"DanceCardsModel", "mostFrom", "(I)I"⟩, 32) := ⟨⟨by decide +kernel, by decide +kernel⟩, List.mem_of_getElem? (i := 762) (by decide +kernel), List.mem_of_getElem? (i := 1026) (by decide +kernel), List.mem_of_getElem? (i := 1027) (by decide +kernel)⟩
theorem lw_p99 : lw_okq (⟨"DanceCardsModel", "gets", "(I)Z"⟩, 32) := ⟨⟨by decide +kernel, by decide +kernel⟩, List.mem_of_getElem? (i := 762) (by decide +kernel), List.mem_of_getElem? (i := 1030) (by decide +kernel), List.mem_of_getElem? (i := 1031) (by decide +kernel)⟩
theorem lw_p100 : lw_okq (⟨"DanceCardsModel", "change", "(II)V"⟩, 32) := ⟨⟨by decide +kernel, by decide +kernel⟩, List.mem_of_getElem? (i := 762) (by decide +kernel), List.mem_of_getElem? (i := 1034) (by decide +kernel), List.mem_of_getElem? (i := 1035) (by decide +kernel)⟩
theorem lw_p101 : lw_okq (⟨"DanceCardsModel", "loosen", "()V"⟩, 32) := ⟨⟨by decide +kernel, by decide +kernel⟩, List.mem_of_getElem? (i := 762) (by decide +kernel), List.mem_of_getElem? (i := 1042) (by decide +kernel), List.mem_of_getElem? (i := 1043) (by decide +kernel)⟩
theorem lw_p102 : lw_okq (⟨"DanceCardsModel", "fix", "(IIZ)V"⟩, 32) := ⟨⟨by decide +kernel, by decide +kernel⟩, List.mem_of_getElem? (i := 762) (by decide +kernel), List.mem_of_getElem? (i := 1046) (by decide +kernel), List.mem_of_getElem? (i := 1047) (by decide +kernel)⟩
theorem lw_p103 : lw_okq (⟨"DanceCardsModel", "layAll", "()V"⟩, 32) := ⟨⟨by decide +kernel, by decide +kernel⟩, List.mem_of_getElem? (i := 762) (by decide +kernel), List.mem_of_getElem? (i := 1083) (by decide +kernel), List.mem_of_getElem? (i := 1084) (by decide +kernel)⟩
theorem lw_p104 : lw_okq (⟨"DanceCardsModel", "lays", "(II)V"⟩, 32) := ⟨⟨by decide +kernel, by decide +kernel⟩, List.mem_of_getElem? (i := 762) (by decide +kernel), List.mem_of_getElem? (i := 1087) (by decide +kernel), List.mem_of_getElem? (i := 1088) (by decide +kernel)⟩
theorem lw_p105 : lw_okq (⟨"DanceCardsModel", "freeOf", "(I)I"⟩, 32) := ⟨⟨by decide +kernel, by decide +kernel⟩, List.mem_of_getElem? (i := 762) (by decide +kernel), List.mem_of_getElem? (i := 1091) (by decide +kernel), List.mem_of_getElem? (i := 1092) (by decide +kernel)⟩
theorem lw_p106 : lw_okq (⟨"DanceCardsModel", "laySets", "(I)V"⟩, 32) := ⟨⟨by decide +kernel, by decide +kernel⟩, List.mem_of_getElem? (i := 762) (by decide +kernel), List.mem_of_getElem? (i := 1099) (by decide +kernel), List.mem_of_getElem? (i := 1100) (by decide +kernel)⟩
theorem lw_p107 : lw_okq (⟨"DanceCardsModel", "stand", "(II)Z"⟩, 32) := ⟨⟨by decide +kernel, by decide +kernel⟩, List.mem_of_getElem? (i := 762) (by decide +kernel), List.mem_of_getElem? (i := 1103) (by decide +kernel), List.mem_of_getElem? (i := 1104) (by decide +kernel)⟩
theorem lw_p108 : lw_okq (⟨"DanceCardsModel", "mayStand", "(II)Z"⟩, 32) := ⟨⟨by decide +kernel, by decide +kernel⟩, List.mem_of_getElem? (i := 762) (by decide +kernel), List.mem_of_getElem? (i := 1107) (by decide +kernel), List.mem_of_getElem? (i := 1108) (by decide +kernel)⟩
theorem lw_p109 : lw_okq (⟨"DanceCardsModel", "quarrel", "(III)Z"⟩, 32) := ⟨⟨by decide +kernel, by decide +kernel⟩, List.mem_of_getElem? (i := 762) (by decide +kernel), List.mem_of_getElem? (i := 1111) (by decide +kernel), List.mem_of_getElem? (i := 1112) (by decide +kernel)⟩
def lw_privs_7 : List (MethodName × Nat) := [(⟨"DanceCardsModel", "uncouple", "(III)V"⟩, 32), (⟨"DanceCardsModel", "layDance", "(I)V"⟩, 32), (⟨"DanceCardsModel", "mostFrom", "(I)I"⟩, 32), (⟨"DanceCardsModel", "gets", "(I)Z"⟩, 32), (⟨"DanceCardsModel", "change", "(II)V"⟩, 32), (⟨"DanceCardsModel", "loosen", "()V"⟩, 32), (⟨"DanceCardsModel", "fix", "(IIZ)V"⟩, 32), (⟨"DanceCardsModel", "layAll", "()V"⟩, 32), (⟨"DanceCardsModel", "lays", "(II)V"⟩, 32), (⟨"DanceCardsModel", "freeOf", "(I)I"⟩, 32), (⟨"DanceCardsModel", "laySets", "(I)V"⟩, 32), (⟨"DanceCardsModel", "stand", "(II)Z"⟩, 32), (⟨"DanceCardsModel", "mayStand", "(II)Z"⟩, 32), (⟨"DanceCardsModel", "quarrel", "(III)Z"⟩, 32)]
theorem lw_r7 : ∀ q ∈ lw_privs_7, lw_okq q := List.forall_mem_cons.mpr ⟨lw_p96, List.forall_mem_cons.mpr ⟨lw_p97, List.forall_mem_cons.mpr ⟨lw_p98, List.forall_mem_cons.mpr ⟨lw_p99, List.forall_mem_cons.mpr ⟨lw_p100, List.forall_mem_cons.mpr ⟨lw_p101, List.forall_mem_cons.mpr ⟨lw_p102, List.forall_mem_cons.mpr ⟨lw_p103, List.forall_mem_cons.mpr ⟨lw_p104, List.forall_mem_cons.mpr ⟨lw_p105, List.forall_mem_cons.mpr ⟨lw_p106, List.forall_mem_cons.mpr ⟨lw_p107, List.forall_mem_cons.mpr ⟨lw_p108, List.forall_mem_cons.mpr ⟨lw_p109, fun _ h => absurd h List.not_mem_nil⟩⟩⟩⟩⟩⟩⟩⟩⟩⟩⟩⟩⟩⟩
def lw_privs : List (MethodName × Nat) := lw_privs_1 ++ (lw_privs_2 ++ (lw_privs_3 ++ (lw_privs_4 ++ (lw_privs_5 ++ (lw_privs_6 ++ (lw_privs_7))))))
def lw_tbl : List Cond := k2_sels lw_privs ++ tables_1
theorem lw_privs_ok : ∀ q ∈ lw_privs, lw_okq q := by
  show ∀ q ∈ lw_privs_1 ++ (lw_privs_2 ++ (lw_privs_3 ++ (lw_privs_4 ++ (lw_privs_5 ++ (lw_privs_6 ++ (lw_privs_7)))))), lw_okq q
  exact List.forall_mem_append.mpr ⟨lw_r1, List.forall_mem_append.mpr ⟨lw_r2, List.forall_mem_append.mpr ⟨lw_r3, List.forall_mem_append.mpr ⟨lw_r4, List.forall_mem_append.mpr ⟨lw_r5, List.forall_mem_append.mpr ⟨lw_r6, lw_r7⟩⟩⟩⟩⟩⟩
-- ===== end of PART A; then your names; then what follows =====
/-! THE CLAIM OUT OF ONE WALK OF THE LAW'S BODY. Your part is whole_start (and what it stands on); all else here is the same for every law, but numbers. -/
def R_law : String := "DanceCardsLaw"
def lw_P (b : Addr) (xs : List Int32) (args : Array Value) (s : State) : Prop := args = #[.ref b] ∧ s.IntsAt b xs ∧ xs.length ≤ 2560 ∧ (Jvm.Cond.and given_1 narrow_1).before args s = true
def lw_Q (_ : Array Value) (s : State) (o : Outcome) (t : State) : Prop := o = .returned (some (.int 1)) ∧ Framed s o t [] 600000 7302250
def lw_Z (below : List Frame) (a : Array Value) (s : State) : State → Prop := fun t => ∃ o, t.status = .running ∧ Ended t below o ∧ lw_Q a s o t
/-- the law's own end, with 1 on the stack, nothing written that was there before, its room as the claim has it -/
theorem lw_ret {p : Program} {l : Launch} {e : Env} {s : State} {m : MethodId} {below : List Frame} {meth : Method} {c : Code} {b : Nat} (hx : p.tables.exec = Jvm.exec) (hb : c.code = code) (hr : meth.sig.returnType = ret) (hlocks : meth.locks = false) {pc : Nat} {H : Heap} {ls : Array Slot} (hdg : decode code pc = .ok (.ireturn, 1)) : W p l e room_1 s m #[Value.ref b] below meth c H [] 600000 7302250 (lw_Z below #[Value.ref b] s) (F0 m pc ls [.int 1]) := by
  intro T hT X
  obtain ⟨fs, hret, hrun, hended, hW, hframe⟩ := X.leave (v := some (.int 1)) (hlocks := hlocks) (fun h => by rw [hr] at h; cases h)
  have hmeth' : T.vm.method? m = some meth := X.method'
  refine ⟨T.setFrames fs, ?_, .returned (some (.int 1)), hrun, hended, rfl, ⟨_, rfl⟩, hW, hframe⟩
  jvm_step X.here [X.here.top, hx, hb, hdg, hmeth', hr, ret, narrow_b1]
  (try refine ⟨rfl, ?_⟩); (try refine ⟨rfl, ?_⟩)
  first | (intro acts; rw [hret _ acts rfl rfl rfl]) | rw [hret _ _ rfl rfl rfl]
  exact Steps.refl _
/-- what holds at the law's entry: the machine, the code, the tables' words (any of lw_tbl by 'hts w (by decide +kernel)'), the script of L ints xs at the cell b, what the Statement gives of the start (any of its parts by flat_of_before) -/
def lw_At (p : Program) (s : State) (m : MethodId) (meth : Method) (c : Code) (b L : Nat) (xs : Nat → Int32) : Prop :=
  p.tables.exec = Jvm.exec ∧ c.code = code ∧ meth.sig.returnType = ret ∧ c.maxLocals = 4 ∧ s.vm.findClass R_law = some m.cls ∧ (∀ w ∈ lw_tbl, w.before #[Value.ref b] s = true) ∧ va_X b L xs s s.heap ∧ b < s.heap.size ∧ meth.locks = false ∧ (Jvm.Cond.and given_1 narrow_1).before #[Value.ref b] s = true
end
section
def RX0 : String := "DanceCards$Cards"
def TX0 : u_T := fun k => match k with
  | _ => ("DanceCards$Cards", "entries", "[I", true)
def tyX0 : Nat → FieldType := fun k => match k with
  | _ => .array .int
theorem nmX0 : ∀ a, a < 1 → ∀ b, b < 1 → a ≠ b → (TX0 a).2.1 ≠ (TX0 b).2.1 := by decide +kernel
theorem tyX0_ok : ∀ k, k < 1 → parseFieldDescriptor (TX0 k).2.2.1 = some (tyX0 k) := by decide +kernel
abbrev cX0_init : ByteArray := prog_2_method_1_code
def yX0_init : MethodName := ⟨RX0, "<init>", "()V"⟩
abbrev cX0_entry : ByteArray := prog_2_method_2_code
def yX0_entry : MethodName := ⟨RX0, "entry", "(II)I"⟩
abbrev cX0_enter : ByteArray := prog_2_method_3_code
def yX0_enter : MethodName := ⟨RX0, "enter", "(III)V"⟩
abbrev cX0_isPaired : ByteArray := prog_2_method_4_code
def yX0_isPaired : MethodName := ⟨RX0, "isPaired", "(II)Z"⟩
abbrev cX0_isTaken : ByteArray := prog_2_method_5_code
def yX0_isTaken : MethodName := ⟨RX0, "isTaken", "(II)Z"⟩
abbrev cX0_join : ByteArray := prog_2_method_6_code
def yX0_join : MethodName := ⟨RX0, "join", "(III)V"⟩
abbrev cX0_separate : ByteArray := prog_2_method_7_code
def yX0_separate : MethodName := ⟨RX0, "separate", "(III)V"⟩
abbrev cX0_sitOut : ByteArray := prog_2_method_8_code
def yX0_sitOut : MethodName := ⟨RX0, "sitOut", "(II)V"⟩
abbrev cX0_separateAll : ByteArray := prog_2_method_9_code
def yX0_separateAll : MethodName := ⟨RX0, "separateAll", "(I)I"⟩
abbrev cX0_together : ByteArray := prog_2_method_10_code
def yX0_together : MethodName := ⟨RX0, "together", "(II)I"⟩
abbrev cX0_pairedDances : ByteArray := prog_2_method_11_code
def yX0_pairedDances : MethodName := ⟨RX0, "pairedDances", "(I)I"⟩
abbrev cX0_others : ByteArray := prog_2_method_12_code
def yX0_others : MethodName := ⟨RX0, "others", "(I)I"⟩
abbrev cX0_longestRow : ByteArray := prog_2_method_13_code
def yX0_longestRow : MethodName := ⟨RX0, "longestRow", "(I)I"⟩
abbrev cX0_sittings : ByteArray := prog_2_method_14_code
def yX0_sittings : MethodName := ⟨RX0, "sittings", "(I)I"⟩
abbrev cX0_rowThrough : ByteArray := prog_2_method_15_code
def yX0_rowThrough : MethodName := ⟨RX0, "rowThrough", "(II)I"⟩
abbrev cX0_couples : ByteArray := prog_2_method_16_code
def yX0_couples : MethodName := ⟨RX0, "couples", "()I"⟩
def RX1 : String := "DanceCards$Grouping"
def TX1 : u_T := fun k => match k with
  | 0 => ("DanceCards$Grouping", "number", "I", false)
  | 1 => ("DanceCards$Grouping", "people", "[I", true)
  | 2 => ("DanceCards$Grouping", "foes", "[I", true)
  | 3 => ("DanceCards$Grouping", "placed", "[I", true)
  | 4 => ("DanceCards$Grouping", "sizes", "[I", true)
  | _ => ("DanceCards$Grouping", "members", "[I", true)
def tyX1 : Nat → FieldType := fun k => match k with
  | 0 => .int
  | 1 => .array .int
  | 2 => .array .int
  | 3 => .array .int
  | 4 => .array .int
  | _ => .array .int
theorem nmX1 : ∀ a, a < 6 → ∀ b, b < 6 → a ≠ b → (TX1 a).2.1 ≠ (TX1 b).2.1 := by decide +kernel
theorem tyX1_ok : ∀ k, k < 6 → parseFieldDescriptor (TX1 k).2.2.1 = some (tyX1 k) := by decide +kernel
abbrev cX1_init : ByteArray := prog_3_method_1_code
def yX1_init : MethodName := ⟨RX1, "<init>", "()V"⟩
abbrev cX1_forget : ByteArray := prog_3_method_2_code
def yX1_forget : MethodName := ⟨RX1, "forget", "()V"⟩
abbrev cX1_addCouple : ByteArray := prog_3_method_3_code
def yX1_addCouple : MethodName := ⟨RX1, "addCouple", "(II)V"⟩
abbrev cX1_group : ByteArray := prog_3_method_4_code
def yX1_group : MethodName := ⟨RX1, "group", "()I"⟩
abbrev cX1_canPlace : ByteArray := prog_3_method_5_code
def yX1_canPlace : MethodName := ⟨RX1, "canPlace", "(LDanceCards$Grouping;II)Z"⟩
abbrev cX1_isOpenFor : ByteArray := prog_3_method_6_code
def yX1_isOpenFor : MethodName := ⟨RX1, "isOpenFor", "(II)Z"⟩
abbrev cX1_groupOf : ByteArray := prog_3_method_7_code
def yX1_groupOf : MethodName := ⟨RX1, "groupOf", "(I)I"⟩
def RX2 : String := "DanceCards$Guests"
def TX2 : u_T := fun k => match k with
  | 0 => ("DanceCards$Guests", "number", "I", false)
  | 1 => ("DanceCards$Guests", "lady", "[Z", true)
  | 2 => ("DanceCards$Guests", "sick", "[Z", true)
  | 3 => ("DanceCards$Guests", "ranks", "[I", true)
  | 4 => ("DanceCards$Guests", "friends", "[I", true)
  | _ => ("DanceCards$Guests", "foes", "[I", true)
def tyX2 : Nat → FieldType := fun k => match k with
  | 0 => .int
  | 1 => .array .boolean
  | 2 => .array .boolean
  | 3 => .array .int
  | 4 => .array .int
  | _ => .array .int
theorem nmX2 : ∀ a, a < 6 → ∀ b, b < 6 → a ≠ b → (TX2 a).2.1 ≠ (TX2 b).2.1 := by decide +kernel
theorem tyX2_ok : ∀ k, k < 6 → parseFieldDescriptor (TX2 k).2.2.1 = some (tyX2 k) := by decide +kernel
abbrev cX2_init : ByteArray := prog_4_method_1_code
def yX2_init : MethodName := ⟨RX2, "<init>", "()V"⟩
abbrev cX2_welcome : ByteArray := prog_4_method_2_code
def yX2_welcome : MethodName := ⟨RX2, "welcome", "(ZI)I"⟩
abbrev cX2_isThere : ByteArray := prog_4_method_3_code
def yX2_isThere : MethodName := ⟨RX2, "isThere", "(I)Z"⟩
abbrev cX2_isLady : ByteArray := prog_4_method_4_code
def yX2_isLady : MethodName := ⟨RX2, "isLady", "(I)Z"⟩
abbrev cX2_isGentleman : ByteArray := prog_4_method_5_code
def yX2_isGentleman : MethodName := ⟨RX2, "isGentleman", "(I)Z"⟩
abbrev cX2_isIll : ByteArray := prog_4_method_6_code
def yX2_isIll : MethodName := ⟨RX2, "isIll", "(I)Z"⟩
abbrev cX2_makeIll : ByteArray := prog_4_method_7_code
def yX2_makeIll : MethodName := ⟨RX2, "makeIll", "(IZ)V"⟩
abbrev cX2_areKnown : ByteArray := prog_4_method_8_code
def yX2_areKnown : MethodName := ⟨RX2, "areKnown", "(II)Z"⟩
abbrev cX2_makeKnown : ByteArray := prog_4_method_9_code
def yX2_makeKnown : MethodName := ⟨RX2, "makeKnown", "(II)V"⟩
abbrev cX2_areAtFeud : ByteArray := prog_4_method_10_code
def yX2_areAtFeud : MethodName := ⟨RX2, "areAtFeud", "(II)Z"⟩
abbrev cX2_putAtFeud : ByteArray := prog_4_method_11_code
def yX2_putAtFeud : MethodName := ⟨RX2, "putAtFeud", "(IIZ)V"⟩
abbrev cX2_rankGap : ByteArray := prog_4_method_12_code
def yX2_rankGap : MethodName := ⟨RX2, "rankGap", "(II)I"⟩
abbrev cX2_bitsOf : ByteArray := prog_4_method_13_code
def yX2_bitsOf : MethodName := ⟨RX2, "bitsOf", "(II)I"⟩
abbrev cX2_foesOf : ByteArray := prog_4_method_14_code
def yX2_foesOf : MethodName := ⟨RX2, "foesOf", "(II)I"⟩
abbrev cX2_ladies : ByteArray := prog_4_method_15_code
def yX2_ladies : MethodName := ⟨RX2, "ladies", "()I"⟩
abbrev cX2_illOnes : ByteArray := prog_4_method_16_code
def yX2_illOnes : MethodName := ⟨RX2, "illOnes", "()I"⟩
abbrev cX2_knownPairs : ByteArray := prog_4_method_17_code
def yX2_knownPairs : MethodName := ⟨RX2, "knownPairs", "()I"⟩
def RX3 : String := "DanceCards$Pairing"
def TX3 : u_T := fun k => match k with
  | 0 => ("DanceCards$Pairing", "allowed", "[I", true)
  | 1 => ("DanceCards$Pairing", "chosen", "[I", true)
  | 2 => ("DanceCards$Pairing", "holder", "[I", true)
  | _ => ("DanceCards$Pairing", "untried", "I", false)
def tyX3 : Nat → FieldType := fun k => match k with
  | 0 => .array .int
  | 1 => .array .int
  | 2 => .array .int
  | _ => .int
theorem nmX3 : ∀ a, a < 4 → ∀ b, b < 4 → a ≠ b → (TX3 a).2.1 ≠ (TX3 b).2.1 := by decide +kernel
theorem tyX3_ok : ∀ k, k < 4 → parseFieldDescriptor (TX3 k).2.2.1 = some (tyX3 k) := by decide +kernel
abbrev cX3_init : ByteArray := prog_5_method_1_code
def yX3_init : MethodName := ⟨RX3, "<init>", "()V"⟩
abbrev cX3_forget : ByteArray := prog_5_method_2_code
def yX3_forget : MethodName := ⟨RX3, "forget", "()V"⟩
abbrev cX3_allow : ByteArray := prog_5_method_3_code
def yX3_allow : MethodName := ⟨RX3, "allow", "(II)V"⟩
abbrev cX3_mostOfAll : ByteArray := prog_5_method_4_code
def yX3_mostOfAll : MethodName := ⟨RX3, "mostOfAll", "()I"⟩
abbrev cX3_mostBehind : ByteArray := prog_5_method_5_code
def yX3_mostBehind : MethodName := ⟨RX3, "mostBehind", "(II)I"⟩
abbrev cX3_canHold : ByteArray := prog_5_method_6_code
def yX3_canHold : MethodName := ⟨RX3, "canHold", "(LDanceCards$Pairing;II)Z"⟩
abbrev cX3_chooseAll : ByteArray := prog_5_method_7_code
def yX3_chooseAll : MethodName := ⟨RX3, "chooseAll", "()V"⟩
abbrev cX3_leastFor : ByteArray := prog_5_method_8_code
def yX3_leastFor : MethodName := ⟨RX3, "leastFor", "(III)I"⟩
def RX4 : String := "DanceCards$Papers"
def TX4 : u_T := fun k => match k with
  | 0 => ("DanceCards$Papers", "lanes", "[I", true)
  | 1 => ("DanceCards$Papers", "sizes", "[I", true)
  | _ => ("DanceCards$Papers", "cells", "[I", true)
def tyX4 : Nat → FieldType := fun k => match k with
  | 0 => .array .int
  | 1 => .array .int
  | _ => .array .int
theorem nmX4 : ∀ a, a < 3 → ∀ b, b < 3 → a ≠ b → (TX4 a).2.1 ≠ (TX4 b).2.1 := by decide +kernel
theorem tyX4_ok : ∀ k, k < 3 → parseFieldDescriptor (TX4 k).2.2.1 = some (tyX4 k) := by decide +kernel
abbrev cX4_init : ByteArray := prog_6_method_1_code
def yX4_init : MethodName := ⟨RX4, "<init>", "()V"⟩
abbrev cX4_isSomething : ByteArray := prog_6_method_2_code
def yX4_isSomething : MethodName := ⟨RX4, "isSomething", "(I)Z"⟩
abbrev cX4_renew : ByteArray := prog_6_method_3_code
def yX4_renew : MethodName := ⟨RX4, "renew", "(III)V"⟩
abbrev cX4_hasCells : ByteArray := prog_6_method_4_code
def yX4_hasCells : MethodName := ⟨RX4, "hasCells", "(III)Z"⟩
abbrev cX4_read : ByteArray := prog_6_method_5_code
def yX4_read : MethodName := ⟨RX4, "read", "(II)I"⟩
abbrev cX4_write : ByteArray := prog_6_method_6_code
def yX4_write : MethodName := ⟨RX4, "write", "(III)V"⟩
abbrev cX4_lowestBits : ByteArray := prog_6_method_7_code
def yX4_lowestBits : MethodName := ⟨RX4, "lowestBits", "(II)I"⟩
def RX5 : String := "DanceCards$Tape"
def TX5 : u_T := fun k => match k with
  | 0 => ("DanceCards$Tape", "bytes", "[B", true)
  | 1 => ("DanceCards$Tape", "length", "I", false)
  | 2 => ("DanceCards$Tape", "latestFault", "I", false)
  | 3 => ("DanceCards$Tape", "told", "[I", true)
  | 4 => ("DanceCards$Tape", "draft", "[I", true)
  | 5 => ("DanceCards$Tape", "next", "I", false)
  | 6 => ("DanceCards$Tape", "tokenKind", "I", false)
  | 7 => ("DanceCards$Tape", "tokenPlace", "I", false)
  | _ => ("DanceCards$Tape", "tokenValue", "I", false)
def tyX5 : Nat → FieldType := fun k => match k with
  | 0 => .array .byte
  | 1 => .int
  | 2 => .int
  | 3 => .array .int
  | 4 => .array .int
  | 5 => .int
  | 6 => .int
  | 7 => .int
  | _ => .int
theorem nmX5 : ∀ a, a < 9 → ∀ b, b < 9 → a ≠ b → (TX5 a).2.1 ≠ (TX5 b).2.1 := by decide +kernel
theorem tyX5_ok : ∀ k, k < 9 → parseFieldDescriptor (TX5 k).2.2.1 = some (tyX5 k) := by decide +kernel
abbrev cX5_init : ByteArray := prog_7_method_1_code
def yX5_init : MethodName := ⟨RX5, "<init>", "()V"⟩
abbrev cX5_isTold : ByteArray := prog_7_method_2_code
def yX5_isTold : MethodName := ⟨RX5, "isTold", "(I)Z"⟩
abbrev cX5_toldCustoms : ByteArray := prog_7_method_3_code
def yX5_toldCustoms : MethodName := ⟨RX5, "toldCustoms", "()I"⟩
abbrev cX5_takeEight : ByteArray := prog_7_method_4_code
def yX5_takeEight : MethodName := ⟨RX5, "takeEight", "(J)I"⟩
abbrev cX5_keepFirst : ByteArray := prog_7_method_5_code
def yX5_keepFirst : MethodName := ⟨RX5, "keepFirst", "(I)I"⟩
abbrev cX5_tellAll : ByteArray := prog_7_method_6_code
def yX5_tellAll : MethodName := ⟨RX5, "tellAll", "()I"⟩
abbrev cX5_readText : ByteArray := prog_7_method_7_code
def yX5_readText : MethodName := ⟨RX5, "readText", "()I"⟩
abbrev cX5_readCustom : ByteArray := prog_7_method_8_code
def yX5_readCustom : MethodName := ⟨RX5, "readCustom", "()I"⟩
abbrev cX5_faultUnless : ByteArray := prog_7_method_9_code
def yX5_faultUnless : MethodName := ⟨RX5, "faultUnless", "(I)I"⟩
abbrev cX5_readToken : ByteArray := prog_7_method_10_code
def yX5_readToken : MethodName := ⟨RX5, "readToken", "()V"⟩
abbrev cX5_readName : ByteArray := prog_7_method_11_code
def yX5_readName : MethodName := ⟨RX5, "readName", "()V"⟩
abbrev cX5_readNumber : ByteArray := prog_7_method_12_code
def yX5_readNumber : MethodName := ⟨RX5, "readNumber", "()V"⟩
abbrev cX5_isLetter : ByteArray := prog_7_method_13_code
def yX5_isLetter : MethodName := ⟨RX5, "isLetter", "(I)Z"⟩
abbrev cX5_isFigure : ByteArray := prog_7_method_14_code
def yX5_isFigure : MethodName := ⟨RX5, "isFigure", "(I)Z"⟩
abbrev cX5_isTokenText : ByteArray := prog_7_method_15_code
def yX5_isTokenText : MethodName := ⟨RX5, "isTokenText", "(Ljava/lang/String;)Z"⟩
abbrev cX5_nameOf : ByteArray := prog_7_method_16_code
def yX5_nameOf : MethodName := ⟨RX5, "nameOf", "(I)Ljava/lang/String;"⟩
def RX6 : String := "DanceCards$Wishes"
def TX6 : u_T := fun k => match k with
  | 0 => ("DanceCards$Wishes", "wanted", "[I", true)
  | 1 => ("DanceCards$Wishes", "plan", "[I", true)
  | _ => ("DanceCards$Wishes", "isFresh", "Z", false)
def tyX6 : Nat → FieldType := fun k => match k with
  | 0 => .array .int
  | 1 => .array .int
  | _ => .boolean
theorem nmX6 : ∀ a, a < 3 → ∀ b, b < 3 → a ≠ b → (TX6 a).2.1 ≠ (TX6 b).2.1 := by decide +kernel
theorem tyX6_ok : ∀ k, k < 3 → parseFieldDescriptor (TX6 k).2.2.1 = some (tyX6 k) := by decide +kernel
abbrev cX6_init : ByteArray := prog_8_method_1_code
def yX6_init : MethodName := ⟨RX6, "<init>", "()V"⟩
abbrev cX6_change : ByteArray := prog_8_method_2_code
def yX6_change : MethodName := ⟨RX6, "change", "(III)I"⟩
abbrev cX6_mostOfOne : ByteArray := prog_8_method_3_code
def yX6_mostOfOne : MethodName := ⟨RX6, "mostOfOne", "()I"⟩
abbrev cX6_ofOne : ByteArray := prog_8_method_4_code
def yX6_ofOne : MethodName := ⟨RX6, "ofOne", "(I)I"⟩
abbrev cX6_partnerIn : ByteArray := prog_8_method_5_code
def yX6_partnerIn : MethodName := ⟨RX6, "partnerIn", "(II)I"⟩
abbrev cX6_planAll : ByteArray := prog_8_method_6_code
def yX6_planAll : MethodName := ⟨RX6, "planAll", "()V"⟩
abbrev cX6_planOne : ByteArray := prog_8_method_7_code
def yX6_planOne : MethodName := ⟨RX6, "planOne", "(II)V"⟩
abbrev cX6_leastFree : ByteArray := prog_8_method_8_code
def yX6_leastFree : MethodName := ⟨RX6, "leastFree", "(I)I"⟩
abbrev cX6_changeRow : ByteArray := prog_8_method_9_code
def yX6_changeRow : MethodName := ⟨RX6, "changeRow", "(III)V"⟩
abbrev cX6_planned : ByteArray := prog_8_method_10_code
def yX6_planned : MethodName := ⟨RX6, "planned", "(II)I"⟩
abbrev cX6_enter : ByteArray := prog_8_method_11_code
def yX6_enter : MethodName := ⟨RX6, "enter", "(III)V"⟩
def RX7 : String := "DanceCards"
def TX7 : u_T := fun k => match k with
  | 0 => ("DanceCards", "guests", "LDanceCards$Guests;", true)
  | 1 => ("DanceCards", "tape", "LDanceCards$Tape;", true)
  | 2 => ("DanceCards", "cards", "LDanceCards$Cards;", true)
  | 3 => ("DanceCards", "pairing", "LDanceCards$Pairing;", true)
  | 4 => ("DanceCards", "papers", "LDanceCards$Papers;", true)
  | 5 => ("DanceCards", "wishes", "LDanceCards$Wishes;", true)
  | _ => ("DanceCards", "grouping", "LDanceCards$Grouping;", true)
def tyX7 : Nat → FieldType := fun k => match k with
  | 0 => .object "DanceCards$Guests"
  | 1 => .object "DanceCards$Tape"
  | 2 => .object "DanceCards$Cards"
  | 3 => .object "DanceCards$Pairing"
  | 4 => .object "DanceCards$Papers"
  | 5 => .object "DanceCards$Wishes"
  | _ => .object "DanceCards$Grouping"
theorem nmX7 : ∀ a, a < 7 → ∀ b, b < 7 → a ≠ b → (TX7 a).2.1 ≠ (TX7 b).2.1 := by decide +kernel
theorem tyX7_ok : ∀ k, k < 7 → parseFieldDescriptor (TX7 k).2.2.1 = some (tyX7 k) := by decide +kernel
abbrev cX7_init : ByteArray := prog_1_method_1_code
def yX7_init : MethodName := ⟨RX7, "<init>", "()V"⟩
abbrev cX7_person : ByteArray := prog_1_method_2_code
def yX7_person : MethodName := ⟨RX7, "person", "(ZI)I"⟩
abbrev cX7_introduce : ByteArray := prog_1_method_3_code
def yX7_introduce : MethodName := ⟨RX7, "introduce", "(III)I"⟩
abbrev cX7_feud : ByteArray := prog_1_method_4_code
def yX7_feud : MethodName := ⟨RX7, "feud", "(IIZ)I"⟩
abbrev cX7_knows : ByteArray := prog_1_method_5_code
def yX7_knows : MethodName := ⟨RX7, "knows", "(II)I"⟩
abbrev cX7_feed : ByteArray := prog_1_method_6_code
def yX7_feed : MethodName := ⟨RX7, "feed", "(J)I"⟩
abbrev cX7_end : ByteArray := prog_1_method_7_code
def yX7_end : MethodName := ⟨RX7, "end", "(I)I"⟩
abbrev cX7_customs : ByteArray := prog_1_method_8_code
def yX7_customs : MethodName := ⟨RX7, "customs", "()I"⟩
abbrev cX7_fault : ByteArray := prog_1_method_9_code
def yX7_fault : MethodName := ⟨RX7, "fault", "()I"⟩
abbrev cX7_custom : ByteArray := prog_1_method_10_code
def yX7_custom : MethodName := ⟨RX7, "custom", "(I)I"⟩
abbrev cX7_ask : ByteArray := prog_1_method_11_code
def yX7_ask : MethodName := ⟨RX7, "ask", "(III)I"⟩
abbrev cX7_why : ByteArray := prog_1_method_12_code
def yX7_why : MethodName := ⟨RX7, "why", "(III)I"⟩
abbrev cX7_refuse : ByteArray := prog_1_method_13_code
def yX7_refuse : MethodName := ⟨RX7, "refuse", "(III)I"⟩
abbrev cX7_part : ByteArray := prog_1_method_14_code
def yX7_part : MethodName := ⟨RX7, "part", "(III)I"⟩
abbrev cX7_swap : ByteArray := prog_1_method_15_code
def yX7_swap : MethodName := ⟨RX7, "swap", "(III)I"⟩
abbrev cX7_card : ByteArray := prog_1_method_16_code
def yX7_card : MethodName := ⟨RX7, "card", "(II)I"⟩
abbrev cX7_ill : ByteArray := prog_1_method_17_code
def yX7_ill : MethodName := ⟨RX7, "ill", "(I)I"⟩
abbrev cX7_well : ByteArray := prog_1_method_18_code
def yX7_well : MethodName := ⟨RX7, "well", "(I)I"⟩
abbrev cX7_could : ByteArray := prog_1_method_19_code
def yX7_could : MethodName := ⟨RX7, "could", "(I)I"⟩
abbrev cX7_fill : ByteArray := prog_1_method_20_code
def yX7_fill : MethodName := ⟨RX7, "fill", "(I)I"⟩
abbrev cX7_about : ByteArray := prog_1_method_21_code
def yX7_about : MethodName := ⟨RX7, "about", "(II)I"⟩
abbrev cX7_sheet : ByteArray := prog_1_method_22_code
def yX7_sheet : MethodName := ⟨RX7, "sheet", "(III)I"⟩
abbrev cX7_lay : ByteArray := prog_1_method_23_code
def yX7_lay : MethodName := ⟨RX7, "lay", "(III)I"⟩
abbrev cX7_scan : ByteArray := prog_1_method_24_code
def yX7_scan : MethodName := ⟨RX7, "scan", "(IIII)I"⟩
abbrev cX7_wish : ByteArray := prog_1_method_25_code
def yX7_wish : MethodName := ⟨RX7, "wish", "(III)I"⟩
abbrev cX7_fewest : ByteArray := prog_1_method_26_code
def yX7_fewest : MethodName := ⟨RX7, "fewest", "()I"⟩
abbrev cX7_laid : ByteArray := prog_1_method_27_code
def yX7_laid : MethodName := ⟨RX7, "laid", "(II)I"⟩
abbrev cX7_sets : ByteArray := prog_1_method_28_code
def yX7_sets : MethodName := ⟨RX7, "sets", "(I)I"⟩
abbrev cX7_set : ByteArray := prog_1_method_29_code
def yX7_set : MethodName := ⟨RX7, "set", "(II)I"⟩
abbrev cX7_count : ByteArray := prog_1_method_30_code
def yX7_count : MethodName := ⟨RX7, "count", "(I)I"⟩
abbrev cX7_isWithin : ByteArray := prog_1_method_31_code
def yX7_isWithin : MethodName := ⟨RX7, "isWithin", "(III)Z"⟩
abbrev cX7_isDance : ByteArray := prog_1_method_32_code
def yX7_isDance : MethodName := ⟨RX7, "isDance", "(I)Z"⟩
abbrev cX7_isSheet : ByteArray := prog_1_method_33_code
def yX7_isSheet : MethodName := ⟨RX7, "isSheet", "(I)Z"⟩
abbrev cX7_isLane : ByteArray := prog_1_method_34_code
def yX7_isLane : MethodName := ⟨RX7, "isLane", "(I)Z"⟩
abbrev cX7_toInt : ByteArray := prog_1_method_35_code
def yX7_toInt : MethodName := ⟨RX7, "toInt", "(Z)I"⟩
abbrev cX7_areTwo : ByteArray := prog_1_method_36_code
def yX7_areTwo : MethodName := ⟨RX7, "areTwo", "(II)Z"⟩
abbrev cX7_isAsking : ByteArray := prog_1_method_37_code
def yX7_isAsking : MethodName := ⟨RX7, "isAsking", "(III)Z"⟩
abbrev cX7_reasonAgainst : ByteArray := prog_1_method_38_code
def yX7_reasonAgainst : MethodName := ⟨RX7, "reasonAgainst", "(III)I"⟩
abbrev cX7_customAgainst : ByteArray := prog_1_method_39_code
def yX7_customAgainst : MethodName := ⟨RX7, "customAgainst", "(III)I"⟩
abbrev cX7_longerRow : ByteArray := prog_1_method_40_code
def yX7_longerRow : MethodName := ⟨RX7, "longerRow", "(III)I"⟩
abbrev cX7_findPossiblePairs : ByteArray := prog_1_method_41_code
def yX7_findPossiblePairs : MethodName := ⟨RX7, "findPossiblePairs", "(I)V"⟩
abbrev cX7_askFromSheet : ByteArray := prog_1_method_42_code
def yX7_askFromSheet : MethodName := ⟨RX7, "askFromSheet", "(II)I"⟩
abbrev cX7_takeBack : ByteArray := prog_1_method_43_code
def yX7_takeBack : MethodName := ⟨RX7, "takeBack", "(III)V"⟩
abbrev cX7_groupDance : ByteArray := prog_1_method_44_code
def yX7_groupDance : MethodName := ⟨RX7, "groupDance", "(I)I"⟩
def RX8 : String := "DanceCardsModel"
def TX8 : u_T := fun k => match k with
  | 0 => ("DanceCardsModel", "people", "I", false)
  | 1 => ("DanceCardsModel", "isLady", "[Z", true)
  | 2 => ("DanceCardsModel", "ranks", "[I", true)
  | 3 => ("DanceCardsModel", "isIll", "[Z", true)
  | 4 => ("DanceCardsModel", "knows", "[Z", true)
  | 5 => ("DanceCardsModel", "feuds", "[Z", true)
  | 6 => ("DanceCardsModel", "wishes", "[I", true)
  | 7 => ("DanceCardsModel", "cards", "[I", true)
  | 8 => ("DanceCardsModel", "tape", "[I", true)
  | 9 => ("DanceCardsModel", "taped", "I", false)
  | 10 => ("DanceCardsModel", "fault", "I", false)
  | 11 => ("DanceCardsModel", "told", "[I", true)
  | 12 => ("DanceCardsModel", "read", "[I", true)
  | 13 => ("DanceCardsModel", "at", "I", false)
  | 14 => ("DanceCardsModel", "place", "I", false)
  | 15 => ("DanceCardsModel", "token", "I", false)
  | 16 => ("DanceCardsModel", "value", "I", false)
  | 17 => ("DanceCardsModel", "wrong", "I", false)
  | 18 => ("DanceCardsModel", "wrongAt", "I", false)
  | 19 => ("DanceCardsModel", "mayDance", "[Z", true)
  | 20 => ("DanceCardsModel", "with", "[I", true)
  | 21 => ("DanceCardsModel", "isFixed", "[Z", true)
  | 22 => ("DanceCardsModel", "queue", "[I", true)
  | 23 => ("DanceCardsModel", "from", "[I", true)
  | 24 => ("DanceCardsModel", "lanes", "[I", true)
  | 25 => ("DanceCardsModel", "lengths", "[I", true)
  | 26 => ("DanceCardsModel", "cells", "[I", true)
  | 27 => ("DanceCardsModel", "laidRow", "[I", true)
  | 28 => ("DanceCardsModel", "couples", "I", false)
  | 29 => ("DanceCardsModel", "ladyOf", "[I", true)
  | 30 => ("DanceCardsModel", "setOf", "[I", true)
  | _ => ("DanceCardsModel", "setMany", "I", false)
def tyX8 : Nat → FieldType := fun k => match k with
  | 0 => .int
  | 1 => .array .boolean
  | 2 => .array .int
  | 3 => .array .boolean
  | 4 => .array .boolean
  | 5 => .array .boolean
  | 6 => .array .int
  | 7 => .array .int
  | 8 => .array .int
  | 9 => .int
  | 10 => .int
  | 11 => .array .int
  | 12 => .array .int
  | 13 => .int
  | 14 => .int
  | 15 => .int
  | 16 => .int
  | 17 => .int
  | 18 => .int
  | 19 => .array .boolean
  | 20 => .array .int
  | 21 => .array .boolean
  | 22 => .array .int
  | 23 => .array .int
  | 24 => .array .int
  | 25 => .array .int
  | 26 => .array .int
  | 27 => .array .int
  | 28 => .int
  | 29 => .array .int
  | 30 => .array .int
  | _ => .int
theorem nmX8 : ∀ a, a < 32 → ∀ b, b < 32 → a ≠ b → (TX8 a).2.1 ≠ (TX8 b).2.1 := by decide +kernel
theorem tyX8_ok : ∀ k, k < 32 → parseFieldDescriptor (TX8 k).2.2.1 = some (tyX8 k) := by decide +kernel
abbrev cX8_init : ByteArray := prog_10_method_1_code
def yX8_init : MethodName := ⟨RX8, "<init>", "()V"⟩
abbrev cX8_in : ByteArray := prog_10_method_3_code
def yX8_in : MethodName := ⟨RX8, "in", "(JJJ)Z"⟩
abbrev cX8_person : ByteArray := prog_10_method_4_code
def yX8_person : MethodName := ⟨RX8, "person", "(ZI)I"⟩
abbrev cX8_is : ByteArray := prog_10_method_5_code
def yX8_is : MethodName := ⟨RX8, "is", "(I)Z"⟩
abbrev cX8_areTwo : ByteArray := prog_10_method_6_code
def yX8_areTwo : MethodName := ⟨RX8, "areTwo", "(II)Z"⟩
abbrev cX8_doKnow : ByteArray := prog_10_method_7_code
def yX8_doKnow : MethodName := ⟨RX8, "doKnow", "(II)Z"⟩
abbrev cX8_introduce : ByteArray := prog_10_method_8_code
def yX8_introduce : MethodName := ⟨RX8, "introduce", "(III)I"⟩
abbrev cX8_feud : ByteArray := prog_10_method_9_code
def yX8_feud : MethodName := ⟨RX8, "feud", "(IIZ)I"⟩
abbrev cX8_knows : ByteArray := prog_10_method_10_code
def yX8_knows : MethodName := ⟨RX8, "knows", "(II)I"⟩
abbrev cX8_feed : ByteArray := prog_10_method_11_code
def yX8_feed : MethodName := ⟨RX8, "feed", "(J)I"⟩
abbrev cX8_end : ByteArray := prog_10_method_12_code
def yX8_end : MethodName := ⟨RX8, "end", "(I)I"⟩
abbrev cX8_byteAt : ByteArray := prog_10_method_13_code
def yX8_byteAt : MethodName := ⟨RX8, "byteAt", "(I)I"⟩
abbrev cX8_fails : ByteArray := prog_10_method_14_code
def yX8_fails : MethodName := ⟨RX8, "fails", "(I)V"⟩
abbrev cX8_nameOf : ByteArray := prog_10_method_15_code
def yX8_nameOf : MethodName := ⟨RX8, "nameOf", "(J)I"⟩
abbrev cX8_next : ByteArray := prog_10_method_16_code
def yX8_next : MethodName := ⟨RX8, "next", "()V"⟩
abbrev cX8_wants : ByteArray := prog_10_method_17_code
def yX8_wants : MethodName := ⟨RX8, "wants", "(I)V"⟩
abbrev cX8_custom : ByteArray := prog_10_method_18_code
def yX8_custom : MethodName := ⟨RX8, "custom", "()V"⟩
abbrev cX8_customs : ByteArray := prog_10_method_19_code
def yX8_customs : MethodName := ⟨RX8, "customs", "()I"⟩
abbrev cX8_fault : ByteArray := prog_10_method_20_code
def yX8_fault : MethodName := ⟨RX8, "fault", "()I"⟩
abbrev cX8_custom_ : ByteArray := prog_10_method_21_code
def yX8_custom_ : MethodName := ⟨RX8, "custom", "(I)I"⟩
abbrev cX8_cardOf : ByteArray := prog_10_method_22_code
def yX8_cardOf : MethodName := ⟨RX8, "cardOf", "(II)I"⟩
abbrev cX8_write : ByteArray := prog_10_method_23_code
def yX8_write : MethodName := ⟨RX8, "write", "(III)V"⟩
abbrev cX8_hasPartner : ByteArray := prog_10_method_24_code
def yX8_hasPartner : MethodName := ⟨RX8, "hasPartner", "(II)Z"⟩
abbrev cX8_together : ByteArray := prog_10_method_25_code
def yX8_together : MethodName := ⟨RX8, "together", "(II)I"⟩
abbrev cX8_runWith : ByteArray := prog_10_method_26_code
def yX8_runWith : MethodName := ⟨RX8, "runWith", "(II)I"⟩
abbrev cX8_whyNot : ByteArray := prog_10_method_27_code
def yX8_whyNot : MethodName := ⟨RX8, "whyNot", "(III)I"⟩
abbrev cX8_areCouple : ByteArray := prog_10_method_28_code
def yX8_areCouple : MethodName := ⟨RX8, "areCouple", "(III)Z"⟩
abbrev cX8_couple : ByteArray := prog_10_method_29_code
def yX8_couple : MethodName := ⟨RX8, "couple", "(III)V"⟩
abbrev cX8_uncouple : ByteArray := prog_10_method_30_code
def yX8_uncouple : MethodName := ⟨RX8, "uncouple", "(III)V"⟩
abbrev cX8_ask : ByteArray := prog_10_method_31_code
def yX8_ask : MethodName := ⟨RX8, "ask", "(III)I"⟩
abbrev cX8_why : ByteArray := prog_10_method_32_code
def yX8_why : MethodName := ⟨RX8, "why", "(III)I"⟩
abbrev cX8_refuse : ByteArray := prog_10_method_33_code
def yX8_refuse : MethodName := ⟨RX8, "refuse", "(III)I"⟩
abbrev cX8_part : ByteArray := prog_10_method_34_code
def yX8_part : MethodName := ⟨RX8, "part", "(III)I"⟩
abbrev cX8_swap : ByteArray := prog_10_method_35_code
def yX8_swap : MethodName := ⟨RX8, "swap", "(III)I"⟩
abbrev cX8_card : ByteArray := prog_10_method_36_code
def yX8_card : MethodName := ⟨RX8, "card", "(II)I"⟩
abbrev cX8_ill : ByteArray := prog_10_method_37_code
def yX8_ill : MethodName := ⟨RX8, "ill", "(I)I"⟩
abbrev cX8_well : ByteArray := prog_10_method_38_code
def yX8_well : MethodName := ⟨RX8, "well", "(I)I"⟩
abbrev cX8_layDance : ByteArray := prog_10_method_39_code
def yX8_layDance : MethodName := ⟨RX8, "layDance", "(I)V"⟩
abbrev cX8_gets : ByteArray := prog_10_method_40_code
def yX8_gets : MethodName := ⟨RX8, "gets", "(I)Z"⟩
abbrev cX8_change : ByteArray := prog_10_method_41_code
def yX8_change : MethodName := ⟨RX8, "change", "(II)V"⟩
abbrev cX8_mostFrom : ByteArray := prog_10_method_42_code
def yX8_mostFrom : MethodName := ⟨RX8, "mostFrom", "(I)I"⟩
abbrev cX8_could : ByteArray := prog_10_method_43_code
def yX8_could : MethodName := ⟨RX8, "could", "(I)I"⟩
abbrev cX8_loosen : ByteArray := prog_10_method_44_code
def yX8_loosen : MethodName := ⟨RX8, "loosen", "()V"⟩
abbrev cX8_fill : ByteArray := prog_10_method_45_code
def yX8_fill : MethodName := ⟨RX8, "fill", "(I)I"⟩
abbrev cX8_fix : ByteArray := prog_10_method_46_code
def yX8_fix : MethodName := ⟨RX8, "fix", "(IIZ)V"⟩
abbrev cX8_about : ByteArray := prog_10_method_47_code
def yX8_about : MethodName := ⟨RX8, "about", "(II)I"⟩
abbrev cX8_sheet : ByteArray := prog_10_method_48_code
def yX8_sheet : MethodName := ⟨RX8, "sheet", "(III)I"⟩
abbrev cX8_lay : ByteArray := prog_10_method_49_code
def yX8_lay : MethodName := ⟨RX8, "lay", "(III)I"⟩
abbrev cX8_scan : ByteArray := prog_10_method_50_code
def yX8_scan : MethodName := ⟨RX8, "scan", "(IIII)I"⟩
abbrev cX8_wish : ByteArray := prog_10_method_51_code
def yX8_wish : MethodName := ⟨RX8, "wish", "(III)I"⟩
abbrev cX8_fewest : ByteArray := prog_10_method_52_code
def yX8_fewest : MethodName := ⟨RX8, "fewest", "()I"⟩
abbrev cX8_freeOf : ByteArray := prog_10_method_53_code
def yX8_freeOf : MethodName := ⟨RX8, "freeOf", "(I)I"⟩
abbrev cX8_lays : ByteArray := prog_10_method_54_code
def yX8_lays : MethodName := ⟨RX8, "lays", "(II)V"⟩
abbrev cX8_layAll : ByteArray := prog_10_method_55_code
def yX8_layAll : MethodName := ⟨RX8, "layAll", "()V"⟩
abbrev cX8_laid : ByteArray := prog_10_method_56_code
def yX8_laid : MethodName := ⟨RX8, "laid", "(II)I"⟩
abbrev cX8_quarrel : ByteArray := prog_10_method_57_code
def yX8_quarrel : MethodName := ⟨RX8, "quarrel", "(III)Z"⟩
abbrev cX8_mayStand : ByteArray := prog_10_method_58_code
def yX8_mayStand : MethodName := ⟨RX8, "mayStand", "(II)Z"⟩
abbrev cX8_stand : ByteArray := prog_10_method_59_code
def yX8_stand : MethodName := ⟨RX8, "stand", "(II)Z"⟩
abbrev cX8_laySets : ByteArray := prog_10_method_60_code
def yX8_laySets : MethodName := ⟨RX8, "laySets", "(I)V"⟩
abbrev cX8_sets : ByteArray := prog_10_method_61_code
def yX8_sets : MethodName := ⟨RX8, "sets", "(I)I"⟩
abbrev cX8_set : ByteArray := prog_10_method_62_code
def yX8_set : MethodName := ⟨RX8, "set", "(II)I"⟩
abbrev cX8_count : ByteArray := prog_10_method_63_code
def yX8_count : MethodName := ⟨RX8, "count", "(I)I"⟩
def RJ6 : String := "java/lang/Integer"
abbrev cJ6_bitCount_0f7a4 : ByteArray := prog_11_method_49_code
def yJ6_bitCount_0f7a4 : MethodName := ⟨RJ6, "bitCount", "(I)I"⟩
def RJ9 : String := "java/lang/Math"
abbrev cJ9_abs_0f7a4 : ByteArray := prog_12_method_59_code
def yJ9_abs_0f7a4 : MethodName := ⟨RJ9, "abs", "(I)I"⟩
abbrev cJ9_max_7cf53 : ByteArray := prog_12_method_65_code
def yJ9_max_7cf53 : MethodName := ⟨RJ9, "max", "(II)I"⟩
def RJ0 : String := "java/lang/String"
abbrev cJ0_length_8abf5 : ByteArray := prog_13_method_54_code
def yJ0_length_8abf5 : MethodName := ⟨RJ0, "length", "()I"⟩
abbrev cJ0_charAt_5068e : ByteArray := prog_13_method_56_code
def yJ0_charAt_5068e : MethodName := ⟨RJ0, "charAt", "(I)C"⟩
abbrev cJ0_coder_7d493 : ByteArray := prog_13_method_152_code
def yJ0_coder_7d493 : MethodName := ⟨RJ0, "coder", "()B"⟩
abbrev cJ0_isLatin1_aae02 : ByteArray := prog_13_method_154_code
def yJ0_isLatin1_aae02 : MethodName := ⟨RJ0, "isLatin1", "()Z"⟩
abbrev cJ0_checkIndex_df160 : ByteArray := prog_13_method_155_code
def yJ0_checkIndex_df160 : MethodName := ⟨RJ0, "checkIndex", "(II)V"⟩
def RJ1 : String := "java/lang/StringLatin1"
abbrev cJ1_charAt_3b067 : ByteArray := prog_14_method_2_code
def yJ1_charAt_3b067 : MethodName := ⟨RJ1, "charAt", "([BI)C"⟩
def RJ2 : String := "java/lang/StringUTF16"
abbrev cJ2_getChar_3b067 : ByteArray := prog_15_method_5_code
def yJ2_getChar_3b067 : MethodName := ⟨RJ2, "getChar", "([BI)C"⟩
abbrev cJ2_length_9d52b : ByteArray := prog_15_method_6_code
def yJ2_length_9d52b : MethodName := ⟨RJ2, "length", "([B)I"⟩
abbrev cJ2_charAt_3b067 : ByteArray := prog_15_method_83_code
def yJ2_charAt_3b067 : MethodName := ⟨RJ2, "charAt", "([BI)C"⟩
abbrev cJ2_checkIndex_2214a : ByteArray := prog_15_method_91_code
def yJ2_checkIndex_2214a : MethodName := ⟨RJ2, "checkIndex", "(I[B)V"⟩
def RJ10 : String := "java/lang/System"
def RJ7 : String := "java/util/Arrays"
abbrev cJ7_fill_53178 : ByteArray := prog_17_method_103_code
def yJ7_fill_53178 : MethodName := ⟨RJ7, "fill", "([II)V"⟩
def RJ3 : String := "jdk/internal/util/Preconditions"
abbrev cJ3_checkIndex_8e157 : ByteArray := prog_18_method_11_code
def yJ3_checkIndex_8e157 : MethodName := ⟨RJ3, "checkIndex", "(IILjava/util/function/BiFunction;)I"⟩
abbrev classes : List vw_C := [(RX0, TX0, 1), (RX1, TX1, 6), (RX2, TX2, 6), (RX3, TX3, 4), (RX4, TX4, 3), (RX5, TX5, 9), (RX6, TX6, 3), (RX7, TX7, 7), (RX8, TX8, 32)]
def isNest : Cond → Bool
  | .methodLinkNest .. => true
  | .fieldLinkNest .. => true
  | _ => false
def gws : List Cond := lw_tbl.filter goodWord
def nws : List Cond := lw_tbl.filter isNest
def c_LEAST (j : Nat) : Int32 := [1, 0, 1, 0].getD j 0
def c_MOST (j : Nat) : Int32 := [24, 9, 24, 23].getD j 0
def s_ix (k : Nat) : Nat := [116, 118, 120, 122].getD k 0
def s_tx (k : Nat) : String := ["pair", "rank", "row", "supper"].getD k ""
def s_len : List Nat := [4, 4, 3, 6]
def s_byt : List (List Int32) := [[112, 97, 105, 114], [114, 97, 110, 107], [114, 111, 119], [115, 117, 112, 112, 101, 114]]
end
section
/-! the fixed things, the state, the one world -/
abbrev Cx : Type := va_G × (Nat → ClassId) × (Nat → Nat) × (Nat → Nat) × (Nat → Nat) × (Nat → Nat)
abbrev xa (x : Cx) : Nat → Nat := x.2.2.1
abbrev xK (x : Cx) : Nat → Nat := x.2.2.2.1
abbrev xV (x : Cx) : Nat → Nat := x.2.2.2.2.1
abbrev xT (x : Cx) : Nat → Nat := x.2.2.2.2.2
abbrev St : Type := (Nat → Int32) × (Nat → Nat → Int32)
def gF (s : St) (k : Nat) : Int32 := s.1 k
def gA (s : St) (k : Nat) (i : Int32) : Int32 := s.2 k i.toNatClampNeg
def stF (s : St) (k : Nat) (v : Int32) : St := (va_up s.1 k v, s.2)
def stC (s : St) (k : Nat) (f : Nat → Int32) : St := (s.1, va_up s.2 k f)
def stA (s : St) (k : Nat) (i : Int32) (v : Int32) : St := stC s k (upd (s.2 k) i.toNatClampNeg v)
def ofs_0 (x : Cx) (s : St) : List Value := [.ref (xa x 1), .ref (xa x 7), .ref (xa x 11), .ref (xa x 13), .ref (xa x 17), .ref (xa x 21), .ref (xa x 24)]
def ofs_1 (x : Cx) (s : St) : List Value := [.int (gF s 100), .ref (xa x 2), .ref (xa x 3), .ref (xa x 4), .ref (xa x 5), .ref (xa x 6)]
def ofs_7 (x : Cx) (s : St) : List Value := [.ref (xa x 8), .int (gF s 701), .int (gF s 702), .ref (xa x 9), .ref (xa x 10), .int (gF s 705), .int (gF s 706), .int (gF s 707), .int (gF s 708)]
def ofs_11 (x : Cx) (s : St) : List Value := [.ref (xa x 12)]
def ofs_13 (x : Cx) (s : St) : List Value := [.ref (xa x 14), .ref (xa x 15), .ref (xa x 16), .int (gF s 1303)]
def ofs_17 (x : Cx) (s : St) : List Value := [.ref (xa x 18), .ref (xa x 19), .ref (xa x 20)]
def ofs_21 (x : Cx) (s : St) : List Value := [.ref (xa x 22), .ref (xa x 23), .int (gF s 2102)]
def ofs_24 (x : Cx) (s : St) : List Value := [.int (gF s 2400), .ref (xa x 25), .ref (xa x 26), .ref (xa x 27), .ref (xa x 28), .ref (xa x 29)]
def ofs_30 (x : Cx) (s : St) : List Value := [.int (gF s 3000), .ref (xa x 31), .ref (xa x 32), .ref (xa x 33), .ref (xa x 34), .ref (xa x 35), .ref (xa x 36), .ref (xa x 37), .ref (xa x 38), .int (gF s 3009), .int (gF s 3010), .ref (xa x 39), .ref (xa x 40), .int (gF s 3013), .int (gF s 3014), .int (gF s 3015), .int (gF s 3016), .int (gF s 3017), .int (gF s 3018), .ref (xa x 41), .ref (xa x 42), .ref (xa x 43), .ref (xa x 44), .ref (xa x 45), .ref (xa x 46), .ref (xa x 47), .ref (xa x 48), .ref (xa x 49), .int (gF s 3028), .ref (xa x 50), .ref (xa x 51), .int (gF s 3031)]
def nCells : Nat := 52
def wd (x : Cx) (s : St) : va_W := [(xa x 0, .inr (7, ofs_0 x s)), (xa x 1, .inr (2, ofs_1 x s)), (xa x 2, .inl (x.2.1 1, 16, .inl (s.2 2))), (xa x 3, .inl (x.2.1 1, 16, .inl (s.2 3))), (xa x 4, .inl (x.2.1 0, 16, .inl (s.2 4))), (xa x 5, .inl (x.2.1 0, 16, .inl (s.2 5))), (xa x 6, .inl (x.2.1 0, 16, .inl (s.2 6))), (xa x 7, .inr (5, ofs_7 x s)), (xa x 8, .inl (x.2.1 2, 100, .inl (s.2 8))), (xa x 9, .inl (x.2.1 0, 4, .inl (s.2 9))), (xa x 10, .inl (x.2.1 0, 4, .inl (s.2 10))), (xa x 11, .inr (0, ofs_11 x s)), (xa x 12, .inl (x.2.1 0, 384, .inl (s.2 12))), (xa x 13, .inr (3, ofs_13 x s)), (xa x 14, .inl (x.2.1 0, 16, .inl (s.2 14))), (xa x 15, .inl (x.2.1 0, 16, .inl (s.2 15))), (xa x 16, .inl (x.2.1 0, 16, .inl (s.2 16))), (xa x 17, .inr (4, ofs_17 x s)), (xa x 18, .inl (x.2.1 0, 4, .inl (s.2 18))), (xa x 19, .inl (x.2.1 0, 4, .inl (s.2 19))), (xa x 20, .inl (x.2.1 0, 240, .inl (s.2 20))), (xa x 21, .inr (6, ofs_21 x s)), (xa x 22, .inl (x.2.1 0, 256, .inl (s.2 22))), (xa x 23, .inl (x.2.1 0, 1024, .inl (s.2 23))), (xa x 24, .inr (1, ofs_24 x s)), (xa x 25, .inl (x.2.1 0, 8, .inl (s.2 25))), (xa x 26, .inl (x.2.1 0, 8, .inl (s.2 26))), (xa x 27, .inl (x.2.1 0, 8, .inl (s.2 27))), (xa x 28, .inl (x.2.1 0, 8, .inl (s.2 28))), (xa x 29, .inl (x.2.1 0, 8, .inl (s.2 29))), (xa x 30, .inr (8, ofs_30 x s)), (xa x 31, .inl (x.2.1 1, 16, .inl (s.2 31))), (xa x 32, .inl (x.2.1 0, 16, .inl (s.2 32))), (xa x 33, .inl (x.2.1 1, 16, .inl (s.2 33))), (xa x 34, .inl (x.2.1 1, 256, .inl (s.2 34))), (xa x 35, .inl (x.2.1 1, 256, .inl (s.2 35))), (xa x 36, .inl (x.2.1 0, 256, .inl (s.2 36))), (xa x 37, .inl (x.2.1 0, 384, .inl (s.2 37))), (xa x 38, .inl (x.2.1 0, 100, .inl (s.2 38))), (xa x 39, .inl (x.2.1 0, 4, .inl (s.2 39))), (xa x 40, .inl (x.2.1 0, 4, .inl (s.2 40))), (xa x 41, .inl (x.2.1 1, 256, .inl (s.2 41))), (xa x 42, .inl (x.2.1 0, 16, .inl (s.2 42))), (xa x 43, .inl (x.2.1 1, 16, .inl (s.2 43))), (xa x 44, .inl (x.2.1 0, 16, .inl (s.2 44))), (xa x 45, .inl (x.2.1 0, 16, .inl (s.2 45))), (xa x 46, .inl (x.2.1 0, 4, .inl (s.2 46))), (xa x 47, .inl (x.2.1 0, 4, .inl (s.2 47))), (xa x 48, .inl (x.2.1 0, 240, .inl (s.2 48))), (xa x 49, .inl (x.2.1 0, 1024, .inl (s.2 49))), (xa x 50, .inl (x.2.1 0, 8, .inl (s.2 50))), (xa x 51, .inl (x.2.1 0, 9, .inl (s.2 51)))]
theorem wd_fst (x : Cx) (s : St) : (wd x s).map Prod.fst = (List.range nCells).map (xa x) := rfl
theorem wd_ad {x : Cx} {s : St} {k : Nat} {q : Nat × va_E} (h : (wd x s)[k]? = some q) : ∃ j : Nat, j < nCells ∧ q.1 = xa x j := by
  have h1 : ((wd x s).map Prod.fst)[k]? = some q.1 := by rw [List.getElem?_map, h]; rfl
  rw [wd_fst, List.getElem?_map] at h1
  cases hr : (List.range nCells)[k]? with
  | none => rw [hr] at h1; cases h1
  | some j =>
    rw [hr] at h1
    exact ⟨j, List.mem_range.mp (List.mem_of_getElem? hr), (Option.some.inj h1).symm⟩
def OBd (q ci : Nat) (f : Cx → St → List Value) : Prop := ∀ x s, (wd x s)[q]? = some (xa x q, .inr (ci, f x s))
def AWd (q t n : Nat) : Prop := (∀ x s, (wd x s)[q]? = some (xa x q, .inl (x.2.1 t, n, .inl (s.2 q)))) ∧ ∀ x s f, (wd x s).set q (xa x q, .inl (x.2.1 t, n, .inl f)) = wd x (stC s q f)
def FL (own : String) (ix ci : Nat) (C : String) (T : u_T) (N sl : Nat) : Prop := (∀ w ∈ u_ws C T N, w ∈ gws) ∧ classes[ci]? = some (C, T, N) ∧ sl < N ∧ Cond.fieldLink own ix (T sl).1 (T sl).2.1 (T sl).2.2.1 ∈ gws
def FLN (own : String) (ix ci : Nat) (C : String) (T : u_T) (N sl : Nat) (ho : String) : Prop := (∀ w ∈ u_ws C T N, w ∈ gws) ∧ classes[ci]? = some (C, T, N) ∧ sl < N ∧ Cond.fieldLinkNest own ix (T sl).1 (T sl).2.1 (T sl).2.2.1 ho ∈ nws
def PLt (T : u_T) (N : Nat) (ty0 : Nat → FieldType) (sl : Nat) (ty : FieldType) : Prop := (∀ k, k < N → parseFieldDescriptor (T k).2.2.1 = some (ty0 k)) ∧ (∀ a, a < N → ∀ b, b < N → a ≠ b → (T a).2.1 ≠ (T b).2.1) ∧ (T sl).2.2.2 = false ∧ parseFieldDescriptor (T sl).2.2.1 = some ty
theorem ob_0 : OBd 0 7 ofs_0 := fun _ _ => rfl
theorem fv_0_0 : ∀ x s, (ofs_0 x s)[0]? = some (.ref (xa x 1)) := fun _ _ => rfl
theorem fv_0_1 : ∀ x s, (ofs_0 x s)[1]? = some (.ref (xa x 7)) := fun _ _ => rfl
theorem fv_0_2 : ∀ x s, (ofs_0 x s)[2]? = some (.ref (xa x 11)) := fun _ _ => rfl
theorem fv_0_3 : ∀ x s, (ofs_0 x s)[3]? = some (.ref (xa x 13)) := fun _ _ => rfl
theorem fv_0_4 : ∀ x s, (ofs_0 x s)[4]? = some (.ref (xa x 17)) := fun _ _ => rfl
theorem fv_0_5 : ∀ x s, (ofs_0 x s)[5]? = some (.ref (xa x 21)) := fun _ _ => rfl
theorem fv_0_6 : ∀ x s, (ofs_0 x s)[6]? = some (.ref (xa x 24)) := fun _ _ => rfl
theorem fn_0 : ∀ x s, (ofs_0 x s).length = 7 := fun _ _ => rfl
theorem ob_1 : OBd 1 2 ofs_1 := fun _ _ => rfl
theorem fv_1_0 : ∀ x s, (ofs_1 x s)[0]? = some (.int (gF s 100)) := fun _ _ => rfl
theorem fs_1_0 : ∀ x s v, (wd x s).set 1 (xa x 1, .inr (2, (ofs_1 x s).set 0 (.int v))) = wd x (stF s 100 v) := fun _ _ _ => rfl
theorem fv_1_1 : ∀ x s, (ofs_1 x s)[1]? = some (.ref (xa x 2)) := fun _ _ => rfl
theorem fv_1_2 : ∀ x s, (ofs_1 x s)[2]? = some (.ref (xa x 3)) := fun _ _ => rfl
theorem fv_1_3 : ∀ x s, (ofs_1 x s)[3]? = some (.ref (xa x 4)) := fun _ _ => rfl
theorem fv_1_4 : ∀ x s, (ofs_1 x s)[4]? = some (.ref (xa x 5)) := fun _ _ => rfl
theorem fv_1_5 : ∀ x s, (ofs_1 x s)[5]? = some (.ref (xa x 6)) := fun _ _ => rfl
theorem fn_1 : ∀ x s, (ofs_1 x s).length = 6 := fun _ _ => rfl
theorem ob_7 : OBd 7 5 ofs_7 := fun _ _ => rfl
theorem fv_7_0 : ∀ x s, (ofs_7 x s)[0]? = some (.ref (xa x 8)) := fun _ _ => rfl
theorem fv_7_1 : ∀ x s, (ofs_7 x s)[1]? = some (.int (gF s 701)) := fun _ _ => rfl
theorem fs_7_1 : ∀ x s v, (wd x s).set 7 (xa x 7, .inr (5, (ofs_7 x s).set 1 (.int v))) = wd x (stF s 701 v) := fun _ _ _ => rfl
theorem fv_7_2 : ∀ x s, (ofs_7 x s)[2]? = some (.int (gF s 702)) := fun _ _ => rfl
theorem fs_7_2 : ∀ x s v, (wd x s).set 7 (xa x 7, .inr (5, (ofs_7 x s).set 2 (.int v))) = wd x (stF s 702 v) := fun _ _ _ => rfl
theorem fv_7_3 : ∀ x s, (ofs_7 x s)[3]? = some (.ref (xa x 9)) := fun _ _ => rfl
theorem fv_7_4 : ∀ x s, (ofs_7 x s)[4]? = some (.ref (xa x 10)) := fun _ _ => rfl
theorem fv_7_5 : ∀ x s, (ofs_7 x s)[5]? = some (.int (gF s 705)) := fun _ _ => rfl
theorem fs_7_5 : ∀ x s v, (wd x s).set 7 (xa x 7, .inr (5, (ofs_7 x s).set 5 (.int v))) = wd x (stF s 705 v) := fun _ _ _ => rfl
theorem fv_7_6 : ∀ x s, (ofs_7 x s)[6]? = some (.int (gF s 706)) := fun _ _ => rfl
theorem fs_7_6 : ∀ x s v, (wd x s).set 7 (xa x 7, .inr (5, (ofs_7 x s).set 6 (.int v))) = wd x (stF s 706 v) := fun _ _ _ => rfl
theorem fv_7_7 : ∀ x s, (ofs_7 x s)[7]? = some (.int (gF s 707)) := fun _ _ => rfl
theorem fs_7_7 : ∀ x s v, (wd x s).set 7 (xa x 7, .inr (5, (ofs_7 x s).set 7 (.int v))) = wd x (stF s 707 v) := fun _ _ _ => rfl
theorem fv_7_8 : ∀ x s, (ofs_7 x s)[8]? = some (.int (gF s 708)) := fun _ _ => rfl
theorem fs_7_8 : ∀ x s v, (wd x s).set 7 (xa x 7, .inr (5, (ofs_7 x s).set 8 (.int v))) = wd x (stF s 708 v) := fun _ _ _ => rfl
theorem fn_7 : ∀ x s, (ofs_7 x s).length = 9 := fun _ _ => rfl
theorem ob_11 : OBd 11 0 ofs_11 := fun _ _ => rfl
theorem fv_11_0 : ∀ x s, (ofs_11 x s)[0]? = some (.ref (xa x 12)) := fun _ _ => rfl
theorem fn_11 : ∀ x s, (ofs_11 x s).length = 1 := fun _ _ => rfl
theorem ob_13 : OBd 13 3 ofs_13 := fun _ _ => rfl
theorem fv_13_0 : ∀ x s, (ofs_13 x s)[0]? = some (.ref (xa x 14)) := fun _ _ => rfl
theorem fv_13_1 : ∀ x s, (ofs_13 x s)[1]? = some (.ref (xa x 15)) := fun _ _ => rfl
theorem fv_13_2 : ∀ x s, (ofs_13 x s)[2]? = some (.ref (xa x 16)) := fun _ _ => rfl
theorem fv_13_3 : ∀ x s, (ofs_13 x s)[3]? = some (.int (gF s 1303)) := fun _ _ => rfl
theorem fs_13_3 : ∀ x s v, (wd x s).set 13 (xa x 13, .inr (3, (ofs_13 x s).set 3 (.int v))) = wd x (stF s 1303 v) := fun _ _ _ => rfl
theorem fn_13 : ∀ x s, (ofs_13 x s).length = 4 := fun _ _ => rfl
theorem ob_17 : OBd 17 4 ofs_17 := fun _ _ => rfl
theorem fv_17_0 : ∀ x s, (ofs_17 x s)[0]? = some (.ref (xa x 18)) := fun _ _ => rfl
theorem fv_17_1 : ∀ x s, (ofs_17 x s)[1]? = some (.ref (xa x 19)) := fun _ _ => rfl
theorem fv_17_2 : ∀ x s, (ofs_17 x s)[2]? = some (.ref (xa x 20)) := fun _ _ => rfl
theorem fn_17 : ∀ x s, (ofs_17 x s).length = 3 := fun _ _ => rfl
theorem ob_21 : OBd 21 6 ofs_21 := fun _ _ => rfl
theorem fv_21_0 : ∀ x s, (ofs_21 x s)[0]? = some (.ref (xa x 22)) := fun _ _ => rfl
theorem fv_21_1 : ∀ x s, (ofs_21 x s)[1]? = some (.ref (xa x 23)) := fun _ _ => rfl
theorem fv_21_2 : ∀ x s, (ofs_21 x s)[2]? = some (.int (gF s 2102)) := fun _ _ => rfl
theorem fs_21_2 : ∀ x s v, (wd x s).set 21 (xa x 21, .inr (6, (ofs_21 x s).set 2 (.int v))) = wd x (stF s 2102 v) := fun _ _ _ => rfl
theorem fn_21 : ∀ x s, (ofs_21 x s).length = 3 := fun _ _ => rfl
theorem ob_24 : OBd 24 1 ofs_24 := fun _ _ => rfl
theorem fv_24_0 : ∀ x s, (ofs_24 x s)[0]? = some (.int (gF s 2400)) := fun _ _ => rfl
theorem fs_24_0 : ∀ x s v, (wd x s).set 24 (xa x 24, .inr (1, (ofs_24 x s).set 0 (.int v))) = wd x (stF s 2400 v) := fun _ _ _ => rfl
theorem fv_24_1 : ∀ x s, (ofs_24 x s)[1]? = some (.ref (xa x 25)) := fun _ _ => rfl
theorem fv_24_2 : ∀ x s, (ofs_24 x s)[2]? = some (.ref (xa x 26)) := fun _ _ => rfl
theorem fv_24_3 : ∀ x s, (ofs_24 x s)[3]? = some (.ref (xa x 27)) := fun _ _ => rfl
theorem fv_24_4 : ∀ x s, (ofs_24 x s)[4]? = some (.ref (xa x 28)) := fun _ _ => rfl
theorem fv_24_5 : ∀ x s, (ofs_24 x s)[5]? = some (.ref (xa x 29)) := fun _ _ => rfl
theorem fn_24 : ∀ x s, (ofs_24 x s).length = 6 := fun _ _ => rfl
theorem ob_30 : OBd 30 8 ofs_30 := fun _ _ => rfl
theorem fv_30_0 : ∀ x s, (ofs_30 x s)[0]? = some (.int (gF s 3000)) := fun _ _ => rfl
theorem fs_30_0 : ∀ x s v, (wd x s).set 30 (xa x 30, .inr (8, (ofs_30 x s).set 0 (.int v))) = wd x (stF s 3000 v) := fun _ _ _ => rfl
theorem fv_30_1 : ∀ x s, (ofs_30 x s)[1]? = some (.ref (xa x 31)) := fun _ _ => rfl
theorem fv_30_2 : ∀ x s, (ofs_30 x s)[2]? = some (.ref (xa x 32)) := fun _ _ => rfl
theorem fv_30_3 : ∀ x s, (ofs_30 x s)[3]? = some (.ref (xa x 33)) := fun _ _ => rfl
theorem fv_30_4 : ∀ x s, (ofs_30 x s)[4]? = some (.ref (xa x 34)) := fun _ _ => rfl
theorem fv_30_5 : ∀ x s, (ofs_30 x s)[5]? = some (.ref (xa x 35)) := fun _ _ => rfl
theorem fv_30_6 : ∀ x s, (ofs_30 x s)[6]? = some (.ref (xa x 36)) := fun _ _ => rfl
theorem fv_30_7 : ∀ x s, (ofs_30 x s)[7]? = some (.ref (xa x 37)) := fun _ _ => rfl
theorem fv_30_8 : ∀ x s, (ofs_30 x s)[8]? = some (.ref (xa x 38)) := fun _ _ => rfl
theorem fv_30_9 : ∀ x s, (ofs_30 x s)[9]? = some (.int (gF s 3009)) := fun _ _ => rfl
theorem fs_30_9 : ∀ x s v, (wd x s).set 30 (xa x 30, .inr (8, (ofs_30 x s).set 9 (.int v))) = wd x (stF s 3009 v) := fun _ _ _ => rfl
theorem fv_30_10 : ∀ x s, (ofs_30 x s)[10]? = some (.int (gF s 3010)) := fun _ _ => rfl
theorem fs_30_10 : ∀ x s v, (wd x s).set 30 (xa x 30, .inr (8, (ofs_30 x s).set 10 (.int v))) = wd x (stF s 3010 v) := fun _ _ _ => rfl
theorem fv_30_11 : ∀ x s, (ofs_30 x s)[11]? = some (.ref (xa x 39)) := fun _ _ => rfl
theorem fv_30_12 : ∀ x s, (ofs_30 x s)[12]? = some (.ref (xa x 40)) := fun _ _ => rfl
theorem fv_30_13 : ∀ x s, (ofs_30 x s)[13]? = some (.int (gF s 3013)) := fun _ _ => rfl
theorem fs_30_13 : ∀ x s v, (wd x s).set 30 (xa x 30, .inr (8, (ofs_30 x s).set 13 (.int v))) = wd x (stF s 3013 v) := fun _ _ _ => rfl
theorem fv_30_14 : ∀ x s, (ofs_30 x s)[14]? = some (.int (gF s 3014)) := fun _ _ => rfl
theorem fs_30_14 : ∀ x s v, (wd x s).set 30 (xa x 30, .inr (8, (ofs_30 x s).set 14 (.int v))) = wd x (stF s 3014 v) := fun _ _ _ => rfl
theorem fv_30_15 : ∀ x s, (ofs_30 x s)[15]? = some (.int (gF s 3015)) := fun _ _ => rfl
theorem fs_30_15 : ∀ x s v, (wd x s).set 30 (xa x 30, .inr (8, (ofs_30 x s).set 15 (.int v))) = wd x (stF s 3015 v) := fun _ _ _ => rfl
theorem fv_30_16 : ∀ x s, (ofs_30 x s)[16]? = some (.int (gF s 3016)) := fun _ _ => rfl
theorem fs_30_16 : ∀ x s v, (wd x s).set 30 (xa x 30, .inr (8, (ofs_30 x s).set 16 (.int v))) = wd x (stF s 3016 v) := fun _ _ _ => rfl
theorem fv_30_17 : ∀ x s, (ofs_30 x s)[17]? = some (.int (gF s 3017)) := fun _ _ => rfl
theorem fs_30_17 : ∀ x s v, (wd x s).set 30 (xa x 30, .inr (8, (ofs_30 x s).set 17 (.int v))) = wd x (stF s 3017 v) := fun _ _ _ => rfl
theorem fv_30_18 : ∀ x s, (ofs_30 x s)[18]? = some (.int (gF s 3018)) := fun _ _ => rfl
theorem fs_30_18 : ∀ x s v, (wd x s).set 30 (xa x 30, .inr (8, (ofs_30 x s).set 18 (.int v))) = wd x (stF s 3018 v) := fun _ _ _ => rfl
theorem fv_30_19 : ∀ x s, (ofs_30 x s)[19]? = some (.ref (xa x 41)) := fun _ _ => rfl
theorem fv_30_20 : ∀ x s, (ofs_30 x s)[20]? = some (.ref (xa x 42)) := fun _ _ => rfl
theorem fv_30_21 : ∀ x s, (ofs_30 x s)[21]? = some (.ref (xa x 43)) := fun _ _ => rfl
theorem fv_30_22 : ∀ x s, (ofs_30 x s)[22]? = some (.ref (xa x 44)) := fun _ _ => rfl
theorem fv_30_23 : ∀ x s, (ofs_30 x s)[23]? = some (.ref (xa x 45)) := fun _ _ => rfl
theorem fv_30_24 : ∀ x s, (ofs_30 x s)[24]? = some (.ref (xa x 46)) := fun _ _ => rfl
theorem fv_30_25 : ∀ x s, (ofs_30 x s)[25]? = some (.ref (xa x 47)) := fun _ _ => rfl
theorem fv_30_26 : ∀ x s, (ofs_30 x s)[26]? = some (.ref (xa x 48)) := fun _ _ => rfl
theorem fv_30_27 : ∀ x s, (ofs_30 x s)[27]? = some (.ref (xa x 49)) := fun _ _ => rfl
theorem fv_30_28 : ∀ x s, (ofs_30 x s)[28]? = some (.int (gF s 3028)) := fun _ _ => rfl
theorem fs_30_28 : ∀ x s v, (wd x s).set 30 (xa x 30, .inr (8, (ofs_30 x s).set 28 (.int v))) = wd x (stF s 3028 v) := fun _ _ _ => rfl
theorem fv_30_29 : ∀ x s, (ofs_30 x s)[29]? = some (.ref (xa x 50)) := fun _ _ => rfl
theorem fv_30_30 : ∀ x s, (ofs_30 x s)[30]? = some (.ref (xa x 51)) := fun _ _ => rfl
theorem fv_30_31 : ∀ x s, (ofs_30 x s)[31]? = some (.int (gF s 3031)) := fun _ _ => rfl
theorem fs_30_31 : ∀ x s v, (wd x s).set 30 (xa x 30, .inr (8, (ofs_30 x s).set 31 (.int v))) = wd x (stF s 3031 v) := fun _ _ _ => rfl
theorem fn_30 : ∀ x s, (ofs_30 x s).length = 32 := fun _ _ => rfl
theorem aw_2 : AWd 2 1 16 := ⟨fun _ _ => rfl, fun _ _ _ => rfl⟩
theorem aw_3 : AWd 3 1 16 := ⟨fun _ _ => rfl, fun _ _ _ => rfl⟩
theorem aw_4 : AWd 4 0 16 := ⟨fun _ _ => rfl, fun _ _ _ => rfl⟩
theorem aw_5 : AWd 5 0 16 := ⟨fun _ _ => rfl, fun _ _ _ => rfl⟩
theorem aw_6 : AWd 6 0 16 := ⟨fun _ _ => rfl, fun _ _ _ => rfl⟩
theorem aw_8 : AWd 8 2 100 := ⟨fun _ _ => rfl, fun _ _ _ => rfl⟩
theorem aw_9 : AWd 9 0 4 := ⟨fun _ _ => rfl, fun _ _ _ => rfl⟩
theorem aw_10 : AWd 10 0 4 := ⟨fun _ _ => rfl, fun _ _ _ => rfl⟩
theorem aw_12 : AWd 12 0 384 := ⟨fun _ _ => rfl, fun _ _ _ => rfl⟩
theorem aw_14 : AWd 14 0 16 := ⟨fun _ _ => rfl, fun _ _ _ => rfl⟩
theorem aw_15 : AWd 15 0 16 := ⟨fun _ _ => rfl, fun _ _ _ => rfl⟩
theorem aw_16 : AWd 16 0 16 := ⟨fun _ _ => rfl, fun _ _ _ => rfl⟩
theorem aw_18 : AWd 18 0 4 := ⟨fun _ _ => rfl, fun _ _ _ => rfl⟩
theorem aw_19 : AWd 19 0 4 := ⟨fun _ _ => rfl, fun _ _ _ => rfl⟩
theorem aw_20 : AWd 20 0 240 := ⟨fun _ _ => rfl, fun _ _ _ => rfl⟩
theorem aw_22 : AWd 22 0 256 := ⟨fun _ _ => rfl, fun _ _ _ => rfl⟩
theorem aw_23 : AWd 23 0 1024 := ⟨fun _ _ => rfl, fun _ _ _ => rfl⟩
theorem aw_25 : AWd 25 0 8 := ⟨fun _ _ => rfl, fun _ _ _ => rfl⟩
theorem aw_26 : AWd 26 0 8 := ⟨fun _ _ => rfl, fun _ _ _ => rfl⟩
theorem aw_27 : AWd 27 0 8 := ⟨fun _ _ => rfl, fun _ _ _ => rfl⟩
theorem aw_28 : AWd 28 0 8 := ⟨fun _ _ => rfl, fun _ _ _ => rfl⟩
theorem aw_29 : AWd 29 0 8 := ⟨fun _ _ => rfl, fun _ _ _ => rfl⟩
theorem aw_31 : AWd 31 1 16 := ⟨fun _ _ => rfl, fun _ _ _ => rfl⟩
theorem aw_32 : AWd 32 0 16 := ⟨fun _ _ => rfl, fun _ _ _ => rfl⟩
theorem aw_33 : AWd 33 1 16 := ⟨fun _ _ => rfl, fun _ _ _ => rfl⟩
theorem aw_34 : AWd 34 1 256 := ⟨fun _ _ => rfl, fun _ _ _ => rfl⟩
theorem aw_35 : AWd 35 1 256 := ⟨fun _ _ => rfl, fun _ _ _ => rfl⟩
theorem aw_36 : AWd 36 0 256 := ⟨fun _ _ => rfl, fun _ _ _ => rfl⟩
theorem aw_37 : AWd 37 0 384 := ⟨fun _ _ => rfl, fun _ _ _ => rfl⟩
theorem aw_38 : AWd 38 0 100 := ⟨fun _ _ => rfl, fun _ _ _ => rfl⟩
theorem aw_39 : AWd 39 0 4 := ⟨fun _ _ => rfl, fun _ _ _ => rfl⟩
theorem aw_40 : AWd 40 0 4 := ⟨fun _ _ => rfl, fun _ _ _ => rfl⟩
theorem aw_41 : AWd 41 1 256 := ⟨fun _ _ => rfl, fun _ _ _ => rfl⟩
theorem aw_42 : AWd 42 0 16 := ⟨fun _ _ => rfl, fun _ _ _ => rfl⟩
theorem aw_43 : AWd 43 1 16 := ⟨fun _ _ => rfl, fun _ _ _ => rfl⟩
theorem aw_44 : AWd 44 0 16 := ⟨fun _ _ => rfl, fun _ _ _ => rfl⟩
theorem aw_45 : AWd 45 0 16 := ⟨fun _ _ => rfl, fun _ _ _ => rfl⟩
theorem aw_46 : AWd 46 0 4 := ⟨fun _ _ => rfl, fun _ _ _ => rfl⟩
theorem aw_47 : AWd 47 0 4 := ⟨fun _ _ => rfl, fun _ _ _ => rfl⟩
theorem aw_48 : AWd 48 0 240 := ⟨fun _ _ => rfl, fun _ _ _ => rfl⟩
theorem aw_49 : AWd 49 0 1024 := ⟨fun _ _ => rfl, fun _ _ _ => rfl⟩
theorem aw_50 : AWd 50 0 8 := ⟨fun _ _ => rfl, fun _ _ _ => rfl⟩
theorem aw_51 : AWd 51 0 9 := ⟨fun _ _ => rfl, fun _ _ _ => rfl⟩
end
section
/-! The judgement of a method's walk over the one world, and its rows -/
theorem mem_g {w : Cond} {i : Nat} (h : tables_1[i]? = some w) (hg : goodWord w = true) : w ∈ gws := List.mem_filter.mpr ⟨List.mem_append_right _ (List.mem_of_getElem? h), hg⟩
theorem mem_s {q : MethodName × Nat} {i : Nat} (h : lw_privs[i]? = some q) (hg : goodWord (Cond.selects q.1.cls q.1 q.1) = true) : Cond.selects q.1.cls q.1 q.1 ∈ gws := List.mem_filter.mpr ⟨List.mem_append_left _ (List.mem_map.mpr ⟨q, List.mem_of_getElem? h, rfl⟩), hg⟩
theorem mem_n {w : Cond} {i : Nat} (h : tables_1[i]? = some w) (hg : isNest w = true) : w ∈ nws := List.mem_filter.mpr ⟨List.mem_append_right _ (List.mem_of_getElem? h), hg⟩
theorem good_g : ∀ w ∈ gws, (w.onTables && w.keeps) = true ∨ ∃ ty, w = .arrayClass ty := fun w hw => good_of_word (List.mem_filter.mp hw).2
theorem good_ws {w : Cond} (h : w ∈ gws) : GoodIn gws (w :: gws) := fun v hv => (List.mem_cons.mp hv).elim (fun e => e ▸ ⟨h, good_g _ h⟩) (fun h2 => ⟨h2, good_g _ h2⟩)
theorem nest_warm {s U : State} (hW : s.WarmedH U.vm) {w : Cond} (hw : isNest w = true) (h : va_Nw w s) : va_Nw w U := by
  cases w <;> first | exact va_Nw.warmF hW h | exact va_Nw.warmM hW h | (exact absurd hw Bool.false_ne_true)
theorem nest_tab {w : Cond} (hw : isNest w = true) : w.onTables = true := by
  cases w <;> first | rfl | (exact absurd hw Bool.false_ne_true)
/-- what lies outside the world and is only read: the links to nest mates, the static arrays, the text constants -/
def EX (x : Cx) (A : Nat → Prop) (U : State) (H : Heap) : Prop :=
  (∀ w ∈ nws, va_Nw w U) ∧ (va_Z "DanceCards$Tape" "LEAST" "[I" (.ref (xT x 0)) A U H ∧ va_T .int (xT x 0) 4 (fun j => .int (c_LEAST j)) A U H) ∧ (va_Z "DanceCards$Tape" "MOST" "[I" (.ref (xT x 1)) A U H ∧ va_T .int (xT x 1) 4 (fun j => .int (c_MOST j)) A U H) ∧ va_Z "java/lang/String" "COMPACT_STRINGS" "Z" (.int 1) A U H ∧ va_Zq "jdk/internal/util/Preconditions" "SIOOBE_FORMATTER" "Ljava/util/function/BiFunction;" A U H ∧ (∀ k, k < 4 → vk_R "DanceCards$Tape" (s_ix k) (s_tx k) (xK x k) U) ∧ vk_S 4 s_len s_byt (xK x) (xV x) A U H
theorem Zq_moved {C n d : String} {A : Nat → Prop} {u U : State} {H : Heap} (hvm : u.vm.Alike U.vm) (h : va_Zq C n d A u H) : va_Zq C n d A U H := h.elim (fun h => Or.inl (va_Z.moved hvm h)) (fun ⟨t, h⟩ => Or.inr ⟨t, va_Z.moved hvm h⟩)
theorem Zq_kept {C n d : String} {A : Nat → Prop} {U : State} {H H1 : Heap} (h : va_Zq C n d A U H) (hq : ∀ a : Nat, a < H.size → ¬ A a → H1[a]? = H[a]?) : va_Zq C n d A U H1 := h.elim (fun h => Or.inl (h.kept hq)) (fun ⟨t, h⟩ => Or.inr ⟨t, h.kept hq⟩)
theorem Zq_narrow {C n d : String} {A B : Nat → Prop} {U : State} {H : Heap} (h : va_Zq C n d A U H) (hAB : ∀ q, B q → A q) : va_Zq C n d B U H := h.elim (fun h => Or.inl (h.narrow hAB)) (fun ⟨t, h⟩ => Or.inr ⟨t, h.narrow hAB⟩)
theorem EX.tr {x : Cx} {A B : Nat → Prop} {s U : State} {H H1 : Heap} (h : EX x A s H) (hW : s.WarmedH U.vm) (hq : ∀ a : Nat, a < H.size → ¬ A a → H1[a]? = H[a]?) (hAB : ∀ q, B q → A q) : EX x B U H1 := by
  obtain ⟨h1, ⟨h2, h3⟩, ⟨h4, h5⟩, h6, h7, h8, h9⟩ := h
  have al := hW.alike
  exact ⟨fun w hw => nest_warm hW (List.mem_filter.mp hw).2 (h1 w hw), ⟨((va_Z.moved al h2).kept hq).narrow hAB, ((va_T.moved al h3).kept hq).narrow hAB⟩, ⟨((va_Z.moved al h4).kept hq).narrow hAB, ((va_T.moved al h5).kept hq).narrow hAB⟩, ((va_Z.moved al h6).kept hq).narrow hAB, Zq_narrow (Zq_kept (Zq_moved al h7) hq) hAB, fun k hk => (h8 k hk).warm hW, ((vk_S.moved al h9).kept hq).narrow hAB⟩
theorem EX.same {x : Cx} {A : Nat → Prop} {u U : State} {H : Heap} (h : EX x A u H) (hv : U.vm = u.vm) : EX x A U H := by
  obtain ⟨h1, ⟨h2, h3⟩, ⟨h4, h5⟩, h6, h7, h8, h9⟩ := h
  have al : u.vm.Alike U.vm := hv ▸ Vm.Alike.refl _
  exact ⟨fun w hw => va_Nw.same (nest_tab (List.mem_filter.mp hw).2) hv.symm (h1 w hw), ⟨va_Z.moved al h2, va_T.moved al h3⟩, ⟨va_Z.moved al h4, va_T.moved al h5⟩, va_Z.moved al h6, Zq_moved al h7, fun k hk => (h8 k hk).same hv, vk_S.moved al h9⟩
/-- which cells may change: the world's, and new ones -/
def AS (x : Cx) (sz : Nat) : Nat → Prop := fun q => (∃ k : Nat, k < nCells ∧ q = xa x k) ∨ sz ≤ q
theorem AS.mono {x : Cx} {a b : Nat} (h : a ≤ b) {q : Nat} (hq : AS x b q) : AS x a q := hq.elim Or.inl (fun h2 => Or.inr (Nat.le_trans h h2))
abbrev tyx (x : Cx) : List (ClassId × FieldType) := [(x.2.1 0, .int), (x.2.1 1, .boolean), (x.2.1 2, .byte)]
theorem wd_AS {x : Cx} {s : St} {sz : Nat} {B : Nat → Prop} (h : va_D B (wd x s)) : va_D (AS x sz) (wd x s) := ⟨h.1, fun k q hk => Or.inl (wd_ad hk)⟩
abbrev Kt : Type := Program × Launch × Env × Room × State × MethodId × Array Value × List Frame × Method × Code × Cx × (State → Prop) × Nat × Nat
abbrev kp (κ : Kt) : Program := κ.1
abbrev kl (κ : Kt) : Launch := κ.2.1
abbrev ke (κ : Kt) : Env := κ.2.2.1
abbrev kR (κ : Kt) : Room := κ.2.2.2.1
abbrev ks (κ : Kt) : State := κ.2.2.2.2.1
abbrev km (κ : Kt) : MethodId := κ.2.2.2.2.2.1
abbrev kar (κ : Kt) : Array Value := κ.2.2.2.2.2.2.1
abbrev kbe (κ : Kt) : List Frame := κ.2.2.2.2.2.2.2.1
abbrev kme (κ : Kt) : Method := κ.2.2.2.2.2.2.2.2.1
abbrev kc (κ : Kt) : Code := κ.2.2.2.2.2.2.2.2.2.1
abbrev kx (κ : Kt) : Cx := κ.2.2.2.2.2.2.2.2.2.2.1
abbrev kQ (κ : Kt) : State → Prop := κ.2.2.2.2.2.2.2.2.2.2.2.1
abbrev kcl (κ : Kt) : Nat := κ.2.2.2.2.2.2.2.2.2.2.2.2.1
abbrev ksl (κ : Kt) : Nat := κ.2.2.2.2.2.2.2.2.2.2.2.2.2
abbrev kA (κ : Kt) : Nat → Prop := AS (kx κ) (ks κ).heap.size
def GW (κ : Kt) (pc : Nat) (lv : List (Nat × Value)) (st : List Value) (s : St) : Prop := ∀ (ls : Array Slot) (H : Heap) (locs : List Loc), lv_has ls (kc κ).maxLocals lv → va_P (kx κ).1 classes (wd (kx κ) s) H → va_D (kA κ) (wd (kx κ) s) → va_S (kA κ) (ks κ).heap H locs →
  W (kp κ) (kl κ) (ke κ) (kR κ) (ks κ) (km κ) (kar κ) (kbe κ) (kme κ) (kc κ) H locs (kcl κ) (ksl κ) (kQ κ) (F0 (km κ) pc ls st)
def Bs (κ : Kt) (cc : ByteArray) (own : String) (nL d : Nat) : Prop :=
  (kp κ).tables.exec = Jvm.exec ∧ (kc κ).code = cc ∧ (kc κ).maxLocals = nL ∧ (ks κ).vm.findClass own = some (km κ).cls ∧ (∀ w ∈ gws, w.before (kar κ) (ks κ) = true) ∧ va_K (kx κ).1 classes (tyx (kx κ)) (ks κ) ∧ EX (kx κ) (kA κ) (ks κ) (ks κ).heap ∧ (kme κ).locks = false ∧ (d ≤ (kR κ).frames ∧ 60 * d ≤ (kR κ).locals) ∧ kcl κ ≤ (kR κ).cells ∧ ksl κ ≤ (kR κ).slots
theorem it_t {c : Prop} [Decidable c] {T1 T2 : Prop} (hc : c) (h : if c then T1 else T2) : T1 := by rw [if_pos hc] at h; exact h
theorem it_f {c : Prop} [Decidable c] {T1 T2 : Prop} (hc : ¬ c) (h : if c then T1 else T2) : T2 := by rw [if_neg hc] at h; exact h
section GR
variable {κ : Kt} {cc : ByteArray} {own : String} {nL d : Nat} {pc : Nat} {lv lv' : List (Nat × Value)} {st : List Value} {s : St}
/-- fewer locals -/
theorem R_sub (ks : List Nat) (hl : lv_pick lv ks = lv') (k : GW κ pc lv' st s) : GW κ pc lv st s := fun ls H locs h hP hD hS => k ls H locs (lv_sub h ks hl) hP hD hS
theorem R_iload_n (B : Bs κ cc own nL d) {j : Fin 4} (a : Nat) {i : Nat} {v : Int32} (hd : decode cc pc = .ok (.iload_n j, 1)) (hj : (j : Nat) = i) (hk : lv[a]? = some (i, .int v)) (k : GW κ (pc + 1) lv (.int v :: st) s) : GW κ pc lv st s := fun ls H locs h hP hD hS => lv_iload_n B.1 B.2.1 hd hj (lv_at h a hk) (k ls H locs h hP hD hS)
theorem R_iload (B : Bs κ cc own nL d) (a : Nat) {i : Nat} {v : Int32} (hd : decode cc pc = .ok (.iload i, 2)) (hk : lv[a]? = some (i, .int v)) (k : GW κ (pc + 2) lv (.int v :: st) s) : GW κ pc lv st s := fun ls H locs h hP hD hS => lv_iload B.1 B.2.1 hd (lv_at h a hk) (k ls H locs h hP hD hS)
theorem R_lload_n (B : Bs κ cc own nL d) {j : Fin 4} (a : Nat) {i : Nat} {v : Int64} (hd : decode cc pc = .ok (.lload_n j, 1)) (hj : (j : Nat) = i) (hk : lv[a]? = some (i, .long v)) (k : GW κ (pc + 1) lv (.long v :: st) s) : GW κ pc lv st s := fun ls H locs h hP hD hS => lv_lload_n B.1 B.2.1 hd hj (lv_at h a hk) (k ls H locs h hP hD hS)
theorem R_lload (B : Bs κ cc own nL d) (a : Nat) {i : Nat} {v : Int64} (hd : decode cc pc = .ok (.lload i, 2)) (hk : lv[a]? = some (i, .long v)) (k : GW κ (pc + 2) lv (.long v :: st) s) : GW κ pc lv st s := fun ls H locs h hP hD hS => lv_lload B.1 B.2.1 hd (lv_at h a hk) (k ls H locs h hP hD hS)
theorem R_aload_n (B : Bs κ cc own nL d) {j : Fin 4} (a : Nat) {i : Nat} {v : Nat} (hd : decode cc pc = .ok (.aload_n j, 1)) (hj : (j : Nat) = i) (hk : lv[a]? = some (i, .ref v)) (k : GW κ (pc + 1) lv (.ref v :: st) s) : GW κ pc lv st s := fun ls H locs h hP hD hS => lv_aload_n B.1 B.2.1 hd hj (lv_at h a hk) (k ls H locs h hP hD hS)
theorem R_aload (B : Bs κ cc own nL d) (a : Nat) {i : Nat} {v : Nat} (hd : decode cc pc = .ok (.aload i, 2)) (hk : lv[a]? = some (i, .ref v)) (k : GW κ (pc + 2) lv (.ref v :: st) s) : GW κ pc lv st s := fun ls H locs h hP hD hS => lv_aload B.1 B.2.1 hd (lv_at h a hk) (k ls H locs h hP hD hS)
theorem R_istore_n (B : Bs κ cc own nL d) {j : Fin 4} {i : Nat} {v : Int32} (hd : decode cc pc = .ok (.istore_n j, 1)) (hj : (j : Nat) = i) (hn : i < nL) (hl : (i, Value.int v) :: lv.filter (fun q => !(q.1 == i) && !(q.1 + 1 == i && q.2.category == 2)) = lv') (k : GW κ (pc + 1) lv' st s) : GW κ pc lv (.int v :: st) s := fun ls H locs h hP hD hS => lv_istore_n B.1 B.2.1 hd hj h (B.2.2.1.symm ▸ hn) hl (fun ls h => k ls H locs h hP hD hS)
theorem R_istore (B : Bs κ cc own nL d) {i : Nat} {v : Int32} (hd : decode cc pc = .ok (.istore i, 2)) (hn : i < nL) (hl : (i, Value.int v) :: lv.filter (fun q => !(q.1 == i) && !(q.1 + 1 == i && q.2.category == 2)) = lv') (k : GW κ (pc + 2) lv' st s) : GW κ pc lv (.int v :: st) s := fun ls H locs h hP hD hS => lv_istore B.1 B.2.1 hd h (B.2.2.1.symm ▸ hn) hl (fun ls h => k ls H locs h hP hD hS)
theorem R_astore_n (B : Bs κ cc own nL d) {j : Fin 4} {i : Nat} {v : Nat} (hd : decode cc pc = .ok (.astore_n j, 1)) (hj : (j : Nat) = i) (hn : i < nL) (hl : (i, Value.ref v) :: lv.filter (fun q => !(q.1 == i) && !(q.1 + 1 == i && q.2.category == 2)) = lv') (k : GW κ (pc + 1) lv' st s) : GW κ pc lv (.ref v :: st) s := fun ls H locs h hP hD hS => lv_astore_n B.1 B.2.1 hd hj h (B.2.2.1.symm ▸ hn) hl (fun ls h => k ls H locs h hP hD hS)
theorem R_astore (B : Bs κ cc own nL d) {i : Nat} {v : Nat} (hd : decode cc pc = .ok (.astore i, 2)) (hn : i < nL) (hl : (i, Value.ref v) :: lv.filter (fun q => !(q.1 == i) && !(q.1 + 1 == i && q.2.category == 2)) = lv') (k : GW κ (pc + 2) lv' st s) : GW κ pc lv (.ref v :: st) s := fun ls H locs h hP hD hS => lv_astore B.1 B.2.1 hd h (B.2.2.1.symm ▸ hn) hl (fun ls h => k ls H locs h hP hD hS)
theorem R_lstore_n (B : Bs κ cc own nL d) {j : Fin 4} {i : Nat} {v : Int64} (hd : decode cc pc = .ok (.lstore_n j, 1)) (hj : (j : Nat) = i) (hn : i + 1 < nL) (hl : (i, Value.long v) :: lv.filter (fun q => !(q.1 == i) && (!(q.1 == i + 1) && !(q.1 + 1 == i && q.2.category == 2))) = lv') (k : GW κ (pc + 1) lv' st s) : GW κ pc lv (.long v :: st) s := fun ls H locs h hP hD hS => lv_lstore_n B.1 B.2.1 hd hj h (B.2.2.1.symm ▸ hn) hl (fun ls h => k ls H locs h hP hD hS)
theorem R_lstore (B : Bs κ cc own nL d) {i : Nat} {v : Int64} (hd : decode cc pc = .ok (.lstore i, 2)) (hn : i + 1 < nL) (hl : (i, Value.long v) :: lv.filter (fun q => !(q.1 == i) && (!(q.1 == i + 1) && !(q.1 + 1 == i && q.2.category == 2))) = lv') (k : GW κ (pc + 2) lv' st s) : GW κ pc lv (.long v :: st) s := fun ls H locs h hP hD hS => lv_lstore B.1 B.2.1 hd h (B.2.2.1.symm ▸ hn) hl (fun ls h => k ls H locs h hP hD hS)
theorem R_iinc (B : Bs κ cc own nL d) (a : Nat) {i : Nat} {n : Int} {u v : Int32} (hd : decode cc pc = .ok (.iinc i n, 3)) (hk : lv[a]? = some (i, .int u)) (hv : u + Int32.ofInt n = v) (hn : i < nL) (hl : (i, Value.int v) :: lv.filter (fun q => !(q.1 == i) && !(q.1 + 1 == i && q.2.category == 2)) = lv') (k : GW κ (pc + 3) lv' st s) : GW κ pc lv st s := fun ls H locs h hP hD hS => lv_iinc B.1 B.2.1 hd h hk hv (B.2.2.1.symm ▸ hn) hl (fun ls h => k ls H locs h hP hD hS)
theorem R_iconst (B : Bs κ cc own nL d) {n : Int} {v : Int32} (hd : decode cc pc = .ok (.iconst n, 1)) (hv : Int32.ofInt n = v) (k : GW κ (pc + 1) lv (.int v :: st) s) : GW κ pc lv st s := fun ls H locs h hP hD hS => lv_iconst B.1 B.2.1 hd hv (k ls H locs h hP hD hS)
theorem R_bipush (B : Bs κ cc own nL d) {n : Int} {v : Int32} (hd : decode cc pc = .ok (.bipush n, 2)) (hv : (Int8.ofInt n).toInt32 = v) (k : GW κ (pc + 2) lv (.int v :: st) s) : GW κ pc lv st s := fun ls H locs h hP hD hS => lv_bipush B.1 B.2.1 hd hv (k ls H locs h hP hD hS)
theorem R_sipush (B : Bs κ cc own nL d) {n : Int} {v : Int32} (hd : decode cc pc = .ok (.sipush n, 3)) (hv : (Int16.ofInt n).toInt32 = v) (k : GW κ (pc + 3) lv (.int v :: st) s) : GW κ pc lv st s := fun ls H locs h hP hD hS => lv_sipush B.1 B.2.1 hd hv (k ls H locs h hP hD hS)
theorem R_lconst (B : Bs κ cc own nL d) {n : Fin 2} {v : Int64} (hd : decode cc pc = .ok (.lconst n, 1)) (hv : Int64.ofNat (n : Nat) = v) (k : GW κ (pc + 1) lv (.long v :: st) s) : GW κ pc lv st s := fun ls H locs h hP hD hS => lv_lconst B.1 B.2.1 hd hv (k ls H locs h hP hD hS)
theorem R_ldc (B : Bs κ cc own nL d) {ix : Nat} {v : Int32} (L : Cond.constant own ix v ∈ gws) (hd : decode cc pc = .ok (.ldc ix, 2)) (k : GW κ (pc + 2) lv (.int v :: st) s) : GW κ pc lv st s := fun ls H locs h hP hD hS => lv_ldc B.1 B.2.1 B.2.2.2.1 (B.2.2.2.2.1 _ L) hd (k ls H locs h hP hD hS)
theorem R_ldc_w (B : Bs κ cc own nL d) {ix : Nat} {v : Int32} (L : Cond.constant own ix v ∈ gws) (hd : decode cc pc = .ok (.ldc_w ix, 3)) (k : GW κ (pc + 3) lv (.int v :: st) s) : GW κ pc lv st s := fun ls H locs h hP hD hS => lv_ldcw B.1 B.2.1 B.2.2.2.1 (B.2.2.2.2.1 _ L) hd (k ls H locs h hP hD hS)
theorem R_ldc2 (B : Bs κ cc own nL d) {ix : Nat} {v : Int64} (L : Cond.constantLong own ix v ∈ gws) (hd : decode cc pc = .ok (.ldc2_w ix, 3)) (k : GW κ (pc + 3) lv (.long v :: st) s) : GW κ pc lv st s := fun ls H locs h hP hD hS => lv_ldc2 B.1 B.2.1 B.2.2.2.1 (B.2.2.2.2.1 _ L) hd (k ls H locs h hP hD hS)
theorem R_iadd (B : Bs κ cc own nL d) {u v : Int32} (hd : decode cc pc = .ok (.iadd, 1)) (k : GW κ (pc + 1) lv (.int (u + v) :: st) s) : GW κ pc lv (.int v :: .int u :: st) s := fun ls H locs h hP hD hS => lv_iadd B.1 B.2.1 hd (k ls H locs h hP hD hS)
theorem R_isub (B : Bs κ cc own nL d) {u v : Int32} (hd : decode cc pc = .ok (.isub, 1)) (k : GW κ (pc + 1) lv (.int (u - v) :: st) s) : GW κ pc lv (.int v :: .int u :: st) s := fun ls H locs h hP hD hS => lv_isub B.1 B.2.1 hd (k ls H locs h hP hD hS)
theorem R_imul (B : Bs κ cc own nL d) {u v : Int32} (hd : decode cc pc = .ok (.imul, 1)) (k : GW κ (pc + 1) lv (.int (u * v) :: st) s) : GW κ pc lv (.int v :: .int u :: st) s := fun ls H locs h hP hD hS => lv_imul B.1 B.2.1 hd (k ls H locs h hP hD hS)
theorem R_iand (B : Bs κ cc own nL d) {u v : Int32} (hd : decode cc pc = .ok (.iand, 1)) (k : GW κ (pc + 1) lv (.int (u &&& v) :: st) s) : GW κ pc lv (.int v :: .int u :: st) s := fun ls H locs h hP hD hS => lv_iand B.1 B.2.1 hd (k ls H locs h hP hD hS)
theorem R_ior (B : Bs κ cc own nL d) {u v : Int32} (hd : decode cc pc = .ok (.ior, 1)) (k : GW κ (pc + 1) lv (.int (u ||| v) :: st) s) : GW κ pc lv (.int v :: .int u :: st) s := fun ls H locs h hP hD hS => lv_ior B.1 B.2.1 hd (k ls H locs h hP hD hS)
theorem R_ixor (B : Bs κ cc own nL d) {u v : Int32} (hd : decode cc pc = .ok (.ixor, 1)) (k : GW κ (pc + 1) lv (.int (u ^^^ v) :: st) s) : GW κ pc lv (.int v :: .int u :: st) s := fun ls H locs h hP hD hS => lv_ixor B.1 B.2.1 hd (k ls H locs h hP hD hS)
theorem R_ishl (B : Bs κ cc own nL d) {u v : Int32} (hd : decode cc pc = .ok (.ishl, 1)) (k : GW κ (pc + 1) lv (.int (u <<< (v &&& 31)) :: st) s) : GW κ pc lv (.int v :: .int u :: st) s := fun ls H locs h hP hD hS => lv_ishl B.1 B.2.1 hd (k ls H locs h hP hD hS)
theorem R_ishr (B : Bs κ cc own nL d) {u v : Int32} (hd : decode cc pc = .ok (.ishr, 1)) (k : GW κ (pc + 1) lv (.int (u >>> (v &&& 31)) :: st) s) : GW κ pc lv (.int v :: .int u :: st) s := fun ls H locs h hP hD hS => lv_ishr B.1 B.2.1 hd (k ls H locs h hP hD hS)
theorem R_iushr (B : Bs κ cc own nL d) {u v : Int32} (hd : decode cc pc = .ok (.iushr, 1)) (k : GW κ (pc + 1) lv (.int (u.toUInt32 >>> (v.toUInt32 &&& Int32.toUInt32 31)).toInt32 :: st) s) : GW κ pc lv (.int v :: .int u :: st) s := fun ls H locs h hP hD hS => lv_iushr B.1 B.2.1 hd rfl (k ls H locs h hP hD hS)
theorem R_ineg (B : Bs κ cc own nL d) {u : Int32} (hd : decode cc pc = .ok (.ineg, 1)) (k : GW κ (pc + 1) lv (.int (-u) :: st) s) : GW κ pc lv (.int u :: st) s := fun ls H locs h hP hD hS => lv_ineg B.1 B.2.1 hd (k ls H locs h hP hD hS)
theorem R_ladd (B : Bs κ cc own nL d) {u v : Int64} (hd : decode cc pc = .ok (.ladd, 1)) (k : GW κ (pc + 1) lv (.long (u + v) :: st) s) : GW κ pc lv (.long v :: .long u :: st) s := fun ls H locs h hP hD hS => lv_ladd B.1 B.2.1 hd (k ls H locs h hP hD hS)
theorem R_land (B : Bs κ cc own nL d) {u v : Int64} (hd : decode cc pc = .ok (.land, 1)) (k : GW κ (pc + 1) lv (.long (u &&& v) :: st) s) : GW κ pc lv (.long v :: .long u :: st) s := fun ls H locs h hP hD hS => lv_land B.1 B.2.1 hd (k ls H locs h hP hD hS)
theorem R_lor (B : Bs κ cc own nL d) {u v : Int64} (hd : decode cc pc = .ok (.lor, 1)) (k : GW κ (pc + 1) lv (.long (u ||| v) :: st) s) : GW κ pc lv (.long v :: .long u :: st) s := fun ls H locs h hP hD hS => lv_lor B.1 B.2.1 hd (k ls H locs h hP hD hS)
theorem R_lshl (B : Bs κ cc own nL d) {u : Int64} {v : Int32} (hd : decode cc pc = .ok (.lshl, 1)) (k : GW κ (pc + 1) lv (.long (u <<< (v.toInt64 &&& 63)) :: st) s) : GW κ pc lv (.int v :: .long u :: st) s := fun ls H locs h hP hD hS => lv_lshl B.1 B.2.1 hd rfl (k ls H locs h hP hD hS)
theorem R_lshr (B : Bs κ cc own nL d) {u : Int64} {v : Int32} (hd : decode cc pc = .ok (.lshr, 1)) (k : GW κ (pc + 1) lv (.long (u >>> (v.toInt64 &&& 63)) :: st) s) : GW κ pc lv (.int v :: .long u :: st) s := fun ls H locs h hP hD hS => lv_lshr B.1 B.2.1 hd rfl (k ls H locs h hP hD hS)
theorem R_lushr (B : Bs κ cc own nL d) {u : Int64} {v : Int32} (hd : decode cc pc = .ok (.lushr, 1)) (k : GW κ (pc + 1) lv (.long (u.toUInt64 >>> (v.toInt64.toUInt64 &&& Int64.toUInt64 63)).toInt64 :: st) s) : GW κ pc lv (.int v :: .long u :: st) s := fun ls H locs h hP hD hS => lv_lushr B.1 B.2.1 hd rfl (k ls H locs h hP hD hS)
theorem R_lcmp (B : Bs κ cc own nL d) {u v : Int64} (hd : decode cc pc = .ok (.lcmp, 1)) (k : GW κ (pc + 1) lv (.int (lg_cmp u v) :: st) s) : GW κ pc lv (.long v :: .long u :: st) s := fun ls H locs h hP hD hS => W.lcmp B.1 B.2.1 hd (k ls H locs h hP hD hS)
theorem R_i2l (B : Bs κ cc own nL d) {u : Int32} (hd : decode cc pc = .ok (.i2l, 1)) (k : GW κ (pc + 1) lv (.long (u.toInt64) :: st) s) : GW κ pc lv (.int u :: st) s := fun ls H locs h hP hD hS => lv_i2l B.1 B.2.1 hd rfl (k ls H locs h hP hD hS)
theorem R_l2i (B : Bs κ cc own nL d) {u : Int64} (hd : decode cc pc = .ok (.l2i, 1)) (k : GW κ (pc + 1) lv (.int (u.toInt32) :: st) s) : GW κ pc lv (.long u :: st) s := fun ls H locs h hP hD hS => lv_l2i B.1 B.2.1 hd rfl (k ls H locs h hP hD hS)
theorem R_i2b (B : Bs κ cc own nL d) {u : Int32} (hd : decode cc pc = .ok (.i2b, 1)) (k : GW κ (pc + 1) lv (.int (u.toInt8.toInt32) :: st) s) : GW κ pc lv (.int u :: st) s := fun ls H locs h hP hD hS => lv_i2b B.1 B.2.1 hd rfl (k ls H locs h hP hD hS)
theorem R_i2s (B : Bs κ cc own nL d) {u : Int32} (hd : decode cc pc = .ok (.i2s, 1)) (k : GW κ (pc + 1) lv (.int (u.toInt16.toInt32) :: st) s) : GW κ pc lv (.int u :: st) s := fun ls H locs h hP hD hS => lv_i2s B.1 B.2.1 hd rfl (k ls H locs h hP hD hS)
theorem R_i2c (B : Bs κ cc own nL d) {u : Int32} (hd : decode cc pc = .ok (.i2c, 1)) (k : GW κ (pc + 1) lv (.int ((u.toUInt32 % 65536).toInt32) :: st) s) : GW κ pc lv (.int u :: st) s := fun ls H locs h hP hD hS => lv_i2c B.1 B.2.1 hd rfl (k ls H locs h hP hD hS)
theorem R_idiv {T : Prop} (B : Bs κ cc own nL d) {u v : Int32} (hd : decode cc pc = .ok (.idiv, 1)) (hw : ¬ v = 0 ∧ T) (k : T → GW κ (pc + 1) lv (.int (u / v) :: st) s) : GW κ pc lv (.int v :: .int u :: st) s := fun ls H locs h hP hD hS => lv_idiv B.1 B.2.1 hd hw.1 (k hw.2 ls H locs h hP hD hS)
theorem R_irem {T : Prop} (B : Bs κ cc own nL d) {u v : Int32} (hd : decode cc pc = .ok (.irem, 1)) (hw : ¬ v = 0 ∧ T) (k : T → GW κ (pc + 1) lv (.int (u - u / v * v) :: st) s) : GW κ pc lv (.int v :: .int u :: st) s := fun ls H locs h hP hD hS => lv_irem B.1 B.2.1 hd hw.1 (k hw.2 ls H locs h hP hD hS)
theorem R_dup (B : Bs κ cc own nL d) {u : Value} (hd : decode cc pc = .ok (.dup, 1)) (hu : u.category = 1) (k : GW κ (pc + 1) lv (u :: u :: st) s) : GW κ pc lv (u :: st) s := fun ls H locs h hP hD hS => lv_dup B.1 B.2.1 hd hu (k ls H locs h hP hD hS)
theorem R_dup2 (B : Bs κ cc own nL d) {u v : Value} (hd : decode cc pc = .ok (.dup2, 1)) (hu : u.category = 1) (hv : v.category = 1) (k : GW κ (pc + 1) lv (u :: v :: u :: v :: st) s) : GW κ pc lv (u :: v :: st) s := fun ls H locs h hP hD hS => lv_dup2_11 B.1 B.2.1 hd hu hv (k ls H locs h hP hD hS)
theorem R_pop (B : Bs κ cc own nL d) {u : Value} (hd : decode cc pc = .ok (.pop, 1)) (hu : u.category = 1) (k : GW κ (pc + 1) lv st s) : GW κ pc lv (u :: st) s := fun ls H locs h hP hD hS => lv_pop B.1 B.2.1 hd hu (k ls H locs h hP hD hS)
theorem R_goto (B : Bs κ cc own nL d) {off : Int} (tgt : Nat) (hd : decode cc pc = .ok (.goto off, 3)) (ht : (pc : Int) + off = (tgt : Int)) (k : GW κ tgt lv st s) : GW κ pc lv st s := fun ls H locs h hP hD hS => lv_goto B.1 B.2.1 hd ht (k ls H locs h hP hD hS)
theorem R_if_eq {T1 T2 : Prop} (B : Bs κ cc own nL d) {u : Int32} {off : Int} (tgt : Nat) (hd : decode cc pc = .ok (.ifCond .eq off, 3)) (ht : (pc : Int) + off = (tgt : Int)) (hw : if u = 0 then T1 else T2) (k1 : T1 → GW κ tgt lv st s) (k2 : T2 → GW κ (pc + 3) lv st s) : GW κ pc lv (.int u :: st) s := fun ls H locs h hP hD hS => lv_if_eq B.1 B.2.1 hd ht (fun hc => k1 (it_t hc hw) ls H locs h hP hD hS) (fun hc => k2 (it_f hc hw) ls H locs h hP hD hS)
theorem R_icmp_eq {T1 T2 : Prop} (B : Bs κ cc own nL d) {u v : Int32} {off : Int} (tgt : Nat) (hd : decode cc pc = .ok (.if_icmp .eq off, 3)) (ht : (pc : Int) + off = (tgt : Int)) (hw : if u = v then T1 else T2) (k1 : T1 → GW κ tgt lv st s) (k2 : T2 → GW κ (pc + 3) lv st s) : GW κ pc lv (.int v :: .int u :: st) s := fun ls H locs h hP hD hS => lv_icmp_eq B.1 B.2.1 hd ht (fun hc => k1 (it_t hc hw) ls H locs h hP hD hS) (fun hc => k2 (it_f hc hw) ls H locs h hP hD hS)
theorem R_if_ne {T1 T2 : Prop} (B : Bs κ cc own nL d) {u : Int32} {off : Int} (tgt : Nat) (hd : decode cc pc = .ok (.ifCond .ne off, 3)) (ht : (pc : Int) + off = (tgt : Int)) (hw : if u = 0 then T2 else T1) (k1 : T1 → GW κ tgt lv st s) (k2 : T2 → GW κ (pc + 3) lv st s) : GW κ pc lv (.int u :: st) s := fun ls H locs h hP hD hS => lv_if_ne B.1 B.2.1 hd ht (fun hc => k1 (it_f hc hw) ls H locs h hP hD hS) (fun hc => k2 (it_t hc hw) ls H locs h hP hD hS)
theorem R_icmp_ne {T1 T2 : Prop} (B : Bs κ cc own nL d) {u v : Int32} {off : Int} (tgt : Nat) (hd : decode cc pc = .ok (.if_icmp .ne off, 3)) (ht : (pc : Int) + off = (tgt : Int)) (hw : if u = v then T2 else T1) (k1 : T1 → GW κ tgt lv st s) (k2 : T2 → GW κ (pc + 3) lv st s) : GW κ pc lv (.int v :: .int u :: st) s := fun ls H locs h hP hD hS => lv_icmp_ne B.1 B.2.1 hd ht (fun hc => k1 (it_f hc hw) ls H locs h hP hD hS) (fun hc => k2 (it_t hc hw) ls H locs h hP hD hS)
theorem R_if_lt {T1 T2 : Prop} (B : Bs κ cc own nL d) {u : Int32} {off : Int} (tgt : Nat) (hd : decode cc pc = .ok (.ifCond .lt off, 3)) (ht : (pc : Int) + off = (tgt : Int)) (hw : if u < 0 then T1 else T2) (k1 : T1 → GW κ tgt lv st s) (k2 : T2 → GW κ (pc + 3) lv st s) : GW κ pc lv (.int u :: st) s := fun ls H locs h hP hD hS => lv_if_lt B.1 B.2.1 hd ht (fun hc => k1 (it_t hc hw) ls H locs h hP hD hS) (fun hc => k2 (it_f hc hw) ls H locs h hP hD hS)
theorem R_icmp_lt {T1 T2 : Prop} (B : Bs κ cc own nL d) {u v : Int32} {off : Int} (tgt : Nat) (hd : decode cc pc = .ok (.if_icmp .lt off, 3)) (ht : (pc : Int) + off = (tgt : Int)) (hw : if u < v then T1 else T2) (k1 : T1 → GW κ tgt lv st s) (k2 : T2 → GW κ (pc + 3) lv st s) : GW κ pc lv (.int v :: .int u :: st) s := fun ls H locs h hP hD hS => lv_icmp_lt B.1 B.2.1 hd ht (fun hc => k1 (it_t hc hw) ls H locs h hP hD hS) (fun hc => k2 (it_f hc hw) ls H locs h hP hD hS)
theorem R_if_ge {T1 T2 : Prop} (B : Bs κ cc own nL d) {u : Int32} {off : Int} (tgt : Nat) (hd : decode cc pc = .ok (.ifCond .ge off, 3)) (ht : (pc : Int) + off = (tgt : Int)) (hw : if 0 ≤ u then T1 else T2) (k1 : T1 → GW κ tgt lv st s) (k2 : T2 → GW κ (pc + 3) lv st s) : GW κ pc lv (.int u :: st) s := fun ls H locs h hP hD hS => lv_if_ge B.1 B.2.1 hd ht (fun hc => k1 (it_t hc hw) ls H locs h hP hD hS) (fun hc => k2 (it_f hc hw) ls H locs h hP hD hS)
theorem R_icmp_ge {T1 T2 : Prop} (B : Bs κ cc own nL d) {u v : Int32} {off : Int} (tgt : Nat) (hd : decode cc pc = .ok (.if_icmp .ge off, 3)) (ht : (pc : Int) + off = (tgt : Int)) (hw : if v ≤ u then T1 else T2) (k1 : T1 → GW κ tgt lv st s) (k2 : T2 → GW κ (pc + 3) lv st s) : GW κ pc lv (.int v :: .int u :: st) s := fun ls H locs h hP hD hS => lv_icmp_ge B.1 B.2.1 hd ht (fun hc => k1 (it_t hc hw) ls H locs h hP hD hS) (fun hc => k2 (it_f hc hw) ls H locs h hP hD hS)
theorem R_if_gt {T1 T2 : Prop} (B : Bs κ cc own nL d) {u : Int32} {off : Int} (tgt : Nat) (hd : decode cc pc = .ok (.ifCond .gt off, 3)) (ht : (pc : Int) + off = (tgt : Int)) (hw : if 0 < u then T1 else T2) (k1 : T1 → GW κ tgt lv st s) (k2 : T2 → GW κ (pc + 3) lv st s) : GW κ pc lv (.int u :: st) s := fun ls H locs h hP hD hS => lv_if_gt B.1 B.2.1 hd ht (fun hc => k1 (it_t hc hw) ls H locs h hP hD hS) (fun hc => k2 (it_f hc hw) ls H locs h hP hD hS)
theorem R_icmp_gt {T1 T2 : Prop} (B : Bs κ cc own nL d) {u v : Int32} {off : Int} (tgt : Nat) (hd : decode cc pc = .ok (.if_icmp .gt off, 3)) (ht : (pc : Int) + off = (tgt : Int)) (hw : if v < u then T1 else T2) (k1 : T1 → GW κ tgt lv st s) (k2 : T2 → GW κ (pc + 3) lv st s) : GW κ pc lv (.int v :: .int u :: st) s := fun ls H locs h hP hD hS => lv_icmp_gt B.1 B.2.1 hd ht (fun hc => k1 (it_t hc hw) ls H locs h hP hD hS) (fun hc => k2 (it_f hc hw) ls H locs h hP hD hS)
theorem R_if_le {T1 T2 : Prop} (B : Bs κ cc own nL d) {u : Int32} {off : Int} (tgt : Nat) (hd : decode cc pc = .ok (.ifCond .le off, 3)) (ht : (pc : Int) + off = (tgt : Int)) (hw : if u ≤ 0 then T1 else T2) (k1 : T1 → GW κ tgt lv st s) (k2 : T2 → GW κ (pc + 3) lv st s) : GW κ pc lv (.int u :: st) s := fun ls H locs h hP hD hS => lv_if_le B.1 B.2.1 hd ht (fun hc => k1 (it_t hc hw) ls H locs h hP hD hS) (fun hc => k2 (it_f hc hw) ls H locs h hP hD hS)
theorem R_icmp_le {T1 T2 : Prop} (B : Bs κ cc own nL d) {u v : Int32} {off : Int} (tgt : Nat) (hd : decode cc pc = .ok (.if_icmp .le off, 3)) (ht : (pc : Int) + off = (tgt : Int)) (hw : if u ≤ v then T1 else T2) (k1 : T1 → GW κ tgt lv st s) (k2 : T2 → GW κ (pc + 3) lv st s) : GW κ pc lv (.int v :: .int u :: st) s := fun ls H locs h hP hD hS => lv_icmp_le B.1 B.2.1 hd ht (fun hc => k1 (it_t hc hw) ls H locs h hP hD hS) (fun hc => k2 (it_f hc hw) ls H locs h hP hD hS)
theorem R_ite {c T1 T2 G : Prop} [Decidable c] (hw : if c then T1 else T2) (k1 : c → T1 → G) (k2 : ¬ c → T2 → G) : G := by
  by_cases hc : c
  · exact k1 hc (it_t hc hw)
  · exact k2 hc (it_f hc hw)
theorem R_tabI (B : Bs κ cc own nL d) {dflt lo hi : Int} {offs : Array Int} {len : Nat} {u v : Int32} {off : Int} (tgt : Nat) (hd : decode cc pc = .ok (.tableswitch dflt lo hi offs, len)) (hu : u = v) (h1 : ¬ v.toInt < lo) (h2 : ¬ hi < v.toInt) (ho : offs[(v.toInt - lo).toNat]? = some off) (ht : (pc : Int) + off = (tgt : Int)) (k : GW κ tgt lv st s) : GW κ pc lv (.int u :: st) s := by
  subst hu
  exact fun ls H locs h hP hD hS => lv_tableIn B.1 B.2.1 hd h1 h2 ho ht (k ls H locs h hP hD hS)
theorem R_tabO (B : Bs κ cc own nL d) {dflt lo hi : Int} {offs : Array Int} {len : Nat} {u : Int32} (tgt : Nat) (hd : decode cc pc = .ok (.tableswitch dflt lo hi offs, len)) (h1 : u.toInt < lo ∨ hi < u.toInt) (ht : (pc : Int) + dflt = (tgt : Int)) (k : GW κ tgt lv st s) : GW κ pc lv (.int u :: st) s :=
  fun ls H locs h hP hD hS => lv_tableOut B.1 B.2.1 hd h1 ht (k ls H locs h hP hD hS)
theorem R_look (B : Bs κ cc own nL d) {dflt : Int} {ps : Array (Int × Int)} {len : Nat} {u : Int32} {off : Int} (tgt : Nat) (hd : decode cc pc = .ok (.lookupswitch dflt ps, len)) (hp : (ps.toList.zip (ps.toList.drop 1)).all (fun (a, next) => a.1 < next.1) = true) (ho : Op.lookupswitch.offset ps.toList dflt u.toInt = off) (ht : (pc : Int) + off = (tgt : Int)) (k : GW κ tgt lv st s) : GW κ pc lv (.int u :: st) s :=
  fun ls H locs h hP hD hS => lv_lookup B.1 B.2.1 hd hp ho ht (k ls H locs h hP hD hS)
-- fields
theorem R_getI (B : Bs κ cc own nL d) {q ci ix sl n N : Nat} {f : Cx → St → List Value} {C : String} {T : u_T} (O : OBd q ci f) (L : FL own ix ci C T N sl) (hv : ∀ x s, (f x s)[sl]? = some (.int (gF s n))) (hd : decode cc pc = .ok (.getfield ix, 3)) (k : GW κ (pc + 3) lv (.int (gF s n) :: st) s) : GW κ pc lv (.ref (xa (kx κ) q) :: st) s :=
  fun ls H locs h hP hD hS => va_get B.1 B.2.1 B.2.2.2.2.1 L.1 B.2.2.2.1 B.2.2.2.2.2.1 hP q (O _ _) L.2.1 sl L.2.2.1 (B.2.2.2.2.1 _ L.2.2.2) (fun _ h9 => h9) (hv _ _) hd (k ls H locs h hP hD hS)
theorem R_getR (B : Bs κ cc own nL d) {q ci ix sl q2 N : Nat} {f : Cx → St → List Value} {C : String} {T : u_T} (O : OBd q ci f) (L : FL own ix ci C T N sl) (hv : ∀ x s, (f x s)[sl]? = some (.ref (xa x q2))) (hd : decode cc pc = .ok (.getfield ix, 3)) (k : GW κ (pc + 3) lv (.ref (xa (kx κ) q2) :: st) s) : GW κ pc lv (.ref (xa (kx κ) q) :: st) s :=
  fun ls H locs h hP hD hS => va_get B.1 B.2.1 B.2.2.2.2.1 L.1 B.2.2.2.1 B.2.2.2.2.2.1 hP q (O _ _) L.2.1 sl L.2.2.1 (B.2.2.2.2.1 _ L.2.2.2) (fun _ h9 => h9) (hv _ _) hd (k ls H locs h hP hD hS)
theorem R_getIN (B : Bs κ cc own nL d) {q ci ix sl n N : Nat} {f : Cx → St → List Value} {C ho : String} {T : u_T} (O : OBd q ci f) (L : FLN own ix ci C T N sl ho) (hv : ∀ x s, (f x s)[sl]? = some (.int (gF s n))) (hd : decode cc pc = .ok (.getfield ix, 3)) (k : GW κ (pc + 3) lv (.int (gF s n) :: st) s) : GW κ pc lv (.ref (xa (kx κ) q) :: st) s :=
  fun ls H locs h hP hD hS => va_getN B.1 B.2.1 B.2.2.2.2.1 L.1 B.2.2.2.1 B.2.2.2.2.2.1 hP q (O _ _) L.2.1 sl L.2.2.1 (va_Nw.use rfl (B.2.2.2.2.2.2.1.1 _ L.2.2.2)) (fun _ h9 => h9) (hv _ _) hd (k ls H locs h hP hD hS)
theorem R_getRN (B : Bs κ cc own nL d) {q ci ix sl q2 N : Nat} {f : Cx → St → List Value} {C ho : String} {T : u_T} (O : OBd q ci f) (L : FLN own ix ci C T N sl ho) (hv : ∀ x s, (f x s)[sl]? = some (.ref (xa x q2))) (hd : decode cc pc = .ok (.getfield ix, 3)) (k : GW κ (pc + 3) lv (.ref (xa (kx κ) q2) :: st) s) : GW κ pc lv (.ref (xa (kx κ) q) :: st) s :=
  fun ls H locs h hP hD hS => va_getN B.1 B.2.1 B.2.2.2.2.1 L.1 B.2.2.2.1 B.2.2.2.2.2.1 hP q (O _ _) L.2.1 sl L.2.2.1 (va_Nw.use rfl (B.2.2.2.2.2.2.1.1 _ L.2.2.2)) (fun _ h9 => h9) (hv _ _) hd (k ls H locs h hP hD hS)
theorem R_put (B : Bs κ cc own nL d) {q ci ix sl n N : Nat} {f : Cx → St → List Value} {C : String} {T : u_T} {ty0 : Nat → FieldType} {ty : FieldType} {v : Int32} (O : OBd q ci f) (L : FL own ix ci C T N sl) (P : PLt T N ty0 sl ty) (hs : ∀ x s v, (wd x s).set q (xa x q, .inr (ci, (f x s).set sl (.int v))) = wd x (stF s n v)) (hl : ∀ x s, sl < (f x s).length) (hn : narrow ty (.int v) = .int v) (hf : fits ty (.int v) = true) (hd : decode cc pc = .ok (.putfield ix, 3)) (k : GW κ (pc + 3) lv st (stF s n v)) : GW κ pc lv (.int v :: .ref (xa (kx κ) q) :: st) s :=
  fun ls H locs h hP hD hS => va_put B.1 B.2.1 B.2.2.2.2.1 L.1 ty0 P.1 P.2.1 B.2.2.2.1 B.2.2.2.2.2.1 hP hD hS q (O _ _) L.2.1 sl L.2.2.1 (B.2.2.2.2.1 _ L.2.2.2) (fun _ h9 => h9) P.2.2.1 P.2.2.2 hn hf (hl _ _) hd (fun H1 locs1 hP hD hS => k ls H1 locs1 h (by rw [hs] at hP; exact hP) (by rw [hs] at hD; exact hD) hS)
-- arrays
theorem R_iald {T : Prop} (B : Bs κ cc own nL d) {q n : Nat} {i : Int32} (A : AWd q 0 n) (hd : decode cc pc = .ok (.iaload, 1)) (hw : vp_in i n ∧ T) (k : T → GW κ (pc + 1) lv (.int (gA s q i) :: st) s) : GW κ pc lv (.int i :: .ref (xa (kx κ) q) :: st) s :=
  fun ls H locs h hP hD hS => va_iald B.1 B.2.1 B.2.2.2.2.2.1 hP q 0 (A.1 _ _) rfl hw.1 hd (k hw.2 ls H locs h hP hD hS)
theorem R_zald {T : Prop} (B : Bs κ cc own nL d) {q n : Nat} {i : Int32} (A : AWd q 1 n) (hd : decode cc pc = .ok (.baload, 1)) (hw : vp_in i n ∧ T) (k : T → GW κ (pc + 1) lv (.int (gA s q i) :: st) s) : GW κ pc lv (.int i :: .ref (xa (kx κ) q) :: st) s :=
  fun ls H locs h hP hD hS => va_zald B.1 B.2.1 B.2.2.2.2.2.1 hP q 1 (A.1 _ _) rfl hw.1 hd (k hw.2 ls H locs h hP hD hS)
theorem R_bald {T : Prop} (B : Bs κ cc own nL d) {q n : Nat} {i : Int32} (A : AWd q 2 n) (hd : decode cc pc = .ok (.baload, 1)) (hw : vp_in i n ∧ T) (k : T → GW κ (pc + 1) lv (.int (gA s q i) :: st) s) : GW κ pc lv (.int i :: .ref (xa (kx κ) q) :: st) s :=
  fun ls H locs h hP hD hS => va_bald B.1 B.2.1 B.2.2.2.2.2.1 hP q 2 (A.1 _ _) rfl hw.1 hd (k hw.2 ls H locs h hP hD hS)
theorem R_iast {T : Prop} (B : Bs κ cc own nL d) {q n : Nat} {i v : Int32} (A : AWd q 0 n) (hd : decode cc pc = .ok (.iastore, 1)) (hw : vp_in i n ∧ T) (k : T → GW κ (pc + 1) lv st (stA s q i v)) : GW κ pc lv (.int v :: .int i :: .ref (xa (kx κ) q) :: st) s :=
  fun ls H locs h hP hD hS => va_iast B.1 B.2.1 B.2.2.2.2.2.1 hP hD hS q 0 (A.1 _ _) rfl hw.1 hd (fun H1 locs1 hP hD hS => k hw.2 ls H1 locs1 h (by rw [A.2] at hP; exact hP) (by rw [A.2] at hD; exact hD) hS)
theorem R_zast {T : Prop} (B : Bs κ cc own nL d) {q n : Nat} {i v : Int32} (A : AWd q 1 n) (hd : decode cc pc = .ok (.bastore, 1)) (hw : vp_in i n ∧ T) (k : T → GW κ (pc + 1) lv st (stA s q i (vp_nar .boolean v))) : GW κ pc lv (.int v :: .int i :: .ref (xa (kx κ) q) :: st) s :=
  fun ls H locs h hP hD hS => va_zast B.1 B.2.1 B.2.2.2.2.2.1 hP hD hS q 1 (A.1 _ _) rfl hw.1 hd (fun H1 locs1 hP hD hS => k hw.2 ls H1 locs1 h (by rw [A.2] at hP; exact hP) (by rw [A.2] at hD; exact hD) hS)
theorem R_bast {T : Prop} (B : Bs κ cc own nL d) {q n : Nat} {i v : Int32} (A : AWd q 2 n) (hd : decode cc pc = .ok (.bastore, 1)) (hw : vp_in i n ∧ T) (k : T → GW κ (pc + 1) lv st (stA s q i (vp_nar .byte v))) : GW κ pc lv (.int v :: .int i :: .ref (xa (kx κ) q) :: st) s :=
  fun ls H locs h hP hD hS => va_bast B.1 B.2.1 B.2.2.2.2.2.1 hP hD hS q 2 (A.1 _ _) rfl hw.1 hd (fun H1 locs1 hP hD hS => k hw.2 ls H1 locs1 h (by rw [A.2] at hP; exact hP) (by rw [A.2] at hD; exact hD) hS)
theorem R_alen (B : Bs κ cc own nL d) {q t n : Nat} {v : Int32} {ty : FieldType} (A : AWd q t n) (ht : ∀ x, (tyx x)[t]? = some (x.2.1 t, ty)) (hv : Int32.ofNat n = v) (hd : decode cc pc = .ok (.arraylength, 1)) (k : GW κ (pc + 1) lv (.int v :: st) s) : GW κ pc lv (.ref (xa (kx κ) q) :: st) s :=
  fun ls H locs h hP hD hS => va_alen B.1 B.2.1 B.2.2.2.2.2.1 hP q t (A.1 _ _) (ht _) hv hd (k ls H locs h hP hD hS)
end GR
/-- a method's contract over the one world: its room by the depth of its calls -/
def rmD (d : Nat) : Room := { frames := d, cells := 0, slots := 0, locals := 60 * d }
def PcW (x : Cx) (As : List Value) (s : St) (sz : Nat) : Array Value → State → Prop := va_Pc As (fun U => U.heap.size = sz ∧ va_P x.1 classes (wd x s) U.heap ∧ va_K x.1 classes (tyx x) U ∧ va_D (fun _ => True) (wd x s) ∧ EX x (AS x sz) U U.heap)
def BW (x : Cx) (sz : Nat) (s : St) (t : State) : Prop := va_P x.1 classes (wd x s) t.heap ∧ va_K x.1 classes (tyx x) t ∧ va_D (AS x sz) (wd x s)
theorem PcW.blind {x : Cx} {As : List Value} {s : St} {sz : Nat} : FrameBlind (PcW x As s sz) := by
  intro a U g mk q
  obtain ⟨q0, q1, q2, q3, q4, q5⟩ := q
  exact ⟨q0, q1, q2, va_K.moved (u := U) (U := U.calling g mk a) (Vm.Alike.refl U.vm) q3, q4, q5.same rfl⟩
def Ct (l : Launch) (x : Cx) (y : MethodName) (by_ : ByteArray) (maxL : Nat) (ret : Option FieldType) (d : Nat) (As : List Value) (s : St) (Q : Int32 → St → Prop) : Prop := ∀ sz : Nat, Met l y (.code y by_ maxL ret :: gws) (rmD d) (PcW x As s sz) (va_Qi Q (BW x sz) (AS x sz)) 0 0 (AS x sz)
def Cv (l : Launch) (x : Cx) (y : MethodName) (by_ : ByteArray) (maxL : Nat) (d : Nat) (As : List Value) (s : St) (Q : St → Prop) : Prop := ∀ sz : Nat, Met l y (.code y by_ maxL none :: gws) (rmD d) (PcW x As s sz) (va_Qv Q (BW x sz) (AS x sz)) 0 0 (AS x sz)
/-- facts of a method: its code, its class, its descriptor -/
def YF (y : MethodName) (by_ : ByteArray) (maxL : Nat) (ret : Option FieldType) (n : Nat) : Prop := Cond.code y by_ maxL ret ∈ gws ∧ Cond.initialized y.cls ∈ gws ∧ (y.cls ≠ "java/lang/invoke/MethodHandle" ∧ y.cls ≠ "java/lang/invoke/VarHandle" ∧ (parseMethodDescriptor y.desc).map (fun d => d.parameters.length) = some n) ∧ maxL ≤ 41 ∧ plainName y.cls = true
def IF (y : MethodName) : Prop := Cond.instanceMethod y ∈ gws ∧ Cond.selects y.cls y y ∈ gws
section GC
variable {κ : Kt} {cc : ByteArray} {own : String} {nL d : Nat} {pc : Nat} {lv lv' : List (Nat × Value)} {st st0 : List Value} {s : St}
variable {y : MethodName} {by_ : ByteArray} {maxL n d' ix q ci : Nat} {ret : Option FieldType} {As : List Value} {Qc : Nat → Array Value → State → Outcome → State → Prop}
abbrev RunG (κ : Kt) (pc : Nat) (lv : List (Nat × Value)) (st0 st : List Value) (s : St) (Qa : Nat → State → Outcome → State → Prop) : Prop := ∀ (ls : Array Slot) (H : Heap) (locs : List Loc), lv_has ls (kc κ).maxLocals lv → va_P (kx κ).1 classes (wd (kx κ) s) H → va_D (kA κ) (wd (kx κ) s) → va_S (kA κ) (ks κ).heap H locs →
  va_Run (kp κ) (kl κ) (ke κ) (kR κ) (ks κ) (km κ) (kar κ) (kbe κ) (kme κ) (kc κ) H locs (kcl κ) (ksl κ) 0 0 (F0 (km κ) pc ls st0) st (Qa H.size) (AS (kx κ) H.size)
theorem pre_at (B : Bs κ cc own nL d) {H : Heap} {locs : List Loc} (hP : va_P (kx κ).1 classes (wd (kx κ) s) H) (hD : va_D (kA κ) (wd (kx κ) s)) (hS : va_S (kA κ) (ks κ).heap H locs) : ∀ U : State, U.heap = H → (ks κ).WarmedH U.vm → PcW (kx κ) As s H.size As.toArray U := fun U hU hW =>
  ⟨rfl, by rw [hU], by rw [hU]; exact hP, va_K.moved hW.alike B.2.2.2.2.2.1, hD.weaken (fun _ _ _ _ => trivial), by rw [hU]; exact B.2.2.2.2.2.2.1.tr hW hS.2.1 (fun q h => h.mono hS.1)⟩
theorem room_at (B : Bs κ cc own nL d) (h1 : d' + 1 ≤ d) (h2 : maxL ≤ 41) : (rmD d').frames + 1 ≤ (kR κ).frames ∧ 8 + (maxL + 11) + (rmD d').locals ≤ (kR κ).locals := by
  obtain ⟨a, b⟩ := B.2.2.2.2.2.2.2.2.1
  constructor
  · show d' + 1 ≤ _; omega
  · show 8 + (maxL + 11) + 60 * d' ≤ _; omega
theorem run_V (B : Bs κ cc own nL d) {f : Cx → St → List Value} {T : u_T} {N : Nat} (Y : YF y by_ maxL ret n) (I : IF y) (L : Cond.methodLink own ix y ∈ gws) (O : OBd q ci f) (hc : classes[ci]? = some (y.cls, T, N)) (hM : ∀ sz, Met (kl κ) y (.code y by_ maxL ret :: gws) (rmD d') (PcW (kx κ) (.ref (xa (kx κ) q) :: As) s sz) (Qc sz) 0 0 (AS (kx κ) sz)) (hd : decode cc pc = .ok (.invokevirtual ix, 3)) (hdd : d' + 1 ≤ d) (hst : st0 = As.reverse ++ .ref (xa (kx κ) q) :: st) (hn : As.length = n) (hr : (st.map fun v => v.category).sum ≤ 8) : RunG κ pc lv st0 st s (fun sz => Qc sz (Value.ref (xa (kx κ) q) :: As).toArray) := by
  intro ls H locs h hP hD hS
  exact va_runV (nL := nL) ⟨B.1, B.2.1, B.2.2.1, B.2.2.2.1, B.2.2.2.2.1⟩ (hM H.size) ⟨callB_of n B.2.2.2.2.1 (good_ws Y.1) rfl rfl rfl (B.2.2.2.2.1 _ Y.2.1) (B.2.2.2.2.1 _ L) Y.2.2.1 (room_at B hdd Y.2.2.2.1), B.2.2.2.2.1 _ I.1, B.2.2.2.2.1 _ I.2⟩ ⟨PcW.blind, va_recv B.2.2.2.2.2.1 hP hc (O _ _), pre_at B hP hD hS⟩ rfl hn (B.2.2.1 ▸ h.1) hst (lv_room (ls := ls) (m := km κ) (pc := pc) (rest := st0) hr) hd ⟨B.2.2.2.2.2.2.2.2.2.1, B.2.2.2.2.2.2.2.2.2.2⟩
theorem run_VN (B : Bs κ cc own nL d) {f : Cx → St → List Value} {T : u_T} {N : Nat} {ho : String} (Y : YF y by_ maxL ret n) (I : IF y) (L : Cond.methodLinkNest own ix y ho ∈ nws) (O : OBd q ci f) (hc : classes[ci]? = some (y.cls, T, N)) (hM : ∀ sz, Met (kl κ) y (.code y by_ maxL ret :: gws) (rmD d') (PcW (kx κ) (.ref (xa (kx κ) q) :: As) s sz) (Qc sz) 0 0 (AS (kx κ) sz)) (hd : decode cc pc = .ok (.invokevirtual ix, 3)) (hdd : d' + 1 ≤ d) (hst : st0 = As.reverse ++ .ref (xa (kx κ) q) :: st) (hn : As.length = n) (hr : (st.map fun v => v.category).sum ≤ 8) : RunG κ pc lv st0 st s (fun sz => Qc sz (Value.ref (xa (kx κ) q) :: As).toArray) := by
  intro ls H locs h hP hD hS
  exact va_runVN (nL := nL) ⟨B.1, B.2.1, B.2.2.1, B.2.2.2.1, B.2.2.2.2.1⟩ (hM H.size) ⟨va_cnB n B.2.2.2.2.1 (good_ws Y.1) rfl rfl rfl (B.2.2.2.2.2.2.1.1 _ L) (B.2.2.2.2.1 _ Y.2.1) Y.2.2.1 (room_at B hdd Y.2.2.2.1), B.2.2.2.2.1 _ I.1, B.2.2.2.2.1 _ I.2⟩ ⟨PcW.blind, va_recv B.2.2.2.2.2.1 hP hc (O _ _), pre_at B hP hD hS⟩ rfl hn (B.2.2.1 ▸ h.1) hst (lv_room (ls := ls) (m := km κ) (pc := pc) (rest := st0) hr) hd ⟨B.2.2.2.2.2.2.2.2.2.1, B.2.2.2.2.2.2.2.2.2.2⟩
theorem run_S (B : Bs κ cc own nL d) (Y : YF y by_ maxL ret n) (I : Cond.static y ∈ gws) (L : Cond.methodLink own ix y ∈ gws) (hM : ∀ sz, Met (kl κ) y (.code y by_ maxL ret :: gws) (rmD d') (PcW (kx κ) As s sz) (Qc sz) 0 0 (AS (kx κ) sz)) (hd : decode cc pc = .ok (.invokestatic ix, 3)) (hdd : d' + 1 ≤ d) (hst : st0 = As.reverse ++ st) (hn : As.length = n) (hr : (st.map fun v => v.category).sum ≤ 8) : RunG κ pc lv st0 st s (fun sz => Qc sz As.toArray) := by
  intro ls H locs h hP hD hS
  exact va_runS (nL := nL) ⟨B.1, B.2.1, B.2.2.1, B.2.2.2.1, B.2.2.2.2.1⟩ (hM H.size) ⟨callB_of n B.2.2.2.2.1 (good_ws Y.1) rfl rfl rfl (B.2.2.2.2.1 _ Y.2.1) (B.2.2.2.2.1 _ L) Y.2.2.1 (room_at B hdd Y.2.2.2.1), B.2.2.2.2.1 _ I⟩ ⟨PcW.blind, pre_at B hP hD hS⟩ rfl hn (B.2.2.1 ▸ h.1) hst (lv_room (ls := ls) (m := km κ) (pc := pc) (rest := st0) hr) hd ⟨B.2.2.2.2.2.2.2.2.2.1, B.2.2.2.2.2.2.2.2.2.2⟩
theorem run_SN (B : Bs κ cc own nL d) {ho : String} (Y : YF y by_ maxL ret n) (I : Cond.static y ∈ gws) (L : Cond.methodLinkNest own ix y ho ∈ nws) (hM : ∀ sz, Met (kl κ) y (.code y by_ maxL ret :: gws) (rmD d') (PcW (kx κ) As s sz) (Qc sz) 0 0 (AS (kx κ) sz)) (hd : decode cc pc = .ok (.invokestatic ix, 3)) (hdd : d' + 1 ≤ d) (hst : st0 = As.reverse ++ st) (hn : As.length = n) (hr : (st.map fun v => v.category).sum ≤ 8) : RunG κ pc lv st0 st s (fun sz => Qc sz As.toArray) := by
  intro ls H locs h hP hD hS
  exact va_runSN (nL := nL) ⟨B.1, B.2.1, B.2.2.1, B.2.2.2.1, B.2.2.2.2.1⟩ (hM H.size) ⟨va_cnB n B.2.2.2.2.1 (good_ws Y.1) rfl rfl rfl (B.2.2.2.2.2.2.1.1 _ L) (B.2.2.2.2.1 _ Y.2.1) Y.2.2.1 (room_at B hdd Y.2.2.2.1), B.2.2.2.2.1 _ I, trivial⟩ ⟨PcW.blind, pre_at B hP hD hS⟩ rfl hn (B.2.2.1 ▸ h.1) hst (lv_room (ls := ls) (m := km κ) (pc := pc) (rest := st0) hr) hd ⟨B.2.2.2.2.2.2.2.2.2.1, B.2.2.2.2.2.2.2.2.2.2⟩
theorem R_ci {Q : Int32 → St → Prop} {a : Array Value} (hr : RunG κ pc lv st0 st s (fun sz => va_Qi Q (BW (kx κ) sz) (AS (kx κ) sz) a)) (k : ∀ (r : Int32) (s' : St), Q r s' → GW κ (pc + 3) lv (.int r :: st) s') : GW κ pc lv st0 s := by
  intro ls H locs h hP hD hS
  refine va_calli (hr ls H locs h hP hD hS) hS (fun q _ h => h.mono hS.1) (fun q h => h.mono hS.1) (fun r u t H1 locs1 ht hvm hw hB hz1 hk1 hS1 => ?_)
  obtain ⟨hP1, hK1, hD1⟩ := hB
  rw [ht] at hP1
  exact k r u hw ls H1 locs1 h hP1 (hD1.weaken (fun _ _ _ h => h.mono hS.1)) hS1
theorem R_cv {Q : St → Prop} {a : Array Value} (hr : RunG κ pc lv st0 st s (fun sz => va_Qv Q (BW (kx κ) sz) (AS (kx κ) sz) a)) (k : ∀ (s' : St), Q s' → GW κ (pc + 3) lv st s') : GW κ pc lv st0 s := by
  intro ls H locs h hP hD hS
  refine va_callv (hr ls H locs h hP hD hS) hS (fun q _ h => h.mono hS.1) (fun q h => h.mono hS.1) (fun u t H1 locs1 ht hvm hw hB hz1 hk1 hS1 => ?_)
  obtain ⟨hP1, hK1, hD1⟩ := hB
  rw [ht] at hP1
  exact k u hw ls H1 locs1 h hP1 (hD1.weaken (fun _ _ _ h => h.mono hS.1)) hS1
end GC
/-- the end of a method that answers an int, and of one that answers nothing -/
def qfI (x : Cx) (be : List Frame) (ar : Array Value) (s0 : State) (Q : Int32 → St → Prop) : State → Prop := MQ be (va_Qi Q (BW x s0.heap.size) (AS x s0.heap.size)) ar s0 0 0 (AS x s0.heap.size)
def qfV (x : Cx) (be : List Frame) (ar : Array Value) (s0 : State) (Q : St → Prop) : State → Prop := MQ be (va_Qv Q (BW x s0.heap.size) (AS x s0.heap.size)) ar s0 0 0 (AS x s0.heap.size)
/-- a frame whose end is such a one -/
def BI (κ : Kt) (ret : Option FieldType) (Q : Int32 → St → Prop) : Prop := kQ κ = qfI (kx κ) (kbe κ) (kar κ) (ks κ) Q ∧ kcl κ = 0 ∧ ksl κ = 0 ∧ (kme κ).sig.returnType = ret
def BV (κ : Kt) (Q : St → Prop) : Prop := kQ κ = qfV (kx κ) (kbe κ) (kar κ) (ks κ) Q ∧ kcl κ = 0 ∧ ksl κ = 0 ∧ (kme κ).sig.returnType = none
theorem R_iret {κ : Kt} {cc : ByteArray} {own : String} {nL d pc : Nat} {lv : List (Nat × Value)} {s : St} {v : Int32} {Q : Int32 → St → Prop} (B : Bs κ cc own nL d) (E : BI κ (some .int) Q) (hd : decode cc pc = .ok (.ireturn, 1)) (hw : Q v s) : GW κ pc lv [.int v] s := by
  intro ls H locs h hP hD hS
  obtain ⟨p, l, e, R, s0, m, ar, be, me, c, x, QF, cl, sl⟩ := κ
  obtain ⟨e1, e2, e3, e4⟩ := E
  dsimp only [kQ, kcl, ksl, kx, kbe, kar, ks, kme] at e1 e2 e3 e4
  subst e1; subst e2; subst e3
  exact W.iret B.1 B.2.1 e4 (fun t ht hW => ⟨⟨v, s, rfl, hw, by rw [ht]; exact hP, va_K.moved hW.alike B.2.2.2.2.2.1, hD⟩, hS.F ht⟩) hS.2.2 hd B.2.2.2.2.2.2.2.1
theorem R_zret {κ : Kt} {cc : ByteArray} {own : String} {nL d pc : Nat} {lv : List (Nat × Value)} {s : St} {v : Int32} {ty : FieldType} {Q : Int32 → St → Prop} (B : Bs κ cc own nL d) (E : BI κ (some ty) Q) (hd : decode cc pc = .ok (.ireturn, 1)) (hw : narrow ty (.int v) = .int v ∧ Q v s) : GW κ pc lv [.int v] s := by
  intro ls H locs h hP hD hS
  obtain ⟨p, l, e, R, s0, m, ar, be, me, c, x, QF, cl, sl⟩ := κ
  obtain ⟨e1, e2, e3, e4⟩ := E
  dsimp only [kQ, kcl, ksl, kx, kbe, kar, ks, kme] at e1 e2 e3 e4
  subst e1; subst e2; subst e3
  exact W.zret B.1 B.2.1 e4 hw.1 (fun t ht hW => ⟨⟨v, s, rfl, hw.2, by rw [ht]; exact hP, va_K.moved hW.alike B.2.2.2.2.2.1, hD⟩, hS.F ht⟩) hS.2.2 hd B.2.2.2.2.2.2.2.1
theorem R_vret {κ : Kt} {cc : ByteArray} {own : String} {nL d pc : Nat} {lv : List (Nat × Value)} {s : St} {Q : St → Prop} (B : Bs κ cc own nL d) (E : BV κ Q) (hd : decode cc pc = .ok (.return_, 1)) (hw : Q s) : GW κ pc lv [] s := by
  intro ls H locs h hP hD hS
  obtain ⟨p, l, e, R, s0, m, ar, be, me, c, x, QF, cl, sl⟩ := κ
  obtain ⟨e1, e2, e3, e4⟩ := E
  dsimp only [kQ, kcl, ksl, kx, kbe, kar, ks, kme] at e1 e2 e3 e4
  subst e1; subst e2; subst e3
  exact W.vret B.1 B.2.1 e4 (fun t ht hW => ⟨⟨s, rfl, hw, by rw [ht]; exact hP, va_K.moved hW.alike B.2.2.2.2.2.1, hD⟩, hS.F ht⟩) hS.2.2 hd B.2.2.2.2.2.2.2.1
theorem Ct.of {l : Launch} {x : Cx} {y : MethodName} {by_ : ByteArray} {maxL n d : Nat} {ret : Option FieldType} {As : List Value} {s : St} {Q : Int32 → St → Prop} (Y : YF y by_ maxL ret n) (hL : (lg_sl As).length ≤ maxL)
    (h : ∀ κ : Kt, Bs κ by_ y.cls maxL d → BI κ ret Q → kx κ = x → kl κ = l → GW κ 0 (lv_args 0 As) [] s) : Ct l x y by_ maxL ret d As s Q := by
  intro sz
  refine Met.ofW (cc := by_) (maxL := maxL) (ret := ret) Y.2.2.2.2 rfl ?_
  intro p e s0 m args below meth c s₁ B hml hv
  obtain ⟨rfl, rfl, hP, hK, hD0, hE⟩ := hv
  have hts := atoms_spec (ws := .code y by_ maxL ret :: gws) B.pre
  have hl := lv_entry As (n := maxL) hL
  rw [lg_entry_eq]
  generalize (lg_sl As ++ List.replicate (maxL - (lg_sl As).length) Slot.unset).toArray = ls at hl ⊢
  exact h (p, l, e, rmD d, s0, m, As.toArray, below, meth, c, x, qfI x below As.toArray s0 Q, 0, 0) ⟨B.exec, B.bytes, hml, findClass_of_methodNamed B.named, fun w hw => hts w (List.mem_cons_of_mem _ hw), hK, hE, B.notSynchronized, ⟨Nat.le_refl d, Nat.le_refl (60 * d)⟩, Nat.zero_le _, Nat.zero_le _⟩ ⟨rfl, rfl, rfl, B.returns⟩ rfl rfl ls s0.heap [] (hml ▸ hl) hP (wd_AS hD0) va_S.rf
theorem Cv.of {l : Launch} {x : Cx} {y : MethodName} {by_ : ByteArray} {maxL n d : Nat} {As : List Value} {s : St} {Q : St → Prop} (Y : YF y by_ maxL none n) (hL : (lg_sl As).length ≤ maxL)
    (h : ∀ κ : Kt, Bs κ by_ y.cls maxL d → BV κ Q → kx κ = x → kl κ = l → GW κ 0 (lv_args 0 As) [] s) : Cv l x y by_ maxL d As s Q := by
  intro sz
  refine Met.ofW (cc := by_) (maxL := maxL) (ret := none) Y.2.2.2.2 rfl ?_
  intro p e s0 m args below meth c s₁ B hml hv
  obtain ⟨rfl, rfl, hP, hK, hD0, hE⟩ := hv
  have hts := atoms_spec (ws := .code y by_ maxL none :: gws) B.pre
  have hl := lv_entry As (n := maxL) hL
  rw [lg_entry_eq]
  generalize (lg_sl As ++ List.replicate (maxL - (lg_sl As).length) Slot.unset).toArray = ls at hl ⊢
  exact h (p, l, e, rmD d, s0, m, As.toArray, below, meth, c, x, qfV x below As.toArray s0 Q, 0, 0) ⟨B.exec, B.bytes, hml, findClass_of_methodNamed B.named, fun w hw => hts w (List.mem_cons_of_mem _ hw), hK, hE, B.notSynchronized, ⟨Nat.le_refl d, Nat.le_refl (60 * d)⟩, Nat.zero_le _, Nat.zero_le _⟩ ⟨rfl, rfl, rfl, B.returns⟩ rfl rfl ls s0.heap [] (hml ▸ hl) hP (wd_AS hD0) va_S.rf
end
section
theorem zz_ok : True := trivial
end
