/-! the law: words, decode rows, the decompiled law and its walk -/
abbrev cL_law : ByteArray := code
theorem wg_208 : (Jvm.Cond.methodLink "DanceCardsLaw" (13 : Nat) ({ cls := "DanceCards", name := "person", desc := "(ZI)I" } : Jvm.MethodName)) ∈ gws := mem_g (i := 208) (by decide +kernel) (by decide +kernel)
theorem wg_209 : (Jvm.Cond.instanceMethod ({ cls := "DanceCards", name := "person", desc := "(ZI)I" } : Jvm.MethodName)) ∈ gws := mem_g (i := 209) (by decide +kernel) (by decide +kernel)
theorem wg_210 : (Jvm.Cond.selects "DanceCards" ({ cls := "DanceCards", name := "person", desc := "(ZI)I" } : Jvm.MethodName) ({ cls := "DanceCards", name := "person", desc := "(ZI)I" } : Jvm.MethodName)) ∈ gws := mem_g (i := 210) (by decide +kernel) (by decide +kernel)
theorem wg_219 : (Jvm.Cond.methodLink "DanceCardsLaw" (18 : Nat) ({ cls := "DanceCards", name := "introduce", desc := "(III)I" } : Jvm.MethodName)) ∈ gws := mem_g (i := 219) (by decide +kernel) (by decide +kernel)
theorem wg_220 : (Jvm.Cond.instanceMethod ({ cls := "DanceCards", name := "introduce", desc := "(III)I" } : Jvm.MethodName)) ∈ gws := mem_g (i := 220) (by decide +kernel) (by decide +kernel)
theorem wg_221 : (Jvm.Cond.selects "DanceCards" ({ cls := "DanceCards", name := "introduce", desc := "(III)I" } : Jvm.MethodName) ({ cls := "DanceCards", name := "introduce", desc := "(III)I" } : Jvm.MethodName)) ∈ gws := mem_g (i := 221) (by decide +kernel) (by decide +kernel)
theorem wg_239 : (Jvm.Cond.methodLink "DanceCardsLaw" (23 : Nat) ({ cls := "DanceCards", name := "feud", desc := "(IIZ)I" } : Jvm.MethodName)) ∈ gws := mem_g (i := 239) (by decide +kernel) (by decide +kernel)
theorem wg_240 : (Jvm.Cond.instanceMethod ({ cls := "DanceCards", name := "feud", desc := "(IIZ)I" } : Jvm.MethodName)) ∈ gws := mem_g (i := 240) (by decide +kernel) (by decide +kernel)
theorem wg_241 : (Jvm.Cond.selects "DanceCards" ({ cls := "DanceCards", name := "feud", desc := "(IIZ)I" } : Jvm.MethodName) ({ cls := "DanceCards", name := "feud", desc := "(IIZ)I" } : Jvm.MethodName)) ∈ gws := mem_g (i := 241) (by decide +kernel) (by decide +kernel)
theorem wg_254 : (Jvm.Cond.methodLink "DanceCardsLaw" (28 : Nat) ({ cls := "DanceCards", name := "knows", desc := "(II)I" } : Jvm.MethodName)) ∈ gws := mem_g (i := 254) (by decide +kernel) (by decide +kernel)
theorem wg_255 : (Jvm.Cond.instanceMethod ({ cls := "DanceCards", name := "knows", desc := "(II)I" } : Jvm.MethodName)) ∈ gws := mem_g (i := 255) (by decide +kernel) (by decide +kernel)
theorem wg_256 : (Jvm.Cond.selects "DanceCards" ({ cls := "DanceCards", name := "knows", desc := "(II)I" } : Jvm.MethodName) ({ cls := "DanceCards", name := "knows", desc := "(II)I" } : Jvm.MethodName)) ∈ gws := mem_g (i := 256) (by decide +kernel) (by decide +kernel)
theorem wg_258 : (Jvm.Cond.methodLink "DanceCardsLaw" (35 : Nat) ({ cls := "DanceCards", name := "feed", desc := "(J)I" } : Jvm.MethodName)) ∈ gws := mem_g (i := 258) (by decide +kernel) (by decide +kernel)
theorem wg_259 : (Jvm.Cond.instanceMethod ({ cls := "DanceCards", name := "feed", desc := "(J)I" } : Jvm.MethodName)) ∈ gws := mem_g (i := 259) (by decide +kernel) (by decide +kernel)
theorem wg_260 : (Jvm.Cond.selects "DanceCards" ({ cls := "DanceCards", name := "feed", desc := "(J)I" } : Jvm.MethodName) ({ cls := "DanceCards", name := "feed", desc := "(J)I" } : Jvm.MethodName)) ∈ gws := mem_g (i := 260) (by decide +kernel) (by decide +kernel)
theorem wg_266 : (Jvm.Cond.methodLink "DanceCardsLaw" (40 : Nat) ({ cls := "DanceCards", name := "end", desc := "(I)I" } : Jvm.MethodName)) ∈ gws := mem_g (i := 266) (by decide +kernel) (by decide +kernel)
theorem wg_267 : (Jvm.Cond.instanceMethod ({ cls := "DanceCards", name := "end", desc := "(I)I" } : Jvm.MethodName)) ∈ gws := mem_g (i := 267) (by decide +kernel) (by decide +kernel)
theorem wg_268 : (Jvm.Cond.selects "DanceCards" ({ cls := "DanceCards", name := "end", desc := "(I)I" } : Jvm.MethodName) ({ cls := "DanceCards", name := "end", desc := "(I)I" } : Jvm.MethodName)) ∈ gws := mem_g (i := 268) (by decide +kernel) (by decide +kernel)
theorem wg_275 : (Jvm.Cond.methodLink "DanceCardsLaw" (45 : Nat) ({ cls := "DanceCards", name := "customs", desc := "()I" } : Jvm.MethodName)) ∈ gws := mem_g (i := 275) (by decide +kernel) (by decide +kernel)
theorem wg_276 : (Jvm.Cond.instanceMethod ({ cls := "DanceCards", name := "customs", desc := "()I" } : Jvm.MethodName)) ∈ gws := mem_g (i := 276) (by decide +kernel) (by decide +kernel)
theorem wg_277 : (Jvm.Cond.selects "DanceCards" ({ cls := "DanceCards", name := "customs", desc := "()I" } : Jvm.MethodName) ({ cls := "DanceCards", name := "customs", desc := "()I" } : Jvm.MethodName)) ∈ gws := mem_g (i := 277) (by decide +kernel) (by decide +kernel)
theorem wg_390 : (Jvm.Cond.methodLink "DanceCardsLaw" (50 : Nat) ({ cls := "DanceCards", name := "fault", desc := "()I" } : Jvm.MethodName)) ∈ gws := mem_g (i := 390) (by decide +kernel) (by decide +kernel)
theorem wg_391 : (Jvm.Cond.instanceMethod ({ cls := "DanceCards", name := "fault", desc := "()I" } : Jvm.MethodName)) ∈ gws := mem_g (i := 391) (by decide +kernel) (by decide +kernel)
theorem wg_392 : (Jvm.Cond.selects "DanceCards" ({ cls := "DanceCards", name := "fault", desc := "()I" } : Jvm.MethodName) ({ cls := "DanceCards", name := "fault", desc := "()I" } : Jvm.MethodName)) ∈ gws := mem_g (i := 392) (by decide +kernel) (by decide +kernel)
theorem wg_394 : (Jvm.Cond.methodLink "DanceCardsLaw" (54 : Nat) ({ cls := "DanceCards", name := "custom", desc := "(I)I" } : Jvm.MethodName)) ∈ gws := mem_g (i := 394) (by decide +kernel) (by decide +kernel)
theorem wg_395 : (Jvm.Cond.instanceMethod ({ cls := "DanceCards", name := "custom", desc := "(I)I" } : Jvm.MethodName)) ∈ gws := mem_g (i := 395) (by decide +kernel) (by decide +kernel)
theorem wg_396 : (Jvm.Cond.selects "DanceCards" ({ cls := "DanceCards", name := "custom", desc := "(I)I" } : Jvm.MethodName) ({ cls := "DanceCards", name := "custom", desc := "(I)I" } : Jvm.MethodName)) ∈ gws := mem_g (i := 396) (by decide +kernel) (by decide +kernel)
theorem wg_398 : (Jvm.Cond.methodLink "DanceCardsLaw" (58 : Nat) ({ cls := "DanceCards", name := "ask", desc := "(III)I" } : Jvm.MethodName)) ∈ gws := mem_g (i := 398) (by decide +kernel) (by decide +kernel)
theorem wg_399 : (Jvm.Cond.instanceMethod ({ cls := "DanceCards", name := "ask", desc := "(III)I" } : Jvm.MethodName)) ∈ gws := mem_g (i := 399) (by decide +kernel) (by decide +kernel)
theorem wg_400 : (Jvm.Cond.selects "DanceCards" ({ cls := "DanceCards", name := "ask", desc := "(III)I" } : Jvm.MethodName) ({ cls := "DanceCards", name := "ask", desc := "(III)I" } : Jvm.MethodName)) ∈ gws := mem_g (i := 400) (by decide +kernel) (by decide +kernel)
theorem wg_470 : (Jvm.Cond.methodLink "DanceCardsLaw" (62 : Nat) ({ cls := "DanceCards", name := "why", desc := "(III)I" } : Jvm.MethodName)) ∈ gws := mem_g (i := 470) (by decide +kernel) (by decide +kernel)
theorem wg_471 : (Jvm.Cond.instanceMethod ({ cls := "DanceCards", name := "why", desc := "(III)I" } : Jvm.MethodName)) ∈ gws := mem_g (i := 471) (by decide +kernel) (by decide +kernel)
theorem wg_472 : (Jvm.Cond.selects "DanceCards" ({ cls := "DanceCards", name := "why", desc := "(III)I" } : Jvm.MethodName) ({ cls := "DanceCards", name := "why", desc := "(III)I" } : Jvm.MethodName)) ∈ gws := mem_g (i := 472) (by decide +kernel) (by decide +kernel)
theorem wg_474 : (Jvm.Cond.methodLink "DanceCardsLaw" (66 : Nat) ({ cls := "DanceCards", name := "refuse", desc := "(III)I" } : Jvm.MethodName)) ∈ gws := mem_g (i := 474) (by decide +kernel) (by decide +kernel)
theorem wg_475 : (Jvm.Cond.instanceMethod ({ cls := "DanceCards", name := "refuse", desc := "(III)I" } : Jvm.MethodName)) ∈ gws := mem_g (i := 475) (by decide +kernel) (by decide +kernel)
theorem wg_476 : (Jvm.Cond.selects "DanceCards" ({ cls := "DanceCards", name := "refuse", desc := "(III)I" } : Jvm.MethodName) ({ cls := "DanceCards", name := "refuse", desc := "(III)I" } : Jvm.MethodName)) ∈ gws := mem_g (i := 476) (by decide +kernel) (by decide +kernel)
theorem wg_482 : (Jvm.Cond.methodLink "DanceCardsLaw" (70 : Nat) ({ cls := "DanceCards", name := "part", desc := "(III)I" } : Jvm.MethodName)) ∈ gws := mem_g (i := 482) (by decide +kernel) (by decide +kernel)
theorem wg_483 : (Jvm.Cond.instanceMethod ({ cls := "DanceCards", name := "part", desc := "(III)I" } : Jvm.MethodName)) ∈ gws := mem_g (i := 483) (by decide +kernel) (by decide +kernel)
theorem wg_484 : (Jvm.Cond.selects "DanceCards" ({ cls := "DanceCards", name := "part", desc := "(III)I" } : Jvm.MethodName) ({ cls := "DanceCards", name := "part", desc := "(III)I" } : Jvm.MethodName)) ∈ gws := mem_g (i := 484) (by decide +kernel) (by decide +kernel)
theorem wg_491 : (Jvm.Cond.methodLink "DanceCardsLaw" (74 : Nat) ({ cls := "DanceCards", name := "swap", desc := "(III)I" } : Jvm.MethodName)) ∈ gws := mem_g (i := 491) (by decide +kernel) (by decide +kernel)
theorem wg_492 : (Jvm.Cond.instanceMethod ({ cls := "DanceCards", name := "swap", desc := "(III)I" } : Jvm.MethodName)) ∈ gws := mem_g (i := 492) (by decide +kernel) (by decide +kernel)
theorem wg_493 : (Jvm.Cond.selects "DanceCards" ({ cls := "DanceCards", name := "swap", desc := "(III)I" } : Jvm.MethodName) ({ cls := "DanceCards", name := "swap", desc := "(III)I" } : Jvm.MethodName)) ∈ gws := mem_g (i := 493) (by decide +kernel) (by decide +kernel)
theorem wg_496 : (Jvm.Cond.methodLink "DanceCardsLaw" (78 : Nat) ({ cls := "DanceCards", name := "card", desc := "(II)I" } : Jvm.MethodName)) ∈ gws := mem_g (i := 496) (by decide +kernel) (by decide +kernel)
theorem wg_497 : (Jvm.Cond.instanceMethod ({ cls := "DanceCards", name := "card", desc := "(II)I" } : Jvm.MethodName)) ∈ gws := mem_g (i := 497) (by decide +kernel) (by decide +kernel)
theorem wg_498 : (Jvm.Cond.selects "DanceCards" ({ cls := "DanceCards", name := "card", desc := "(II)I" } : Jvm.MethodName) ({ cls := "DanceCards", name := "card", desc := "(II)I" } : Jvm.MethodName)) ∈ gws := mem_g (i := 498) (by decide +kernel) (by decide +kernel)
theorem wg_500 : (Jvm.Cond.methodLink "DanceCardsLaw" (82 : Nat) ({ cls := "DanceCards", name := "ill", desc := "(I)I" } : Jvm.MethodName)) ∈ gws := mem_g (i := 500) (by decide +kernel) (by decide +kernel)
theorem wg_501 : (Jvm.Cond.instanceMethod ({ cls := "DanceCards", name := "ill", desc := "(I)I" } : Jvm.MethodName)) ∈ gws := mem_g (i := 501) (by decide +kernel) (by decide +kernel)
theorem wg_502 : (Jvm.Cond.selects "DanceCards" ({ cls := "DanceCards", name := "ill", desc := "(I)I" } : Jvm.MethodName) ({ cls := "DanceCards", name := "ill", desc := "(I)I" } : Jvm.MethodName)) ∈ gws := mem_g (i := 502) (by decide +kernel) (by decide +kernel)
theorem wg_513 : (Jvm.Cond.methodLink "DanceCardsLaw" (86 : Nat) ({ cls := "DanceCards", name := "well", desc := "(I)I" } : Jvm.MethodName)) ∈ gws := mem_g (i := 513) (by decide +kernel) (by decide +kernel)
theorem wg_514 : (Jvm.Cond.instanceMethod ({ cls := "DanceCards", name := "well", desc := "(I)I" } : Jvm.MethodName)) ∈ gws := mem_g (i := 514) (by decide +kernel) (by decide +kernel)
theorem wg_515 : (Jvm.Cond.selects "DanceCards" ({ cls := "DanceCards", name := "well", desc := "(I)I" } : Jvm.MethodName) ({ cls := "DanceCards", name := "well", desc := "(I)I" } : Jvm.MethodName)) ∈ gws := mem_g (i := 515) (by decide +kernel) (by decide +kernel)
theorem wg_517 : (Jvm.Cond.methodLink "DanceCardsLaw" (90 : Nat) ({ cls := "DanceCards", name := "could", desc := "(I)I" } : Jvm.MethodName)) ∈ gws := mem_g (i := 517) (by decide +kernel) (by decide +kernel)
theorem wg_518 : (Jvm.Cond.instanceMethod ({ cls := "DanceCards", name := "could", desc := "(I)I" } : Jvm.MethodName)) ∈ gws := mem_g (i := 518) (by decide +kernel) (by decide +kernel)
theorem wg_519 : (Jvm.Cond.selects "DanceCards" ({ cls := "DanceCards", name := "could", desc := "(I)I" } : Jvm.MethodName) ({ cls := "DanceCards", name := "could", desc := "(I)I" } : Jvm.MethodName)) ∈ gws := mem_g (i := 519) (by decide +kernel) (by decide +kernel)
theorem wg_546 : (Jvm.Cond.methodLink "DanceCardsLaw" (94 : Nat) ({ cls := "DanceCards", name := "fill", desc := "(I)I" } : Jvm.MethodName)) ∈ gws := mem_g (i := 546) (by decide +kernel) (by decide +kernel)
theorem wg_547 : (Jvm.Cond.instanceMethod ({ cls := "DanceCards", name := "fill", desc := "(I)I" } : Jvm.MethodName)) ∈ gws := mem_g (i := 547) (by decide +kernel) (by decide +kernel)
theorem wg_548 : (Jvm.Cond.selects "DanceCards" ({ cls := "DanceCards", name := "fill", desc := "(I)I" } : Jvm.MethodName) ({ cls := "DanceCards", name := "fill", desc := "(I)I" } : Jvm.MethodName)) ∈ gws := mem_g (i := 548) (by decide +kernel) (by decide +kernel)
theorem wg_559 : (Jvm.Cond.methodLink "DanceCardsLaw" (98 : Nat) ({ cls := "DanceCards", name := "about", desc := "(II)I" } : Jvm.MethodName)) ∈ gws := mem_g (i := 559) (by decide +kernel) (by decide +kernel)
theorem wg_560 : (Jvm.Cond.instanceMethod ({ cls := "DanceCards", name := "about", desc := "(II)I" } : Jvm.MethodName)) ∈ gws := mem_g (i := 560) (by decide +kernel) (by decide +kernel)
theorem wg_561 : (Jvm.Cond.selects "DanceCards" ({ cls := "DanceCards", name := "about", desc := "(II)I" } : Jvm.MethodName) ({ cls := "DanceCards", name := "about", desc := "(II)I" } : Jvm.MethodName)) ∈ gws := mem_g (i := 561) (by decide +kernel) (by decide +kernel)
theorem wg_586 : (Jvm.Cond.methodLink "DanceCardsLaw" (102 : Nat) ({ cls := "DanceCards", name := "sheet", desc := "(III)I" } : Jvm.MethodName)) ∈ gws := mem_g (i := 586) (by decide +kernel) (by decide +kernel)
theorem wg_587 : (Jvm.Cond.instanceMethod ({ cls := "DanceCards", name := "sheet", desc := "(III)I" } : Jvm.MethodName)) ∈ gws := mem_g (i := 587) (by decide +kernel) (by decide +kernel)
theorem wg_588 : (Jvm.Cond.selects "DanceCards" ({ cls := "DanceCards", name := "sheet", desc := "(III)I" } : Jvm.MethodName) ({ cls := "DanceCards", name := "sheet", desc := "(III)I" } : Jvm.MethodName)) ∈ gws := mem_g (i := 588) (by decide +kernel) (by decide +kernel)
theorem wg_600 : (Jvm.Cond.methodLink "DanceCardsLaw" (106 : Nat) ({ cls := "DanceCards", name := "lay", desc := "(III)I" } : Jvm.MethodName)) ∈ gws := mem_g (i := 600) (by decide +kernel) (by decide +kernel)
theorem wg_601 : (Jvm.Cond.instanceMethod ({ cls := "DanceCards", name := "lay", desc := "(III)I" } : Jvm.MethodName)) ∈ gws := mem_g (i := 601) (by decide +kernel) (by decide +kernel)
theorem wg_602 : (Jvm.Cond.selects "DanceCards" ({ cls := "DanceCards", name := "lay", desc := "(III)I" } : Jvm.MethodName) ({ cls := "DanceCards", name := "lay", desc := "(III)I" } : Jvm.MethodName)) ∈ gws := mem_g (i := 602) (by decide +kernel) (by decide +kernel)
theorem wg_619 : (Jvm.Cond.methodLink "DanceCardsLaw" (110 : Nat) ({ cls := "DanceCards", name := "scan", desc := "(IIII)I" } : Jvm.MethodName)) ∈ gws := mem_g (i := 619) (by decide +kernel) (by decide +kernel)
theorem wg_620 : (Jvm.Cond.instanceMethod ({ cls := "DanceCards", name := "scan", desc := "(IIII)I" } : Jvm.MethodName)) ∈ gws := mem_g (i := 620) (by decide +kernel) (by decide +kernel)
theorem wg_621 : (Jvm.Cond.selects "DanceCards" ({ cls := "DanceCards", name := "scan", desc := "(IIII)I" } : Jvm.MethodName) ({ cls := "DanceCards", name := "scan", desc := "(IIII)I" } : Jvm.MethodName)) ∈ gws := mem_g (i := 621) (by decide +kernel) (by decide +kernel)
theorem wg_635 : (Jvm.Cond.methodLink "DanceCardsLaw" (115 : Nat) ({ cls := "DanceCards", name := "wish", desc := "(III)I" } : Jvm.MethodName)) ∈ gws := mem_g (i := 635) (by decide +kernel) (by decide +kernel)
theorem wg_636 : (Jvm.Cond.instanceMethod ({ cls := "DanceCards", name := "wish", desc := "(III)I" } : Jvm.MethodName)) ∈ gws := mem_g (i := 636) (by decide +kernel) (by decide +kernel)
theorem wg_637 : (Jvm.Cond.selects "DanceCards" ({ cls := "DanceCards", name := "wish", desc := "(III)I" } : Jvm.MethodName) ({ cls := "DanceCards", name := "wish", desc := "(III)I" } : Jvm.MethodName)) ∈ gws := mem_g (i := 637) (by decide +kernel) (by decide +kernel)
theorem wg_643 : (Jvm.Cond.methodLink "DanceCardsLaw" (119 : Nat) ({ cls := "DanceCards", name := "fewest", desc := "()I" } : Jvm.MethodName)) ∈ gws := mem_g (i := 643) (by decide +kernel) (by decide +kernel)
theorem wg_644 : (Jvm.Cond.instanceMethod ({ cls := "DanceCards", name := "fewest", desc := "()I" } : Jvm.MethodName)) ∈ gws := mem_g (i := 644) (by decide +kernel) (by decide +kernel)
theorem wg_645 : (Jvm.Cond.selects "DanceCards" ({ cls := "DanceCards", name := "fewest", desc := "()I" } : Jvm.MethodName) ({ cls := "DanceCards", name := "fewest", desc := "()I" } : Jvm.MethodName)) ∈ gws := mem_g (i := 645) (by decide +kernel) (by decide +kernel)
theorem wg_656 : (Jvm.Cond.methodLink "DanceCardsLaw" (123 : Nat) ({ cls := "DanceCards", name := "laid", desc := "(II)I" } : Jvm.MethodName)) ∈ gws := mem_g (i := 656) (by decide +kernel) (by decide +kernel)
theorem wg_657 : (Jvm.Cond.instanceMethod ({ cls := "DanceCards", name := "laid", desc := "(II)I" } : Jvm.MethodName)) ∈ gws := mem_g (i := 657) (by decide +kernel) (by decide +kernel)
theorem wg_658 : (Jvm.Cond.selects "DanceCards" ({ cls := "DanceCards", name := "laid", desc := "(II)I" } : Jvm.MethodName) ({ cls := "DanceCards", name := "laid", desc := "(II)I" } : Jvm.MethodName)) ∈ gws := mem_g (i := 658) (by decide +kernel) (by decide +kernel)
theorem wg_689 : (Jvm.Cond.methodLink "DanceCardsLaw" (127 : Nat) ({ cls := "DanceCards", name := "sets", desc := "(I)I" } : Jvm.MethodName)) ∈ gws := mem_g (i := 689) (by decide +kernel) (by decide +kernel)
theorem wg_690 : (Jvm.Cond.instanceMethod ({ cls := "DanceCards", name := "sets", desc := "(I)I" } : Jvm.MethodName)) ∈ gws := mem_g (i := 690) (by decide +kernel) (by decide +kernel)
theorem wg_691 : (Jvm.Cond.selects "DanceCards" ({ cls := "DanceCards", name := "sets", desc := "(I)I" } : Jvm.MethodName) ({ cls := "DanceCards", name := "sets", desc := "(I)I" } : Jvm.MethodName)) ∈ gws := mem_g (i := 691) (by decide +kernel) (by decide +kernel)
theorem wg_725 : (Jvm.Cond.methodLink "DanceCardsLaw" (131 : Nat) ({ cls := "DanceCards", name := "set", desc := "(II)I" } : Jvm.MethodName)) ∈ gws := mem_g (i := 725) (by decide +kernel) (by decide +kernel)
theorem wg_726 : (Jvm.Cond.instanceMethod ({ cls := "DanceCards", name := "set", desc := "(II)I" } : Jvm.MethodName)) ∈ gws := mem_g (i := 726) (by decide +kernel) (by decide +kernel)
theorem wg_727 : (Jvm.Cond.selects "DanceCards" ({ cls := "DanceCards", name := "set", desc := "(II)I" } : Jvm.MethodName) ({ cls := "DanceCards", name := "set", desc := "(II)I" } : Jvm.MethodName)) ∈ gws := mem_g (i := 727) (by decide +kernel) (by decide +kernel)
theorem wg_733 : (Jvm.Cond.methodLink "DanceCardsLaw" (135 : Nat) ({ cls := "DanceCards", name := "count", desc := "(I)I" } : Jvm.MethodName)) ∈ gws := mem_g (i := 733) (by decide +kernel) (by decide +kernel)
theorem wg_734 : (Jvm.Cond.instanceMethod ({ cls := "DanceCards", name := "count", desc := "(I)I" } : Jvm.MethodName)) ∈ gws := mem_g (i := 734) (by decide +kernel) (by decide +kernel)
theorem wg_735 : (Jvm.Cond.selects "DanceCards" ({ cls := "DanceCards", name := "count", desc := "(I)I" } : Jvm.MethodName) ({ cls := "DanceCards", name := "count", desc := "(I)I" } : Jvm.MethodName)) ∈ gws := mem_g (i := 735) (by decide +kernel) (by decide +kernel)
theorem wg_860 : (Jvm.Cond.methodLink "DanceCardsLaw" (17 : Nat) ({ cls := "DanceCardsModel", name := "person", desc := "(ZI)I" } : Jvm.MethodName)) ∈ gws := mem_g (i := 860) (by decide +kernel) (by decide +kernel)
theorem wg_861 : (Jvm.Cond.instanceMethod ({ cls := "DanceCardsModel", name := "person", desc := "(ZI)I" } : Jvm.MethodName)) ∈ gws := mem_g (i := 861) (by decide +kernel) (by decide +kernel)
theorem wg_862 : (Jvm.Cond.selects "DanceCardsModel" ({ cls := "DanceCardsModel", name := "person", desc := "(ZI)I" } : Jvm.MethodName) ({ cls := "DanceCardsModel", name := "person", desc := "(ZI)I" } : Jvm.MethodName)) ∈ gws := mem_g (i := 862) (by decide +kernel) (by decide +kernel)
theorem wg_868 : (Jvm.Cond.methodLink "DanceCardsLaw" (22 : Nat) ({ cls := "DanceCardsModel", name := "introduce", desc := "(III)I" } : Jvm.MethodName)) ∈ gws := mem_g (i := 868) (by decide +kernel) (by decide +kernel)
theorem wg_869 : (Jvm.Cond.instanceMethod ({ cls := "DanceCardsModel", name := "introduce", desc := "(III)I" } : Jvm.MethodName)) ∈ gws := mem_g (i := 869) (by decide +kernel) (by decide +kernel)
theorem wg_870 : (Jvm.Cond.selects "DanceCardsModel" ({ cls := "DanceCardsModel", name := "introduce", desc := "(III)I" } : Jvm.MethodName) ({ cls := "DanceCardsModel", name := "introduce", desc := "(III)I" } : Jvm.MethodName)) ∈ gws := mem_g (i := 870) (by decide +kernel) (by decide +kernel)
theorem wg_884 : (Jvm.Cond.methodLink "DanceCardsLaw" (27 : Nat) ({ cls := "DanceCardsModel", name := "feud", desc := "(IIZ)I" } : Jvm.MethodName)) ∈ gws := mem_g (i := 884) (by decide +kernel) (by decide +kernel)
theorem wg_885 : (Jvm.Cond.instanceMethod ({ cls := "DanceCardsModel", name := "feud", desc := "(IIZ)I" } : Jvm.MethodName)) ∈ gws := mem_g (i := 885) (by decide +kernel) (by decide +kernel)
theorem wg_886 : (Jvm.Cond.selects "DanceCardsModel" ({ cls := "DanceCardsModel", name := "feud", desc := "(IIZ)I" } : Jvm.MethodName) ({ cls := "DanceCardsModel", name := "feud", desc := "(IIZ)I" } : Jvm.MethodName)) ∈ gws := mem_g (i := 886) (by decide +kernel) (by decide +kernel)
theorem wg_888 : (Jvm.Cond.methodLink "DanceCardsLaw" (32 : Nat) ({ cls := "DanceCardsModel", name := "knows", desc := "(II)I" } : Jvm.MethodName)) ∈ gws := mem_g (i := 888) (by decide +kernel) (by decide +kernel)
theorem wg_889 : (Jvm.Cond.instanceMethod ({ cls := "DanceCardsModel", name := "knows", desc := "(II)I" } : Jvm.MethodName)) ∈ gws := mem_g (i := 889) (by decide +kernel) (by decide +kernel)
theorem wg_890 : (Jvm.Cond.selects "DanceCardsModel" ({ cls := "DanceCardsModel", name := "knows", desc := "(II)I" } : Jvm.MethodName) ({ cls := "DanceCardsModel", name := "knows", desc := "(II)I" } : Jvm.MethodName)) ∈ gws := mem_g (i := 890) (by decide +kernel) (by decide +kernel)
theorem wg_892 : (Jvm.Cond.methodLink "DanceCardsLaw" (39 : Nat) ({ cls := "DanceCardsModel", name := "feed", desc := "(J)I" } : Jvm.MethodName)) ∈ gws := mem_g (i := 892) (by decide +kernel) (by decide +kernel)
theorem wg_893 : (Jvm.Cond.instanceMethod ({ cls := "DanceCardsModel", name := "feed", desc := "(J)I" } : Jvm.MethodName)) ∈ gws := mem_g (i := 893) (by decide +kernel) (by decide +kernel)
theorem wg_894 : (Jvm.Cond.selects "DanceCardsModel" ({ cls := "DanceCardsModel", name := "feed", desc := "(J)I" } : Jvm.MethodName) ({ cls := "DanceCardsModel", name := "feed", desc := "(J)I" } : Jvm.MethodName)) ∈ gws := mem_g (i := 894) (by decide +kernel) (by decide +kernel)
theorem wg_896 : (Jvm.Cond.methodLink "DanceCardsLaw" (44 : Nat) ({ cls := "DanceCardsModel", name := "end", desc := "(I)I" } : Jvm.MethodName)) ∈ gws := mem_g (i := 896) (by decide +kernel) (by decide +kernel)
theorem wg_897 : (Jvm.Cond.instanceMethod ({ cls := "DanceCardsModel", name := "end", desc := "(I)I" } : Jvm.MethodName)) ∈ gws := mem_g (i := 897) (by decide +kernel) (by decide +kernel)
theorem wg_898 : (Jvm.Cond.selects "DanceCardsModel" ({ cls := "DanceCardsModel", name := "end", desc := "(I)I" } : Jvm.MethodName) ({ cls := "DanceCardsModel", name := "end", desc := "(I)I" } : Jvm.MethodName)) ∈ gws := mem_g (i := 898) (by decide +kernel) (by decide +kernel)
theorem wg_900 : (Jvm.Cond.methodLink "DanceCardsLaw" (49 : Nat) ({ cls := "DanceCardsModel", name := "customs", desc := "()I" } : Jvm.MethodName)) ∈ gws := mem_g (i := 900) (by decide +kernel) (by decide +kernel)
theorem wg_901 : (Jvm.Cond.instanceMethod ({ cls := "DanceCardsModel", name := "customs", desc := "()I" } : Jvm.MethodName)) ∈ gws := mem_g (i := 901) (by decide +kernel) (by decide +kernel)
theorem wg_902 : (Jvm.Cond.selects "DanceCardsModel" ({ cls := "DanceCardsModel", name := "customs", desc := "()I" } : Jvm.MethodName) ({ cls := "DanceCardsModel", name := "customs", desc := "()I" } : Jvm.MethodName)) ∈ gws := mem_g (i := 902) (by decide +kernel) (by decide +kernel)
theorem wg_935 : (Jvm.Cond.methodLink "DanceCardsLaw" (53 : Nat) ({ cls := "DanceCardsModel", name := "fault", desc := "()I" } : Jvm.MethodName)) ∈ gws := mem_g (i := 935) (by decide +kernel) (by decide +kernel)
theorem wg_936 : (Jvm.Cond.instanceMethod ({ cls := "DanceCardsModel", name := "fault", desc := "()I" } : Jvm.MethodName)) ∈ gws := mem_g (i := 936) (by decide +kernel) (by decide +kernel)
theorem wg_937 : (Jvm.Cond.selects "DanceCardsModel" ({ cls := "DanceCardsModel", name := "fault", desc := "()I" } : Jvm.MethodName) ({ cls := "DanceCardsModel", name := "fault", desc := "()I" } : Jvm.MethodName)) ∈ gws := mem_g (i := 937) (by decide +kernel) (by decide +kernel)
theorem wg_939 : (Jvm.Cond.methodLink "DanceCardsLaw" (57 : Nat) ({ cls := "DanceCardsModel", name := "custom", desc := "(I)I" } : Jvm.MethodName)) ∈ gws := mem_g (i := 939) (by decide +kernel) (by decide +kernel)
theorem wg_940 : (Jvm.Cond.instanceMethod ({ cls := "DanceCardsModel", name := "custom", desc := "(I)I" } : Jvm.MethodName)) ∈ gws := mem_g (i := 940) (by decide +kernel) (by decide +kernel)
theorem wg_941 : (Jvm.Cond.selects "DanceCardsModel" ({ cls := "DanceCardsModel", name := "custom", desc := "(I)I" } : Jvm.MethodName) ({ cls := "DanceCardsModel", name := "custom", desc := "(I)I" } : Jvm.MethodName)) ∈ gws := mem_g (i := 941) (by decide +kernel) (by decide +kernel)
theorem wg_944 : (Jvm.Cond.methodLink "DanceCardsLaw" (61 : Nat) ({ cls := "DanceCardsModel", name := "ask", desc := "(III)I" } : Jvm.MethodName)) ∈ gws := mem_g (i := 944) (by decide +kernel) (by decide +kernel)
theorem wg_981 : (Jvm.Cond.methodLink "DanceCardsLaw" (65 : Nat) ({ cls := "DanceCardsModel", name := "why", desc := "(III)I" } : Jvm.MethodName)) ∈ gws := mem_g (i := 981) (by decide +kernel) (by decide +kernel)
theorem wg_982 : (Jvm.Cond.instanceMethod ({ cls := "DanceCardsModel", name := "why", desc := "(III)I" } : Jvm.MethodName)) ∈ gws := mem_g (i := 982) (by decide +kernel) (by decide +kernel)
theorem wg_983 : (Jvm.Cond.selects "DanceCardsModel" ({ cls := "DanceCardsModel", name := "why", desc := "(III)I" } : Jvm.MethodName) ({ cls := "DanceCardsModel", name := "why", desc := "(III)I" } : Jvm.MethodName)) ∈ gws := mem_g (i := 983) (by decide +kernel) (by decide +kernel)
theorem wg_985 : (Jvm.Cond.methodLink "DanceCardsLaw" (69 : Nat) ({ cls := "DanceCardsModel", name := "refuse", desc := "(III)I" } : Jvm.MethodName)) ∈ gws := mem_g (i := 985) (by decide +kernel) (by decide +kernel)
theorem wg_986 : (Jvm.Cond.instanceMethod ({ cls := "DanceCardsModel", name := "refuse", desc := "(III)I" } : Jvm.MethodName)) ∈ gws := mem_g (i := 986) (by decide +kernel) (by decide +kernel)
theorem wg_987 : (Jvm.Cond.selects "DanceCardsModel" ({ cls := "DanceCardsModel", name := "refuse", desc := "(III)I" } : Jvm.MethodName) ({ cls := "DanceCardsModel", name := "refuse", desc := "(III)I" } : Jvm.MethodName)) ∈ gws := mem_g (i := 987) (by decide +kernel) (by decide +kernel)
theorem wg_989 : (Jvm.Cond.methodLink "DanceCardsLaw" (73 : Nat) ({ cls := "DanceCardsModel", name := "part", desc := "(III)I" } : Jvm.MethodName)) ∈ gws := mem_g (i := 989) (by decide +kernel) (by decide +kernel)
theorem wg_990 : (Jvm.Cond.instanceMethod ({ cls := "DanceCardsModel", name := "part", desc := "(III)I" } : Jvm.MethodName)) ∈ gws := mem_g (i := 990) (by decide +kernel) (by decide +kernel)
theorem wg_991 : (Jvm.Cond.selects "DanceCardsModel" ({ cls := "DanceCardsModel", name := "part", desc := "(III)I" } : Jvm.MethodName) ({ cls := "DanceCardsModel", name := "part", desc := "(III)I" } : Jvm.MethodName)) ∈ gws := mem_g (i := 991) (by decide +kernel) (by decide +kernel)
theorem wg_997 : (Jvm.Cond.methodLink "DanceCardsLaw" (77 : Nat) ({ cls := "DanceCardsModel", name := "swap", desc := "(III)I" } : Jvm.MethodName)) ∈ gws := mem_g (i := 997) (by decide +kernel) (by decide +kernel)
theorem wg_998 : (Jvm.Cond.instanceMethod ({ cls := "DanceCardsModel", name := "swap", desc := "(III)I" } : Jvm.MethodName)) ∈ gws := mem_g (i := 998) (by decide +kernel) (by decide +kernel)
theorem wg_999 : (Jvm.Cond.selects "DanceCardsModel" ({ cls := "DanceCardsModel", name := "swap", desc := "(III)I" } : Jvm.MethodName) ({ cls := "DanceCardsModel", name := "swap", desc := "(III)I" } : Jvm.MethodName)) ∈ gws := mem_g (i := 999) (by decide +kernel) (by decide +kernel)
theorem wg_1001 : (Jvm.Cond.methodLink "DanceCardsLaw" (81 : Nat) ({ cls := "DanceCardsModel", name := "card", desc := "(II)I" } : Jvm.MethodName)) ∈ gws := mem_g (i := 1001) (by decide +kernel) (by decide +kernel)
theorem wg_1002 : (Jvm.Cond.instanceMethod ({ cls := "DanceCardsModel", name := "card", desc := "(II)I" } : Jvm.MethodName)) ∈ gws := mem_g (i := 1002) (by decide +kernel) (by decide +kernel)
theorem wg_1003 : (Jvm.Cond.selects "DanceCardsModel" ({ cls := "DanceCardsModel", name := "card", desc := "(II)I" } : Jvm.MethodName) ({ cls := "DanceCardsModel", name := "card", desc := "(II)I" } : Jvm.MethodName)) ∈ gws := mem_g (i := 1003) (by decide +kernel) (by decide +kernel)
theorem wg_1005 : (Jvm.Cond.methodLink "DanceCardsLaw" (85 : Nat) ({ cls := "DanceCardsModel", name := "ill", desc := "(I)I" } : Jvm.MethodName)) ∈ gws := mem_g (i := 1005) (by decide +kernel) (by decide +kernel)
theorem wg_1006 : (Jvm.Cond.instanceMethod ({ cls := "DanceCardsModel", name := "ill", desc := "(I)I" } : Jvm.MethodName)) ∈ gws := mem_g (i := 1006) (by decide +kernel) (by decide +kernel)
theorem wg_1007 : (Jvm.Cond.selects "DanceCardsModel" ({ cls := "DanceCardsModel", name := "ill", desc := "(I)I" } : Jvm.MethodName) ({ cls := "DanceCardsModel", name := "ill", desc := "(I)I" } : Jvm.MethodName)) ∈ gws := mem_g (i := 1007) (by decide +kernel) (by decide +kernel)
theorem wg_1009 : (Jvm.Cond.methodLink "DanceCardsLaw" (89 : Nat) ({ cls := "DanceCardsModel", name := "well", desc := "(I)I" } : Jvm.MethodName)) ∈ gws := mem_g (i := 1009) (by decide +kernel) (by decide +kernel)
theorem wg_1010 : (Jvm.Cond.instanceMethod ({ cls := "DanceCardsModel", name := "well", desc := "(I)I" } : Jvm.MethodName)) ∈ gws := mem_g (i := 1010) (by decide +kernel) (by decide +kernel)
theorem wg_1011 : (Jvm.Cond.selects "DanceCardsModel" ({ cls := "DanceCardsModel", name := "well", desc := "(I)I" } : Jvm.MethodName) ({ cls := "DanceCardsModel", name := "well", desc := "(I)I" } : Jvm.MethodName)) ∈ gws := mem_g (i := 1011) (by decide +kernel) (by decide +kernel)
theorem wg_1013 : (Jvm.Cond.methodLink "DanceCardsLaw" (93 : Nat) ({ cls := "DanceCardsModel", name := "could", desc := "(I)I" } : Jvm.MethodName)) ∈ gws := mem_g (i := 1013) (by decide +kernel) (by decide +kernel)
theorem wg_1014 : (Jvm.Cond.instanceMethod ({ cls := "DanceCardsModel", name := "could", desc := "(I)I" } : Jvm.MethodName)) ∈ gws := mem_g (i := 1014) (by decide +kernel) (by decide +kernel)
theorem wg_1015 : (Jvm.Cond.selects "DanceCardsModel" ({ cls := "DanceCardsModel", name := "could", desc := "(I)I" } : Jvm.MethodName) ({ cls := "DanceCardsModel", name := "could", desc := "(I)I" } : Jvm.MethodName)) ∈ gws := mem_g (i := 1015) (by decide +kernel) (by decide +kernel)
theorem wg_1033 : (Jvm.Cond.methodLink "DanceCardsLaw" (97 : Nat) ({ cls := "DanceCardsModel", name := "fill", desc := "(I)I" } : Jvm.MethodName)) ∈ gws := mem_g (i := 1033) (by decide +kernel) (by decide +kernel)
theorem wg_1034 : (Jvm.Cond.instanceMethod ({ cls := "DanceCardsModel", name := "fill", desc := "(I)I" } : Jvm.MethodName)) ∈ gws := mem_g (i := 1034) (by decide +kernel) (by decide +kernel)
theorem wg_1035 : (Jvm.Cond.selects "DanceCardsModel" ({ cls := "DanceCardsModel", name := "fill", desc := "(I)I" } : Jvm.MethodName) ({ cls := "DanceCardsModel", name := "fill", desc := "(I)I" } : Jvm.MethodName)) ∈ gws := mem_g (i := 1035) (by decide +kernel) (by decide +kernel)
theorem wg_1045 : (Jvm.Cond.methodLink "DanceCardsLaw" (101 : Nat) ({ cls := "DanceCardsModel", name := "about", desc := "(II)I" } : Jvm.MethodName)) ∈ gws := mem_g (i := 1045) (by decide +kernel) (by decide +kernel)
theorem wg_1046 : (Jvm.Cond.instanceMethod ({ cls := "DanceCardsModel", name := "about", desc := "(II)I" } : Jvm.MethodName)) ∈ gws := mem_g (i := 1046) (by decide +kernel) (by decide +kernel)
theorem wg_1047 : (Jvm.Cond.selects "DanceCardsModel" ({ cls := "DanceCardsModel", name := "about", desc := "(II)I" } : Jvm.MethodName) ({ cls := "DanceCardsModel", name := "about", desc := "(II)I" } : Jvm.MethodName)) ∈ gws := mem_g (i := 1047) (by decide +kernel) (by decide +kernel)
theorem wg_1049 : (Jvm.Cond.methodLink "DanceCardsLaw" (105 : Nat) ({ cls := "DanceCardsModel", name := "sheet", desc := "(III)I" } : Jvm.MethodName)) ∈ gws := mem_g (i := 1049) (by decide +kernel) (by decide +kernel)
theorem wg_1050 : (Jvm.Cond.instanceMethod ({ cls := "DanceCardsModel", name := "sheet", desc := "(III)I" } : Jvm.MethodName)) ∈ gws := mem_g (i := 1050) (by decide +kernel) (by decide +kernel)
theorem wg_1051 : (Jvm.Cond.selects "DanceCardsModel" ({ cls := "DanceCardsModel", name := "sheet", desc := "(III)I" } : Jvm.MethodName) ({ cls := "DanceCardsModel", name := "sheet", desc := "(III)I" } : Jvm.MethodName)) ∈ gws := mem_g (i := 1051) (by decide +kernel) (by decide +kernel)
theorem wg_1054 : (Jvm.Cond.methodLink "DanceCardsLaw" (109 : Nat) ({ cls := "DanceCardsModel", name := "lay", desc := "(III)I" } : Jvm.MethodName)) ∈ gws := mem_g (i := 1054) (by decide +kernel) (by decide +kernel)
theorem wg_1055 : (Jvm.Cond.instanceMethod ({ cls := "DanceCardsModel", name := "lay", desc := "(III)I" } : Jvm.MethodName)) ∈ gws := mem_g (i := 1055) (by decide +kernel) (by decide +kernel)
theorem wg_1056 : (Jvm.Cond.selects "DanceCardsModel" ({ cls := "DanceCardsModel", name := "lay", desc := "(III)I" } : Jvm.MethodName) ({ cls := "DanceCardsModel", name := "lay", desc := "(III)I" } : Jvm.MethodName)) ∈ gws := mem_g (i := 1056) (by decide +kernel) (by decide +kernel)
theorem wg_1058 : (Jvm.Cond.methodLink "DanceCardsLaw" (114 : Nat) ({ cls := "DanceCardsModel", name := "scan", desc := "(IIII)I" } : Jvm.MethodName)) ∈ gws := mem_g (i := 1058) (by decide +kernel) (by decide +kernel)
theorem wg_1059 : (Jvm.Cond.instanceMethod ({ cls := "DanceCardsModel", name := "scan", desc := "(IIII)I" } : Jvm.MethodName)) ∈ gws := mem_g (i := 1059) (by decide +kernel) (by decide +kernel)
theorem wg_1060 : (Jvm.Cond.selects "DanceCardsModel" ({ cls := "DanceCardsModel", name := "scan", desc := "(IIII)I" } : Jvm.MethodName) ({ cls := "DanceCardsModel", name := "scan", desc := "(IIII)I" } : Jvm.MethodName)) ∈ gws := mem_g (i := 1060) (by decide +kernel) (by decide +kernel)
theorem wg_1064 : (Jvm.Cond.methodLink "DanceCardsLaw" (118 : Nat) ({ cls := "DanceCardsModel", name := "wish", desc := "(III)I" } : Jvm.MethodName)) ∈ gws := mem_g (i := 1064) (by decide +kernel) (by decide +kernel)
theorem wg_1065 : (Jvm.Cond.instanceMethod ({ cls := "DanceCardsModel", name := "wish", desc := "(III)I" } : Jvm.MethodName)) ∈ gws := mem_g (i := 1065) (by decide +kernel) (by decide +kernel)
theorem wg_1066 : (Jvm.Cond.selects "DanceCardsModel" ({ cls := "DanceCardsModel", name := "wish", desc := "(III)I" } : Jvm.MethodName) ({ cls := "DanceCardsModel", name := "wish", desc := "(III)I" } : Jvm.MethodName)) ∈ gws := mem_g (i := 1066) (by decide +kernel) (by decide +kernel)
theorem wg_1069 : (Jvm.Cond.methodLink "DanceCardsLaw" (122 : Nat) ({ cls := "DanceCardsModel", name := "fewest", desc := "()I" } : Jvm.MethodName)) ∈ gws := mem_g (i := 1069) (by decide +kernel) (by decide +kernel)
theorem wg_1070 : (Jvm.Cond.instanceMethod ({ cls := "DanceCardsModel", name := "fewest", desc := "()I" } : Jvm.MethodName)) ∈ gws := mem_g (i := 1070) (by decide +kernel) (by decide +kernel)
theorem wg_1071 : (Jvm.Cond.selects "DanceCardsModel" ({ cls := "DanceCardsModel", name := "fewest", desc := "()I" } : Jvm.MethodName) ({ cls := "DanceCardsModel", name := "fewest", desc := "()I" } : Jvm.MethodName)) ∈ gws := mem_g (i := 1071) (by decide +kernel) (by decide +kernel)
theorem wg_1073 : (Jvm.Cond.methodLink "DanceCardsLaw" (126 : Nat) ({ cls := "DanceCardsModel", name := "laid", desc := "(II)I" } : Jvm.MethodName)) ∈ gws := mem_g (i := 1073) (by decide +kernel) (by decide +kernel)
theorem wg_1074 : (Jvm.Cond.instanceMethod ({ cls := "DanceCardsModel", name := "laid", desc := "(II)I" } : Jvm.MethodName)) ∈ gws := mem_g (i := 1074) (by decide +kernel) (by decide +kernel)
theorem wg_1075 : (Jvm.Cond.selects "DanceCardsModel" ({ cls := "DanceCardsModel", name := "laid", desc := "(II)I" } : Jvm.MethodName) ({ cls := "DanceCardsModel", name := "laid", desc := "(II)I" } : Jvm.MethodName)) ∈ gws := mem_g (i := 1075) (by decide +kernel) (by decide +kernel)
theorem wg_1090 : (Jvm.Cond.methodLink "DanceCardsLaw" (130 : Nat) ({ cls := "DanceCardsModel", name := "sets", desc := "(I)I" } : Jvm.MethodName)) ∈ gws := mem_g (i := 1090) (by decide +kernel) (by decide +kernel)
theorem wg_1091 : (Jvm.Cond.instanceMethod ({ cls := "DanceCardsModel", name := "sets", desc := "(I)I" } : Jvm.MethodName)) ∈ gws := mem_g (i := 1091) (by decide +kernel) (by decide +kernel)
theorem wg_1092 : (Jvm.Cond.selects "DanceCardsModel" ({ cls := "DanceCardsModel", name := "sets", desc := "(I)I" } : Jvm.MethodName) ({ cls := "DanceCardsModel", name := "sets", desc := "(I)I" } : Jvm.MethodName)) ∈ gws := mem_g (i := 1092) (by decide +kernel) (by decide +kernel)
theorem wg_1110 : (Jvm.Cond.methodLink "DanceCardsLaw" (134 : Nat) ({ cls := "DanceCardsModel", name := "set", desc := "(II)I" } : Jvm.MethodName)) ∈ gws := mem_g (i := 1110) (by decide +kernel) (by decide +kernel)
theorem wg_1111 : (Jvm.Cond.instanceMethod ({ cls := "DanceCardsModel", name := "set", desc := "(II)I" } : Jvm.MethodName)) ∈ gws := mem_g (i := 1111) (by decide +kernel) (by decide +kernel)
theorem wg_1112 : (Jvm.Cond.selects "DanceCardsModel" ({ cls := "DanceCardsModel", name := "set", desc := "(II)I" } : Jvm.MethodName) ({ cls := "DanceCardsModel", name := "set", desc := "(II)I" } : Jvm.MethodName)) ∈ gws := mem_g (i := 1112) (by decide +kernel) (by decide +kernel)
theorem wg_1114 : (Jvm.Cond.methodLink "DanceCardsLaw" (138 : Nat) ({ cls := "DanceCardsModel", name := "count", desc := "(I)I" } : Jvm.MethodName)) ∈ gws := mem_g (i := 1114) (by decide +kernel) (by decide +kernel)
theorem wg_1115 : (Jvm.Cond.instanceMethod ({ cls := "DanceCardsModel", name := "count", desc := "(I)I" } : Jvm.MethodName)) ∈ gws := mem_g (i := 1115) (by decide +kernel) (by decide +kernel)
theorem wg_1116 : (Jvm.Cond.selects "DanceCardsModel" ({ cls := "DanceCardsModel", name := "count", desc := "(I)I" } : Jvm.MethodName) ({ cls := "DanceCardsModel", name := "count", desc := "(I)I" } : Jvm.MethodName)) ∈ gws := mem_g (i := 1116) (by decide +kernel) (by decide +kernel)
theorem wg_1118 : (Jvm.Cond.constantLong "DanceCardsLaw" (33 : Nat) (4294967295 : Int64)) ∈ gws := mem_g (i := 1118) (by decide +kernel) (by decide +kernel)
theorem if_X7_about : IF yX7_about := ⟨wg_560, wg_561⟩
theorem if_X7_ask : IF yX7_ask := ⟨wg_399, wg_400⟩
theorem if_X7_card : IF yX7_card := ⟨wg_497, wg_498⟩
theorem if_X7_could : IF yX7_could := ⟨wg_518, wg_519⟩
theorem if_X7_count : IF yX7_count := ⟨wg_734, wg_735⟩
theorem if_X7_custom : IF yX7_custom := ⟨wg_395, wg_396⟩
theorem if_X7_customs : IF yX7_customs := ⟨wg_276, wg_277⟩
theorem if_X7_end : IF yX7_end := ⟨wg_267, wg_268⟩
theorem if_X7_fault : IF yX7_fault := ⟨wg_391, wg_392⟩
theorem if_X7_feed : IF yX7_feed := ⟨wg_259, wg_260⟩
theorem if_X7_feud : IF yX7_feud := ⟨wg_240, wg_241⟩
theorem if_X7_fewest : IF yX7_fewest := ⟨wg_644, wg_645⟩
theorem if_X7_fill : IF yX7_fill := ⟨wg_547, wg_548⟩
theorem if_X7_ill : IF yX7_ill := ⟨wg_501, wg_502⟩
theorem if_X7_introduce : IF yX7_introduce := ⟨wg_220, wg_221⟩
theorem if_X7_knows : IF yX7_knows := ⟨wg_255, wg_256⟩
theorem if_X7_laid : IF yX7_laid := ⟨wg_657, wg_658⟩
theorem if_X7_lay : IF yX7_lay := ⟨wg_601, wg_602⟩
theorem if_X7_part : IF yX7_part := ⟨wg_483, wg_484⟩
theorem if_X7_person : IF yX7_person := ⟨wg_209, wg_210⟩
theorem if_X7_refuse : IF yX7_refuse := ⟨wg_475, wg_476⟩
theorem if_X7_scan : IF yX7_scan := ⟨wg_620, wg_621⟩
theorem if_X7_set : IF yX7_set := ⟨wg_726, wg_727⟩
theorem if_X7_sets : IF yX7_sets := ⟨wg_690, wg_691⟩
theorem if_X7_sheet : IF yX7_sheet := ⟨wg_587, wg_588⟩
theorem if_X7_swap : IF yX7_swap := ⟨wg_492, wg_493⟩
theorem if_X7_well : IF yX7_well := ⟨wg_514, wg_515⟩
theorem if_X7_why : IF yX7_why := ⟨wg_471, wg_472⟩
theorem if_X7_wish : IF yX7_wish := ⟨wg_636, wg_637⟩
theorem if_X8_about : IF yX8_about := ⟨wg_1046, wg_1047⟩
theorem if_X8_card : IF yX8_card := ⟨wg_1002, wg_1003⟩
theorem if_X8_could : IF yX8_could := ⟨wg_1014, wg_1015⟩
theorem if_X8_count : IF yX8_count := ⟨wg_1115, wg_1116⟩
theorem if_X8_custom_ : IF yX8_custom_ := ⟨wg_940, wg_941⟩
theorem if_X8_customs : IF yX8_customs := ⟨wg_901, wg_902⟩
theorem if_X8_end : IF yX8_end := ⟨wg_897, wg_898⟩
theorem if_X8_fault : IF yX8_fault := ⟨wg_936, wg_937⟩
theorem if_X8_feed : IF yX8_feed := ⟨wg_893, wg_894⟩
theorem if_X8_feud : IF yX8_feud := ⟨wg_885, wg_886⟩
theorem if_X8_fewest : IF yX8_fewest := ⟨wg_1070, wg_1071⟩
theorem if_X8_fill : IF yX8_fill := ⟨wg_1034, wg_1035⟩
theorem if_X8_ill : IF yX8_ill := ⟨wg_1006, wg_1007⟩
theorem if_X8_introduce : IF yX8_introduce := ⟨wg_869, wg_870⟩
theorem if_X8_knows : IF yX8_knows := ⟨wg_889, wg_890⟩
theorem if_X8_laid : IF yX8_laid := ⟨wg_1074, wg_1075⟩
theorem if_X8_lay : IF yX8_lay := ⟨wg_1055, wg_1056⟩
theorem if_X8_part : IF yX8_part := ⟨wg_990, wg_991⟩
theorem if_X8_person : IF yX8_person := ⟨wg_861, wg_862⟩
theorem if_X8_refuse : IF yX8_refuse := ⟨wg_986, wg_987⟩
theorem if_X8_scan : IF yX8_scan := ⟨wg_1059, wg_1060⟩
theorem if_X8_set : IF yX8_set := ⟨wg_1111, wg_1112⟩
theorem if_X8_sets : IF yX8_sets := ⟨wg_1091, wg_1092⟩
theorem if_X8_sheet : IF yX8_sheet := ⟨wg_1050, wg_1051⟩
theorem if_X8_swap : IF yX8_swap := ⟨wg_998, wg_999⟩
theorem if_X8_well : IF yX8_well := ⟨wg_1010, wg_1011⟩
theorem if_X8_why : IF yX8_why := ⟨wg_982, wg_983⟩
theorem if_X8_wish : IF yX8_wish := ⟨wg_1065, wg_1066⟩
theorem bp_31 : (Int8.ofInt (31)).toInt32 = (31 : Int32) := by decide +kernel
theorem ii_5 (u : Int32) : u + Int32.ofInt (5) = u + (5 : Int32) := congrArg (u + ·) (by decide +kernel)
theorem dL_law_0 : decode cL_law 0 = .ok (.new 7, 3) := by decide +kernel
theorem dL_law_3 : decode cL_law 3 = .ok (.dup, 1) := by decide +kernel
theorem dL_law_4 : decode cL_law 4 = .ok (.invokespecial 9, 3) := by decide +kernel
theorem dL_law_7 : decode cL_law 7 = .ok (.astore_n 1, 1) := by decide +kernel
theorem dL_law_8 : decode cL_law 8 = .ok (.new 10, 3) := by decide +kernel
theorem dL_law_11 : decode cL_law 11 = .ok (.dup, 1) := by decide +kernel
theorem dL_law_12 : decode cL_law 12 = .ok (.invokespecial 12, 3) := by decide +kernel
theorem dL_law_15 : decode cL_law 15 = .ok (.astore_n 2, 1) := by decide +kernel
theorem dL_law_16 : decode cL_law 16 = .ok (.iconst 0, 1) := by decide +kernel
theorem dL_law_17 : decode cL_law 17 = .ok (.istore_n 3, 1) := by decide +kernel
theorem dL_law_18 : decode cL_law 18 = .ok (.iload_n 3, 1) := by decide +kernel
theorem dL_law_19 : decode cL_law 19 = .ok (.aload_n 0, 1) := by decide +kernel
theorem dL_law_20 : decode cL_law 20 = .ok (.arraylength, 1) := by decide +kernel
theorem dL_law_21 : decode cL_law 21 = .ok (.iconst 5, 1) := by decide +kernel
theorem dL_law_22 : decode cL_law 22 = .ok (.isub, 1) := by decide +kernel
theorem dL_law_23 : decode cL_law 23 = .ok (.if_icmp .gt 1136, 3) := by decide +kernel
theorem dL_law_26 : decode cL_law 26 = .ok (.aload_n 0, 1) := by decide +kernel
theorem dL_law_27 : decode cL_law 27 = .ok (.iload_n 3, 1) := by decide +kernel
theorem dL_law_28 : decode cL_law 28 = .ok (.iaload, 1) := by decide +kernel
theorem dL_law_29 : decode cL_law 29 = .ok (.bipush 31, 2) := by decide +kernel
theorem dL_law_31 : decode cL_law 31 = .ok (.iand, 1) := by decide +kernel
theorem dL_law_32 : decode cL_law 32 = .ok (.tableswitch 1121 0 28 #[132, 181, 224, 283, 316, 369, 392, 405, 418, 441, 484, 527, 570, 613, 656, 689, 712, 735, 758, 781, 814, 857, 900, 953, 996, 1009, 1042, 1065, 1098], 132) := by decide +kernel
theorem dL_law_164 : decode cL_law 164 = .ok (.aload_n 1, 1) := by decide +kernel
theorem dL_law_165 : decode cL_law 165 = .ok (.aload_n 0, 1) := by decide +kernel
theorem dL_law_166 : decode cL_law 166 = .ok (.iload_n 3, 1) := by decide +kernel
theorem dL_law_167 : decode cL_law 167 = .ok (.iconst 1, 1) := by decide +kernel
theorem dL_law_168 : decode cL_law 168 = .ok (.iadd, 1) := by decide +kernel
theorem dL_law_169 : decode cL_law 169 = .ok (.iaload, 1) := by decide +kernel
theorem dL_law_170 : decode cL_law 170 = .ok (.ifCond .eq 7, 3) := by decide +kernel
theorem dL_law_173 : decode cL_law 173 = .ok (.iconst 1, 1) := by decide +kernel
theorem dL_law_174 : decode cL_law 174 = .ok (.goto 4, 3) := by decide +kernel
theorem dL_law_177 : decode cL_law 177 = .ok (.iconst 0, 1) := by decide +kernel
theorem dL_law_178 : decode cL_law 178 = .ok (.aload_n 0, 1) := by decide +kernel
theorem dL_law_179 : decode cL_law 179 = .ok (.iload_n 3, 1) := by decide +kernel
theorem dL_law_180 : decode cL_law 180 = .ok (.iconst 2, 1) := by decide +kernel
theorem dL_law_181 : decode cL_law 181 = .ok (.iadd, 1) := by decide +kernel
theorem dL_law_182 : decode cL_law 182 = .ok (.iaload, 1) := by decide +kernel
theorem dL_law_183 : decode cL_law 183 = .ok (.invokevirtual 13, 3) := by decide +kernel
theorem dL_law_186 : decode cL_law 186 = .ok (.aload_n 2, 1) := by decide +kernel
theorem dL_law_187 : decode cL_law 187 = .ok (.aload_n 0, 1) := by decide +kernel
theorem dL_law_188 : decode cL_law 188 = .ok (.iload_n 3, 1) := by decide +kernel
theorem dL_law_189 : decode cL_law 189 = .ok (.iconst 1, 1) := by decide +kernel
theorem dL_law_190 : decode cL_law 190 = .ok (.iadd, 1) := by decide +kernel
theorem dL_law_191 : decode cL_law 191 = .ok (.iaload, 1) := by decide +kernel
theorem dL_law_192 : decode cL_law 192 = .ok (.ifCond .eq 7, 3) := by decide +kernel
theorem dL_law_195 : decode cL_law 195 = .ok (.iconst 1, 1) := by decide +kernel
theorem dL_law_196 : decode cL_law 196 = .ok (.goto 4, 3) := by decide +kernel
theorem dL_law_199 : decode cL_law 199 = .ok (.iconst 0, 1) := by decide +kernel
theorem dL_law_200 : decode cL_law 200 = .ok (.aload_n 0, 1) := by decide +kernel
theorem dL_law_201 : decode cL_law 201 = .ok (.iload_n 3, 1) := by decide +kernel
theorem dL_law_202 : decode cL_law 202 = .ok (.iconst 2, 1) := by decide +kernel
theorem dL_law_203 : decode cL_law 203 = .ok (.iadd, 1) := by decide +kernel
theorem dL_law_204 : decode cL_law 204 = .ok (.iaload, 1) := by decide +kernel
theorem dL_law_205 : decode cL_law 205 = .ok (.invokevirtual 17, 3) := by decide +kernel
theorem dL_law_208 : decode cL_law 208 = .ok (.if_icmp .eq 945, 3) := by decide +kernel
theorem dL_law_211 : decode cL_law 211 = .ok (.iconst 0, 1) := by decide +kernel
theorem dL_law_212 : decode cL_law 212 = .ok (.ireturn, 1) := by decide +kernel
theorem dL_law_213 : decode cL_law 213 = .ok (.aload_n 1, 1) := by decide +kernel
theorem dL_law_214 : decode cL_law 214 = .ok (.aload_n 0, 1) := by decide +kernel
theorem dL_law_215 : decode cL_law 215 = .ok (.iload_n 3, 1) := by decide +kernel
theorem dL_law_216 : decode cL_law 216 = .ok (.iconst 1, 1) := by decide +kernel
theorem dL_law_217 : decode cL_law 217 = .ok (.iadd, 1) := by decide +kernel
theorem dL_law_218 : decode cL_law 218 = .ok (.iaload, 1) := by decide +kernel
theorem dL_law_219 : decode cL_law 219 = .ok (.aload_n 0, 1) := by decide +kernel
theorem dL_law_220 : decode cL_law 220 = .ok (.iload_n 3, 1) := by decide +kernel
theorem dL_law_221 : decode cL_law 221 = .ok (.iconst 2, 1) := by decide +kernel
theorem dL_law_222 : decode cL_law 222 = .ok (.iadd, 1) := by decide +kernel
theorem dL_law_223 : decode cL_law 223 = .ok (.iaload, 1) := by decide +kernel
theorem dL_law_224 : decode cL_law 224 = .ok (.aload_n 0, 1) := by decide +kernel
theorem dL_law_225 : decode cL_law 225 = .ok (.iload_n 3, 1) := by decide +kernel
theorem dL_law_226 : decode cL_law 226 = .ok (.iconst 3, 1) := by decide +kernel
theorem dL_law_227 : decode cL_law 227 = .ok (.iadd, 1) := by decide +kernel
theorem dL_law_228 : decode cL_law 228 = .ok (.iaload, 1) := by decide +kernel
theorem dL_law_229 : decode cL_law 229 = .ok (.invokevirtual 18, 3) := by decide +kernel
theorem dL_law_232 : decode cL_law 232 = .ok (.aload_n 2, 1) := by decide +kernel
theorem dL_law_233 : decode cL_law 233 = .ok (.aload_n 0, 1) := by decide +kernel
theorem dL_law_234 : decode cL_law 234 = .ok (.iload_n 3, 1) := by decide +kernel
theorem dL_law_235 : decode cL_law 235 = .ok (.iconst 1, 1) := by decide +kernel
theorem dL_law_236 : decode cL_law 236 = .ok (.iadd, 1) := by decide +kernel
theorem dL_law_237 : decode cL_law 237 = .ok (.iaload, 1) := by decide +kernel
theorem dL_law_238 : decode cL_law 238 = .ok (.aload_n 0, 1) := by decide +kernel
theorem dL_law_239 : decode cL_law 239 = .ok (.iload_n 3, 1) := by decide +kernel
theorem dL_law_240 : decode cL_law 240 = .ok (.iconst 2, 1) := by decide +kernel
theorem dL_law_241 : decode cL_law 241 = .ok (.iadd, 1) := by decide +kernel
theorem dL_law_242 : decode cL_law 242 = .ok (.iaload, 1) := by decide +kernel
theorem dL_law_243 : decode cL_law 243 = .ok (.aload_n 0, 1) := by decide +kernel
theorem dL_law_244 : decode cL_law 244 = .ok (.iload_n 3, 1) := by decide +kernel
theorem dL_law_245 : decode cL_law 245 = .ok (.iconst 3, 1) := by decide +kernel
theorem dL_law_246 : decode cL_law 246 = .ok (.iadd, 1) := by decide +kernel
theorem dL_law_247 : decode cL_law 247 = .ok (.iaload, 1) := by decide +kernel
theorem dL_law_248 : decode cL_law 248 = .ok (.invokevirtual 22, 3) := by decide +kernel
theorem dL_law_251 : decode cL_law 251 = .ok (.if_icmp .eq 902, 3) := by decide +kernel
theorem dL_law_254 : decode cL_law 254 = .ok (.iconst 0, 1) := by decide +kernel
theorem dL_law_255 : decode cL_law 255 = .ok (.ireturn, 1) := by decide +kernel
theorem dL_law_256 : decode cL_law 256 = .ok (.aload_n 1, 1) := by decide +kernel
theorem dL_law_257 : decode cL_law 257 = .ok (.aload_n 0, 1) := by decide +kernel
theorem dL_law_258 : decode cL_law 258 = .ok (.iload_n 3, 1) := by decide +kernel
theorem dL_law_259 : decode cL_law 259 = .ok (.iconst 1, 1) := by decide +kernel
theorem dL_law_260 : decode cL_law 260 = .ok (.iadd, 1) := by decide +kernel
theorem dL_law_261 : decode cL_law 261 = .ok (.iaload, 1) := by decide +kernel
theorem dL_law_262 : decode cL_law 262 = .ok (.aload_n 0, 1) := by decide +kernel
theorem dL_law_263 : decode cL_law 263 = .ok (.iload_n 3, 1) := by decide +kernel
theorem dL_law_264 : decode cL_law 264 = .ok (.iconst 2, 1) := by decide +kernel
theorem dL_law_265 : decode cL_law 265 = .ok (.iadd, 1) := by decide +kernel
theorem dL_law_266 : decode cL_law 266 = .ok (.iaload, 1) := by decide +kernel
theorem dL_law_267 : decode cL_law 267 = .ok (.aload_n 0, 1) := by decide +kernel
theorem dL_law_268 : decode cL_law 268 = .ok (.iload_n 3, 1) := by decide +kernel
theorem dL_law_269 : decode cL_law 269 = .ok (.iconst 3, 1) := by decide +kernel
theorem dL_law_270 : decode cL_law 270 = .ok (.iadd, 1) := by decide +kernel
theorem dL_law_271 : decode cL_law 271 = .ok (.iaload, 1) := by decide +kernel
theorem dL_law_272 : decode cL_law 272 = .ok (.ifCond .eq 7, 3) := by decide +kernel
theorem dL_law_275 : decode cL_law 275 = .ok (.iconst 1, 1) := by decide +kernel
theorem dL_law_276 : decode cL_law 276 = .ok (.goto 4, 3) := by decide +kernel
theorem dL_law_279 : decode cL_law 279 = .ok (.iconst 0, 1) := by decide +kernel
theorem dL_law_280 : decode cL_law 280 = .ok (.invokevirtual 23, 3) := by decide +kernel
theorem dL_law_283 : decode cL_law 283 = .ok (.aload_n 2, 1) := by decide +kernel
theorem dL_law_284 : decode cL_law 284 = .ok (.aload_n 0, 1) := by decide +kernel
theorem dL_law_285 : decode cL_law 285 = .ok (.iload_n 3, 1) := by decide +kernel
theorem dL_law_286 : decode cL_law 286 = .ok (.iconst 1, 1) := by decide +kernel
theorem dL_law_287 : decode cL_law 287 = .ok (.iadd, 1) := by decide +kernel
theorem dL_law_288 : decode cL_law 288 = .ok (.iaload, 1) := by decide +kernel
theorem dL_law_289 : decode cL_law 289 = .ok (.aload_n 0, 1) := by decide +kernel
theorem dL_law_290 : decode cL_law 290 = .ok (.iload_n 3, 1) := by decide +kernel
theorem dL_law_291 : decode cL_law 291 = .ok (.iconst 2, 1) := by decide +kernel
theorem dL_law_292 : decode cL_law 292 = .ok (.iadd, 1) := by decide +kernel
theorem dL_law_293 : decode cL_law 293 = .ok (.iaload, 1) := by decide +kernel
theorem dL_law_294 : decode cL_law 294 = .ok (.aload_n 0, 1) := by decide +kernel
theorem dL_law_295 : decode cL_law 295 = .ok (.iload_n 3, 1) := by decide +kernel
theorem dL_law_296 : decode cL_law 296 = .ok (.iconst 3, 1) := by decide +kernel
theorem dL_law_297 : decode cL_law 297 = .ok (.iadd, 1) := by decide +kernel
theorem dL_law_298 : decode cL_law 298 = .ok (.iaload, 1) := by decide +kernel
theorem dL_law_299 : decode cL_law 299 = .ok (.ifCond .eq 7, 3) := by decide +kernel
theorem dL_law_302 : decode cL_law 302 = .ok (.iconst 1, 1) := by decide +kernel
theorem dL_law_303 : decode cL_law 303 = .ok (.goto 4, 3) := by decide +kernel
theorem dL_law_306 : decode cL_law 306 = .ok (.iconst 0, 1) := by decide +kernel
theorem dL_law_307 : decode cL_law 307 = .ok (.invokevirtual 27, 3) := by decide +kernel
theorem dL_law_310 : decode cL_law 310 = .ok (.if_icmp .eq 843, 3) := by decide +kernel
theorem dL_law_313 : decode cL_law 313 = .ok (.iconst 0, 1) := by decide +kernel
theorem dL_law_314 : decode cL_law 314 = .ok (.ireturn, 1) := by decide +kernel
theorem dL_law_315 : decode cL_law 315 = .ok (.aload_n 1, 1) := by decide +kernel
theorem dL_law_316 : decode cL_law 316 = .ok (.aload_n 0, 1) := by decide +kernel
theorem dL_law_317 : decode cL_law 317 = .ok (.iload_n 3, 1) := by decide +kernel
theorem dL_law_318 : decode cL_law 318 = .ok (.iconst 1, 1) := by decide +kernel
theorem dL_law_319 : decode cL_law 319 = .ok (.iadd, 1) := by decide +kernel
theorem dL_law_320 : decode cL_law 320 = .ok (.iaload, 1) := by decide +kernel
theorem dL_law_321 : decode cL_law 321 = .ok (.aload_n 0, 1) := by decide +kernel
theorem dL_law_322 : decode cL_law 322 = .ok (.iload_n 3, 1) := by decide +kernel
theorem dL_law_323 : decode cL_law 323 = .ok (.iconst 2, 1) := by decide +kernel
theorem dL_law_324 : decode cL_law 324 = .ok (.iadd, 1) := by decide +kernel
theorem dL_law_325 : decode cL_law 325 = .ok (.iaload, 1) := by decide +kernel
theorem dL_law_326 : decode cL_law 326 = .ok (.invokevirtual 28, 3) := by decide +kernel
theorem dL_law_329 : decode cL_law 329 = .ok (.aload_n 2, 1) := by decide +kernel
theorem dL_law_330 : decode cL_law 330 = .ok (.aload_n 0, 1) := by decide +kernel
theorem dL_law_331 : decode cL_law 331 = .ok (.iload_n 3, 1) := by decide +kernel
theorem dL_law_332 : decode cL_law 332 = .ok (.iconst 1, 1) := by decide +kernel
theorem dL_law_333 : decode cL_law 333 = .ok (.iadd, 1) := by decide +kernel
theorem dL_law_334 : decode cL_law 334 = .ok (.iaload, 1) := by decide +kernel
theorem dL_law_335 : decode cL_law 335 = .ok (.aload_n 0, 1) := by decide +kernel
theorem dL_law_336 : decode cL_law 336 = .ok (.iload_n 3, 1) := by decide +kernel
theorem dL_law_337 : decode cL_law 337 = .ok (.iconst 2, 1) := by decide +kernel
theorem dL_law_338 : decode cL_law 338 = .ok (.iadd, 1) := by decide +kernel
theorem dL_law_339 : decode cL_law 339 = .ok (.iaload, 1) := by decide +kernel
theorem dL_law_340 : decode cL_law 340 = .ok (.invokevirtual 32, 3) := by decide +kernel
theorem dL_law_343 : decode cL_law 343 = .ok (.if_icmp .eq 810, 3) := by decide +kernel
theorem dL_law_346 : decode cL_law 346 = .ok (.iconst 0, 1) := by decide +kernel
theorem dL_law_347 : decode cL_law 347 = .ok (.ireturn, 1) := by decide +kernel
theorem dL_law_348 : decode cL_law 348 = .ok (.aload_n 1, 1) := by decide +kernel
theorem dL_law_349 : decode cL_law 349 = .ok (.aload_n 0, 1) := by decide +kernel
theorem dL_law_350 : decode cL_law 350 = .ok (.iload_n 3, 1) := by decide +kernel
theorem dL_law_351 : decode cL_law 351 = .ok (.iconst 1, 1) := by decide +kernel
theorem dL_law_352 : decode cL_law 352 = .ok (.iadd, 1) := by decide +kernel
theorem dL_law_353 : decode cL_law 353 = .ok (.iaload, 1) := by decide +kernel
theorem dL_law_354 : decode cL_law 354 = .ok (.i2l, 1) := by decide +kernel
theorem dL_law_355 : decode cL_law 355 = .ok (.bipush 32, 2) := by decide +kernel
theorem dL_law_357 : decode cL_law 357 = .ok (.lshl, 1) := by decide +kernel
theorem dL_law_358 : decode cL_law 358 = .ok (.aload_n 0, 1) := by decide +kernel
theorem dL_law_359 : decode cL_law 359 = .ok (.iload_n 3, 1) := by decide +kernel
theorem dL_law_360 : decode cL_law 360 = .ok (.iconst 2, 1) := by decide +kernel
theorem dL_law_361 : decode cL_law 361 = .ok (.iadd, 1) := by decide +kernel
theorem dL_law_362 : decode cL_law 362 = .ok (.iaload, 1) := by decide +kernel
theorem dL_law_363 : decode cL_law 363 = .ok (.i2l, 1) := by decide +kernel
theorem dL_law_364 : decode cL_law 364 = .ok (.ldc2_w 33, 3) := by decide +kernel
theorem dL_law_367 : decode cL_law 367 = .ok (.land, 1) := by decide +kernel
theorem dL_law_368 : decode cL_law 368 = .ok (.lor, 1) := by decide +kernel
theorem dL_law_369 : decode cL_law 369 = .ok (.invokevirtual 35, 3) := by decide +kernel
theorem dL_law_372 : decode cL_law 372 = .ok (.aload_n 2, 1) := by decide +kernel
theorem dL_law_373 : decode cL_law 373 = .ok (.aload_n 0, 1) := by decide +kernel
theorem dL_law_374 : decode cL_law 374 = .ok (.iload_n 3, 1) := by decide +kernel
theorem dL_law_375 : decode cL_law 375 = .ok (.iconst 1, 1) := by decide +kernel
theorem dL_law_376 : decode cL_law 376 = .ok (.iadd, 1) := by decide +kernel
theorem dL_law_377 : decode cL_law 377 = .ok (.iaload, 1) := by decide +kernel
theorem dL_law_378 : decode cL_law 378 = .ok (.i2l, 1) := by decide +kernel
theorem dL_law_379 : decode cL_law 379 = .ok (.bipush 32, 2) := by decide +kernel
theorem dL_law_381 : decode cL_law 381 = .ok (.lshl, 1) := by decide +kernel
theorem dL_law_382 : decode cL_law 382 = .ok (.aload_n 0, 1) := by decide +kernel
theorem dL_law_383 : decode cL_law 383 = .ok (.iload_n 3, 1) := by decide +kernel
theorem dL_law_384 : decode cL_law 384 = .ok (.iconst 2, 1) := by decide +kernel
theorem dL_law_385 : decode cL_law 385 = .ok (.iadd, 1) := by decide +kernel
theorem dL_law_386 : decode cL_law 386 = .ok (.iaload, 1) := by decide +kernel
theorem dL_law_387 : decode cL_law 387 = .ok (.i2l, 1) := by decide +kernel
theorem dL_law_388 : decode cL_law 388 = .ok (.ldc2_w 33, 3) := by decide +kernel
theorem dL_law_391 : decode cL_law 391 = .ok (.land, 1) := by decide +kernel
theorem dL_law_392 : decode cL_law 392 = .ok (.lor, 1) := by decide +kernel
theorem dL_law_393 : decode cL_law 393 = .ok (.invokevirtual 39, 3) := by decide +kernel
theorem dL_law_396 : decode cL_law 396 = .ok (.if_icmp .eq 757, 3) := by decide +kernel
theorem dL_law_399 : decode cL_law 399 = .ok (.iconst 0, 1) := by decide +kernel
theorem dL_law_400 : decode cL_law 400 = .ok (.ireturn, 1) := by decide +kernel
theorem dL_law_401 : decode cL_law 401 = .ok (.aload_n 1, 1) := by decide +kernel
theorem dL_law_402 : decode cL_law 402 = .ok (.aload_n 0, 1) := by decide +kernel
theorem dL_law_403 : decode cL_law 403 = .ok (.iload_n 3, 1) := by decide +kernel
theorem dL_law_404 : decode cL_law 404 = .ok (.iconst 1, 1) := by decide +kernel
theorem dL_law_405 : decode cL_law 405 = .ok (.iadd, 1) := by decide +kernel
theorem dL_law_406 : decode cL_law 406 = .ok (.iaload, 1) := by decide +kernel
theorem dL_law_407 : decode cL_law 407 = .ok (.invokevirtual 40, 3) := by decide +kernel
theorem dL_law_410 : decode cL_law 410 = .ok (.aload_n 2, 1) := by decide +kernel
theorem dL_law_411 : decode cL_law 411 = .ok (.aload_n 0, 1) := by decide +kernel
theorem dL_law_412 : decode cL_law 412 = .ok (.iload_n 3, 1) := by decide +kernel
theorem dL_law_413 : decode cL_law 413 = .ok (.iconst 1, 1) := by decide +kernel
theorem dL_law_414 : decode cL_law 414 = .ok (.iadd, 1) := by decide +kernel
theorem dL_law_415 : decode cL_law 415 = .ok (.iaload, 1) := by decide +kernel
theorem dL_law_416 : decode cL_law 416 = .ok (.invokevirtual 44, 3) := by decide +kernel
theorem dL_law_419 : decode cL_law 419 = .ok (.if_icmp .eq 734, 3) := by decide +kernel
theorem dL_law_422 : decode cL_law 422 = .ok (.iconst 0, 1) := by decide +kernel
theorem dL_law_423 : decode cL_law 423 = .ok (.ireturn, 1) := by decide +kernel
theorem dL_law_424 : decode cL_law 424 = .ok (.aload_n 1, 1) := by decide +kernel
theorem dL_law_425 : decode cL_law 425 = .ok (.invokevirtual 45, 3) := by decide +kernel
theorem dL_law_428 : decode cL_law 428 = .ok (.aload_n 2, 1) := by decide +kernel
theorem dL_law_429 : decode cL_law 429 = .ok (.invokevirtual 49, 3) := by decide +kernel
theorem dL_law_432 : decode cL_law 432 = .ok (.if_icmp .eq 721, 3) := by decide +kernel
theorem dL_law_435 : decode cL_law 435 = .ok (.iconst 0, 1) := by decide +kernel
theorem dL_law_436 : decode cL_law 436 = .ok (.ireturn, 1) := by decide +kernel
theorem dL_law_437 : decode cL_law 437 = .ok (.aload_n 1, 1) := by decide +kernel
theorem dL_law_438 : decode cL_law 438 = .ok (.invokevirtual 50, 3) := by decide +kernel
theorem dL_law_441 : decode cL_law 441 = .ok (.aload_n 2, 1) := by decide +kernel
theorem dL_law_442 : decode cL_law 442 = .ok (.invokevirtual 53, 3) := by decide +kernel
theorem dL_law_445 : decode cL_law 445 = .ok (.if_icmp .eq 708, 3) := by decide +kernel
theorem dL_law_448 : decode cL_law 448 = .ok (.iconst 0, 1) := by decide +kernel
theorem dL_law_449 : decode cL_law 449 = .ok (.ireturn, 1) := by decide +kernel
theorem dL_law_450 : decode cL_law 450 = .ok (.aload_n 1, 1) := by decide +kernel
theorem dL_law_451 : decode cL_law 451 = .ok (.aload_n 0, 1) := by decide +kernel
theorem dL_law_452 : decode cL_law 452 = .ok (.iload_n 3, 1) := by decide +kernel
theorem dL_law_453 : decode cL_law 453 = .ok (.iconst 1, 1) := by decide +kernel
theorem dL_law_454 : decode cL_law 454 = .ok (.iadd, 1) := by decide +kernel
theorem dL_law_455 : decode cL_law 455 = .ok (.iaload, 1) := by decide +kernel
theorem dL_law_456 : decode cL_law 456 = .ok (.invokevirtual 54, 3) := by decide +kernel
theorem dL_law_459 : decode cL_law 459 = .ok (.aload_n 2, 1) := by decide +kernel
theorem dL_law_460 : decode cL_law 460 = .ok (.aload_n 0, 1) := by decide +kernel
theorem dL_law_461 : decode cL_law 461 = .ok (.iload_n 3, 1) := by decide +kernel
theorem dL_law_462 : decode cL_law 462 = .ok (.iconst 1, 1) := by decide +kernel
theorem dL_law_463 : decode cL_law 463 = .ok (.iadd, 1) := by decide +kernel
theorem dL_law_464 : decode cL_law 464 = .ok (.iaload, 1) := by decide +kernel
theorem dL_law_465 : decode cL_law 465 = .ok (.invokevirtual 57, 3) := by decide +kernel
theorem dL_law_468 : decode cL_law 468 = .ok (.if_icmp .eq 685, 3) := by decide +kernel
theorem dL_law_471 : decode cL_law 471 = .ok (.iconst 0, 1) := by decide +kernel
theorem dL_law_472 : decode cL_law 472 = .ok (.ireturn, 1) := by decide +kernel
theorem dL_law_473 : decode cL_law 473 = .ok (.aload_n 1, 1) := by decide +kernel
theorem dL_law_474 : decode cL_law 474 = .ok (.aload_n 0, 1) := by decide +kernel
theorem dL_law_475 : decode cL_law 475 = .ok (.iload_n 3, 1) := by decide +kernel
theorem dL_law_476 : decode cL_law 476 = .ok (.iconst 1, 1) := by decide +kernel
theorem dL_law_477 : decode cL_law 477 = .ok (.iadd, 1) := by decide +kernel
theorem dL_law_478 : decode cL_law 478 = .ok (.iaload, 1) := by decide +kernel
theorem dL_law_479 : decode cL_law 479 = .ok (.aload_n 0, 1) := by decide +kernel
theorem dL_law_480 : decode cL_law 480 = .ok (.iload_n 3, 1) := by decide +kernel
theorem dL_law_481 : decode cL_law 481 = .ok (.iconst 2, 1) := by decide +kernel
theorem dL_law_482 : decode cL_law 482 = .ok (.iadd, 1) := by decide +kernel
theorem dL_law_483 : decode cL_law 483 = .ok (.iaload, 1) := by decide +kernel
theorem dL_law_484 : decode cL_law 484 = .ok (.aload_n 0, 1) := by decide +kernel
theorem dL_law_485 : decode cL_law 485 = .ok (.iload_n 3, 1) := by decide +kernel
theorem dL_law_486 : decode cL_law 486 = .ok (.iconst 3, 1) := by decide +kernel
theorem dL_law_487 : decode cL_law 487 = .ok (.iadd, 1) := by decide +kernel
theorem dL_law_488 : decode cL_law 488 = .ok (.iaload, 1) := by decide +kernel
theorem dL_law_489 : decode cL_law 489 = .ok (.invokevirtual 58, 3) := by decide +kernel
theorem dL_law_492 : decode cL_law 492 = .ok (.aload_n 2, 1) := by decide +kernel
theorem dL_law_493 : decode cL_law 493 = .ok (.aload_n 0, 1) := by decide +kernel
theorem dL_law_494 : decode cL_law 494 = .ok (.iload_n 3, 1) := by decide +kernel
theorem dL_law_495 : decode cL_law 495 = .ok (.iconst 1, 1) := by decide +kernel
theorem dL_law_496 : decode cL_law 496 = .ok (.iadd, 1) := by decide +kernel
theorem dL_law_497 : decode cL_law 497 = .ok (.iaload, 1) := by decide +kernel
theorem dL_law_498 : decode cL_law 498 = .ok (.aload_n 0, 1) := by decide +kernel
theorem dL_law_499 : decode cL_law 499 = .ok (.iload_n 3, 1) := by decide +kernel
theorem dL_law_500 : decode cL_law 500 = .ok (.iconst 2, 1) := by decide +kernel
theorem dL_law_501 : decode cL_law 501 = .ok (.iadd, 1) := by decide +kernel
theorem dL_law_502 : decode cL_law 502 = .ok (.iaload, 1) := by decide +kernel
theorem dL_law_503 : decode cL_law 503 = .ok (.aload_n 0, 1) := by decide +kernel
theorem dL_law_504 : decode cL_law 504 = .ok (.iload_n 3, 1) := by decide +kernel
theorem dL_law_505 : decode cL_law 505 = .ok (.iconst 3, 1) := by decide +kernel
theorem dL_law_506 : decode cL_law 506 = .ok (.iadd, 1) := by decide +kernel
theorem dL_law_507 : decode cL_law 507 = .ok (.iaload, 1) := by decide +kernel
theorem dL_law_508 : decode cL_law 508 = .ok (.invokevirtual 61, 3) := by decide +kernel
theorem dL_law_511 : decode cL_law 511 = .ok (.if_icmp .eq 642, 3) := by decide +kernel
theorem dL_law_514 : decode cL_law 514 = .ok (.iconst 0, 1) := by decide +kernel
theorem dL_law_515 : decode cL_law 515 = .ok (.ireturn, 1) := by decide +kernel
theorem dL_law_516 : decode cL_law 516 = .ok (.aload_n 1, 1) := by decide +kernel
theorem dL_law_517 : decode cL_law 517 = .ok (.aload_n 0, 1) := by decide +kernel
theorem dL_law_518 : decode cL_law 518 = .ok (.iload_n 3, 1) := by decide +kernel
theorem dL_law_519 : decode cL_law 519 = .ok (.iconst 1, 1) := by decide +kernel
theorem dL_law_520 : decode cL_law 520 = .ok (.iadd, 1) := by decide +kernel
theorem dL_law_521 : decode cL_law 521 = .ok (.iaload, 1) := by decide +kernel
theorem dL_law_522 : decode cL_law 522 = .ok (.aload_n 0, 1) := by decide +kernel
theorem dL_law_523 : decode cL_law 523 = .ok (.iload_n 3, 1) := by decide +kernel
theorem dL_law_524 : decode cL_law 524 = .ok (.iconst 2, 1) := by decide +kernel
theorem dL_law_525 : decode cL_law 525 = .ok (.iadd, 1) := by decide +kernel
theorem dL_law_526 : decode cL_law 526 = .ok (.iaload, 1) := by decide +kernel
theorem dL_law_527 : decode cL_law 527 = .ok (.aload_n 0, 1) := by decide +kernel
theorem dL_law_528 : decode cL_law 528 = .ok (.iload_n 3, 1) := by decide +kernel
theorem dL_law_529 : decode cL_law 529 = .ok (.iconst 3, 1) := by decide +kernel
theorem dL_law_530 : decode cL_law 530 = .ok (.iadd, 1) := by decide +kernel
theorem dL_law_531 : decode cL_law 531 = .ok (.iaload, 1) := by decide +kernel
theorem dL_law_532 : decode cL_law 532 = .ok (.invokevirtual 62, 3) := by decide +kernel
theorem dL_law_535 : decode cL_law 535 = .ok (.aload_n 2, 1) := by decide +kernel
theorem dL_law_536 : decode cL_law 536 = .ok (.aload_n 0, 1) := by decide +kernel
theorem dL_law_537 : decode cL_law 537 = .ok (.iload_n 3, 1) := by decide +kernel
theorem dL_law_538 : decode cL_law 538 = .ok (.iconst 1, 1) := by decide +kernel
theorem dL_law_539 : decode cL_law 539 = .ok (.iadd, 1) := by decide +kernel
theorem dL_law_540 : decode cL_law 540 = .ok (.iaload, 1) := by decide +kernel
theorem dL_law_541 : decode cL_law 541 = .ok (.aload_n 0, 1) := by decide +kernel
theorem dL_law_542 : decode cL_law 542 = .ok (.iload_n 3, 1) := by decide +kernel
theorem dL_law_543 : decode cL_law 543 = .ok (.iconst 2, 1) := by decide +kernel
theorem dL_law_544 : decode cL_law 544 = .ok (.iadd, 1) := by decide +kernel
theorem dL_law_545 : decode cL_law 545 = .ok (.iaload, 1) := by decide +kernel
theorem dL_law_546 : decode cL_law 546 = .ok (.aload_n 0, 1) := by decide +kernel
theorem dL_law_547 : decode cL_law 547 = .ok (.iload_n 3, 1) := by decide +kernel
theorem dL_law_548 : decode cL_law 548 = .ok (.iconst 3, 1) := by decide +kernel
theorem dL_law_549 : decode cL_law 549 = .ok (.iadd, 1) := by decide +kernel
theorem dL_law_550 : decode cL_law 550 = .ok (.iaload, 1) := by decide +kernel
theorem dL_law_551 : decode cL_law 551 = .ok (.invokevirtual 65, 3) := by decide +kernel
theorem dL_law_554 : decode cL_law 554 = .ok (.if_icmp .eq 599, 3) := by decide +kernel
theorem dL_law_557 : decode cL_law 557 = .ok (.iconst 0, 1) := by decide +kernel
theorem dL_law_558 : decode cL_law 558 = .ok (.ireturn, 1) := by decide +kernel
theorem dL_law_559 : decode cL_law 559 = .ok (.aload_n 1, 1) := by decide +kernel
theorem dL_law_560 : decode cL_law 560 = .ok (.aload_n 0, 1) := by decide +kernel
theorem dL_law_561 : decode cL_law 561 = .ok (.iload_n 3, 1) := by decide +kernel
theorem dL_law_562 : decode cL_law 562 = .ok (.iconst 1, 1) := by decide +kernel
theorem dL_law_563 : decode cL_law 563 = .ok (.iadd, 1) := by decide +kernel
theorem dL_law_564 : decode cL_law 564 = .ok (.iaload, 1) := by decide +kernel
theorem dL_law_565 : decode cL_law 565 = .ok (.aload_n 0, 1) := by decide +kernel
theorem dL_law_566 : decode cL_law 566 = .ok (.iload_n 3, 1) := by decide +kernel
theorem dL_law_567 : decode cL_law 567 = .ok (.iconst 2, 1) := by decide +kernel
theorem dL_law_568 : decode cL_law 568 = .ok (.iadd, 1) := by decide +kernel
theorem dL_law_569 : decode cL_law 569 = .ok (.iaload, 1) := by decide +kernel
theorem dL_law_570 : decode cL_law 570 = .ok (.aload_n 0, 1) := by decide +kernel
theorem dL_law_571 : decode cL_law 571 = .ok (.iload_n 3, 1) := by decide +kernel
theorem dL_law_572 : decode cL_law 572 = .ok (.iconst 3, 1) := by decide +kernel
theorem dL_law_573 : decode cL_law 573 = .ok (.iadd, 1) := by decide +kernel
theorem dL_law_574 : decode cL_law 574 = .ok (.iaload, 1) := by decide +kernel
theorem dL_law_575 : decode cL_law 575 = .ok (.invokevirtual 66, 3) := by decide +kernel
theorem dL_law_578 : decode cL_law 578 = .ok (.aload_n 2, 1) := by decide +kernel
theorem dL_law_579 : decode cL_law 579 = .ok (.aload_n 0, 1) := by decide +kernel
theorem dL_law_580 : decode cL_law 580 = .ok (.iload_n 3, 1) := by decide +kernel
theorem dL_law_581 : decode cL_law 581 = .ok (.iconst 1, 1) := by decide +kernel
theorem dL_law_582 : decode cL_law 582 = .ok (.iadd, 1) := by decide +kernel
theorem dL_law_583 : decode cL_law 583 = .ok (.iaload, 1) := by decide +kernel
theorem dL_law_584 : decode cL_law 584 = .ok (.aload_n 0, 1) := by decide +kernel
theorem dL_law_585 : decode cL_law 585 = .ok (.iload_n 3, 1) := by decide +kernel
theorem dL_law_586 : decode cL_law 586 = .ok (.iconst 2, 1) := by decide +kernel
theorem dL_law_587 : decode cL_law 587 = .ok (.iadd, 1) := by decide +kernel
theorem dL_law_588 : decode cL_law 588 = .ok (.iaload, 1) := by decide +kernel
theorem dL_law_589 : decode cL_law 589 = .ok (.aload_n 0, 1) := by decide +kernel
theorem dL_law_590 : decode cL_law 590 = .ok (.iload_n 3, 1) := by decide +kernel
theorem dL_law_591 : decode cL_law 591 = .ok (.iconst 3, 1) := by decide +kernel
theorem dL_law_592 : decode cL_law 592 = .ok (.iadd, 1) := by decide +kernel
theorem dL_law_593 : decode cL_law 593 = .ok (.iaload, 1) := by decide +kernel
theorem dL_law_594 : decode cL_law 594 = .ok (.invokevirtual 69, 3) := by decide +kernel
theorem dL_law_597 : decode cL_law 597 = .ok (.if_icmp .eq 556, 3) := by decide +kernel
theorem dL_law_600 : decode cL_law 600 = .ok (.iconst 0, 1) := by decide +kernel
theorem dL_law_601 : decode cL_law 601 = .ok (.ireturn, 1) := by decide +kernel
theorem dL_law_602 : decode cL_law 602 = .ok (.aload_n 1, 1) := by decide +kernel
theorem dL_law_603 : decode cL_law 603 = .ok (.aload_n 0, 1) := by decide +kernel
theorem dL_law_604 : decode cL_law 604 = .ok (.iload_n 3, 1) := by decide +kernel
theorem dL_law_605 : decode cL_law 605 = .ok (.iconst 1, 1) := by decide +kernel
theorem dL_law_606 : decode cL_law 606 = .ok (.iadd, 1) := by decide +kernel
theorem dL_law_607 : decode cL_law 607 = .ok (.iaload, 1) := by decide +kernel
theorem dL_law_608 : decode cL_law 608 = .ok (.aload_n 0, 1) := by decide +kernel
theorem dL_law_609 : decode cL_law 609 = .ok (.iload_n 3, 1) := by decide +kernel
theorem dL_law_610 : decode cL_law 610 = .ok (.iconst 2, 1) := by decide +kernel
theorem dL_law_611 : decode cL_law 611 = .ok (.iadd, 1) := by decide +kernel
theorem dL_law_612 : decode cL_law 612 = .ok (.iaload, 1) := by decide +kernel
theorem dL_law_613 : decode cL_law 613 = .ok (.aload_n 0, 1) := by decide +kernel
theorem dL_law_614 : decode cL_law 614 = .ok (.iload_n 3, 1) := by decide +kernel
theorem dL_law_615 : decode cL_law 615 = .ok (.iconst 3, 1) := by decide +kernel
theorem dL_law_616 : decode cL_law 616 = .ok (.iadd, 1) := by decide +kernel
theorem dL_law_617 : decode cL_law 617 = .ok (.iaload, 1) := by decide +kernel
theorem dL_law_618 : decode cL_law 618 = .ok (.invokevirtual 70, 3) := by decide +kernel
theorem dL_law_621 : decode cL_law 621 = .ok (.aload_n 2, 1) := by decide +kernel
theorem dL_law_622 : decode cL_law 622 = .ok (.aload_n 0, 1) := by decide +kernel
theorem dL_law_623 : decode cL_law 623 = .ok (.iload_n 3, 1) := by decide +kernel
theorem dL_law_624 : decode cL_law 624 = .ok (.iconst 1, 1) := by decide +kernel
theorem dL_law_625 : decode cL_law 625 = .ok (.iadd, 1) := by decide +kernel
theorem dL_law_626 : decode cL_law 626 = .ok (.iaload, 1) := by decide +kernel
theorem dL_law_627 : decode cL_law 627 = .ok (.aload_n 0, 1) := by decide +kernel
theorem dL_law_628 : decode cL_law 628 = .ok (.iload_n 3, 1) := by decide +kernel
theorem dL_law_629 : decode cL_law 629 = .ok (.iconst 2, 1) := by decide +kernel
theorem dL_law_630 : decode cL_law 630 = .ok (.iadd, 1) := by decide +kernel
theorem dL_law_631 : decode cL_law 631 = .ok (.iaload, 1) := by decide +kernel
theorem dL_law_632 : decode cL_law 632 = .ok (.aload_n 0, 1) := by decide +kernel
theorem dL_law_633 : decode cL_law 633 = .ok (.iload_n 3, 1) := by decide +kernel
theorem dL_law_634 : decode cL_law 634 = .ok (.iconst 3, 1) := by decide +kernel
theorem dL_law_635 : decode cL_law 635 = .ok (.iadd, 1) := by decide +kernel
theorem dL_law_636 : decode cL_law 636 = .ok (.iaload, 1) := by decide +kernel
theorem dL_law_637 : decode cL_law 637 = .ok (.invokevirtual 73, 3) := by decide +kernel
theorem dL_law_640 : decode cL_law 640 = .ok (.if_icmp .eq 513, 3) := by decide +kernel
theorem dL_law_643 : decode cL_law 643 = .ok (.iconst 0, 1) := by decide +kernel
theorem dL_law_644 : decode cL_law 644 = .ok (.ireturn, 1) := by decide +kernel
theorem dL_law_645 : decode cL_law 645 = .ok (.aload_n 1, 1) := by decide +kernel
theorem dL_law_646 : decode cL_law 646 = .ok (.aload_n 0, 1) := by decide +kernel
theorem dL_law_647 : decode cL_law 647 = .ok (.iload_n 3, 1) := by decide +kernel
theorem dL_law_648 : decode cL_law 648 = .ok (.iconst 1, 1) := by decide +kernel
theorem dL_law_649 : decode cL_law 649 = .ok (.iadd, 1) := by decide +kernel
theorem dL_law_650 : decode cL_law 650 = .ok (.iaload, 1) := by decide +kernel
theorem dL_law_651 : decode cL_law 651 = .ok (.aload_n 0, 1) := by decide +kernel
theorem dL_law_652 : decode cL_law 652 = .ok (.iload_n 3, 1) := by decide +kernel
theorem dL_law_653 : decode cL_law 653 = .ok (.iconst 2, 1) := by decide +kernel
theorem dL_law_654 : decode cL_law 654 = .ok (.iadd, 1) := by decide +kernel
theorem dL_law_655 : decode cL_law 655 = .ok (.iaload, 1) := by decide +kernel
theorem dL_law_656 : decode cL_law 656 = .ok (.aload_n 0, 1) := by decide +kernel
theorem dL_law_657 : decode cL_law 657 = .ok (.iload_n 3, 1) := by decide +kernel
theorem dL_law_658 : decode cL_law 658 = .ok (.iconst 3, 1) := by decide +kernel
theorem dL_law_659 : decode cL_law 659 = .ok (.iadd, 1) := by decide +kernel
theorem dL_law_660 : decode cL_law 660 = .ok (.iaload, 1) := by decide +kernel
theorem dL_law_661 : decode cL_law 661 = .ok (.invokevirtual 74, 3) := by decide +kernel
theorem dL_law_664 : decode cL_law 664 = .ok (.aload_n 2, 1) := by decide +kernel
theorem dL_law_665 : decode cL_law 665 = .ok (.aload_n 0, 1) := by decide +kernel
theorem dL_law_666 : decode cL_law 666 = .ok (.iload_n 3, 1) := by decide +kernel
theorem dL_law_667 : decode cL_law 667 = .ok (.iconst 1, 1) := by decide +kernel
theorem dL_law_668 : decode cL_law 668 = .ok (.iadd, 1) := by decide +kernel
theorem dL_law_669 : decode cL_law 669 = .ok (.iaload, 1) := by decide +kernel
theorem dL_law_670 : decode cL_law 670 = .ok (.aload_n 0, 1) := by decide +kernel
theorem dL_law_671 : decode cL_law 671 = .ok (.iload_n 3, 1) := by decide +kernel
theorem dL_law_672 : decode cL_law 672 = .ok (.iconst 2, 1) := by decide +kernel
theorem dL_law_673 : decode cL_law 673 = .ok (.iadd, 1) := by decide +kernel
theorem dL_law_674 : decode cL_law 674 = .ok (.iaload, 1) := by decide +kernel
theorem dL_law_675 : decode cL_law 675 = .ok (.aload_n 0, 1) := by decide +kernel
theorem dL_law_676 : decode cL_law 676 = .ok (.iload_n 3, 1) := by decide +kernel
theorem dL_law_677 : decode cL_law 677 = .ok (.iconst 3, 1) := by decide +kernel
theorem dL_law_678 : decode cL_law 678 = .ok (.iadd, 1) := by decide +kernel
theorem dL_law_679 : decode cL_law 679 = .ok (.iaload, 1) := by decide +kernel
theorem dL_law_680 : decode cL_law 680 = .ok (.invokevirtual 77, 3) := by decide +kernel
theorem dL_law_683 : decode cL_law 683 = .ok (.if_icmp .eq 470, 3) := by decide +kernel
theorem dL_law_686 : decode cL_law 686 = .ok (.iconst 0, 1) := by decide +kernel
theorem dL_law_687 : decode cL_law 687 = .ok (.ireturn, 1) := by decide +kernel
theorem dL_law_688 : decode cL_law 688 = .ok (.aload_n 1, 1) := by decide +kernel
theorem dL_law_689 : decode cL_law 689 = .ok (.aload_n 0, 1) := by decide +kernel
theorem dL_law_690 : decode cL_law 690 = .ok (.iload_n 3, 1) := by decide +kernel
theorem dL_law_691 : decode cL_law 691 = .ok (.iconst 1, 1) := by decide +kernel
theorem dL_law_692 : decode cL_law 692 = .ok (.iadd, 1) := by decide +kernel
theorem dL_law_693 : decode cL_law 693 = .ok (.iaload, 1) := by decide +kernel
theorem dL_law_694 : decode cL_law 694 = .ok (.aload_n 0, 1) := by decide +kernel
theorem dL_law_695 : decode cL_law 695 = .ok (.iload_n 3, 1) := by decide +kernel
theorem dL_law_696 : decode cL_law 696 = .ok (.iconst 2, 1) := by decide +kernel
theorem dL_law_697 : decode cL_law 697 = .ok (.iadd, 1) := by decide +kernel
theorem dL_law_698 : decode cL_law 698 = .ok (.iaload, 1) := by decide +kernel
theorem dL_law_699 : decode cL_law 699 = .ok (.invokevirtual 78, 3) := by decide +kernel
theorem dL_law_702 : decode cL_law 702 = .ok (.aload_n 2, 1) := by decide +kernel
theorem dL_law_703 : decode cL_law 703 = .ok (.aload_n 0, 1) := by decide +kernel
theorem dL_law_704 : decode cL_law 704 = .ok (.iload_n 3, 1) := by decide +kernel
theorem dL_law_705 : decode cL_law 705 = .ok (.iconst 1, 1) := by decide +kernel
theorem dL_law_706 : decode cL_law 706 = .ok (.iadd, 1) := by decide +kernel
theorem dL_law_707 : decode cL_law 707 = .ok (.iaload, 1) := by decide +kernel
theorem dL_law_708 : decode cL_law 708 = .ok (.aload_n 0, 1) := by decide +kernel
theorem dL_law_709 : decode cL_law 709 = .ok (.iload_n 3, 1) := by decide +kernel
theorem dL_law_710 : decode cL_law 710 = .ok (.iconst 2, 1) := by decide +kernel
theorem dL_law_711 : decode cL_law 711 = .ok (.iadd, 1) := by decide +kernel
theorem dL_law_712 : decode cL_law 712 = .ok (.iaload, 1) := by decide +kernel
theorem dL_law_713 : decode cL_law 713 = .ok (.invokevirtual 81, 3) := by decide +kernel
theorem dL_law_716 : decode cL_law 716 = .ok (.if_icmp .eq 437, 3) := by decide +kernel
theorem dL_law_719 : decode cL_law 719 = .ok (.iconst 0, 1) := by decide +kernel
theorem dL_law_720 : decode cL_law 720 = .ok (.ireturn, 1) := by decide +kernel
theorem dL_law_721 : decode cL_law 721 = .ok (.aload_n 1, 1) := by decide +kernel
theorem dL_law_722 : decode cL_law 722 = .ok (.aload_n 0, 1) := by decide +kernel
theorem dL_law_723 : decode cL_law 723 = .ok (.iload_n 3, 1) := by decide +kernel
theorem dL_law_724 : decode cL_law 724 = .ok (.iconst 1, 1) := by decide +kernel
theorem dL_law_725 : decode cL_law 725 = .ok (.iadd, 1) := by decide +kernel
theorem dL_law_726 : decode cL_law 726 = .ok (.iaload, 1) := by decide +kernel
theorem dL_law_727 : decode cL_law 727 = .ok (.invokevirtual 82, 3) := by decide +kernel
theorem dL_law_730 : decode cL_law 730 = .ok (.aload_n 2, 1) := by decide +kernel
theorem dL_law_731 : decode cL_law 731 = .ok (.aload_n 0, 1) := by decide +kernel
theorem dL_law_732 : decode cL_law 732 = .ok (.iload_n 3, 1) := by decide +kernel
theorem dL_law_733 : decode cL_law 733 = .ok (.iconst 1, 1) := by decide +kernel
theorem dL_law_734 : decode cL_law 734 = .ok (.iadd, 1) := by decide +kernel
theorem dL_law_735 : decode cL_law 735 = .ok (.iaload, 1) := by decide +kernel
theorem dL_law_736 : decode cL_law 736 = .ok (.invokevirtual 85, 3) := by decide +kernel
theorem dL_law_739 : decode cL_law 739 = .ok (.if_icmp .eq 414, 3) := by decide +kernel
theorem dL_law_742 : decode cL_law 742 = .ok (.iconst 0, 1) := by decide +kernel
theorem dL_law_743 : decode cL_law 743 = .ok (.ireturn, 1) := by decide +kernel
theorem dL_law_744 : decode cL_law 744 = .ok (.aload_n 1, 1) := by decide +kernel
theorem dL_law_745 : decode cL_law 745 = .ok (.aload_n 0, 1) := by decide +kernel
theorem dL_law_746 : decode cL_law 746 = .ok (.iload_n 3, 1) := by decide +kernel
theorem dL_law_747 : decode cL_law 747 = .ok (.iconst 1, 1) := by decide +kernel
theorem dL_law_748 : decode cL_law 748 = .ok (.iadd, 1) := by decide +kernel
theorem dL_law_749 : decode cL_law 749 = .ok (.iaload, 1) := by decide +kernel
theorem dL_law_750 : decode cL_law 750 = .ok (.invokevirtual 86, 3) := by decide +kernel
theorem dL_law_753 : decode cL_law 753 = .ok (.aload_n 2, 1) := by decide +kernel
theorem dL_law_754 : decode cL_law 754 = .ok (.aload_n 0, 1) := by decide +kernel
theorem dL_law_755 : decode cL_law 755 = .ok (.iload_n 3, 1) := by decide +kernel
theorem dL_law_756 : decode cL_law 756 = .ok (.iconst 1, 1) := by decide +kernel
theorem dL_law_757 : decode cL_law 757 = .ok (.iadd, 1) := by decide +kernel
theorem dL_law_758 : decode cL_law 758 = .ok (.iaload, 1) := by decide +kernel
theorem dL_law_759 : decode cL_law 759 = .ok (.invokevirtual 89, 3) := by decide +kernel
theorem dL_law_762 : decode cL_law 762 = .ok (.if_icmp .eq 391, 3) := by decide +kernel
theorem dL_law_765 : decode cL_law 765 = .ok (.iconst 0, 1) := by decide +kernel
theorem dL_law_766 : decode cL_law 766 = .ok (.ireturn, 1) := by decide +kernel
theorem dL_law_767 : decode cL_law 767 = .ok (.aload_n 1, 1) := by decide +kernel
theorem dL_law_768 : decode cL_law 768 = .ok (.aload_n 0, 1) := by decide +kernel
theorem dL_law_769 : decode cL_law 769 = .ok (.iload_n 3, 1) := by decide +kernel
theorem dL_law_770 : decode cL_law 770 = .ok (.iconst 1, 1) := by decide +kernel
theorem dL_law_771 : decode cL_law 771 = .ok (.iadd, 1) := by decide +kernel
theorem dL_law_772 : decode cL_law 772 = .ok (.iaload, 1) := by decide +kernel
theorem dL_law_773 : decode cL_law 773 = .ok (.invokevirtual 90, 3) := by decide +kernel
theorem dL_law_776 : decode cL_law 776 = .ok (.aload_n 2, 1) := by decide +kernel
theorem dL_law_777 : decode cL_law 777 = .ok (.aload_n 0, 1) := by decide +kernel
theorem dL_law_778 : decode cL_law 778 = .ok (.iload_n 3, 1) := by decide +kernel
theorem dL_law_779 : decode cL_law 779 = .ok (.iconst 1, 1) := by decide +kernel
theorem dL_law_780 : decode cL_law 780 = .ok (.iadd, 1) := by decide +kernel
theorem dL_law_781 : decode cL_law 781 = .ok (.iaload, 1) := by decide +kernel
theorem dL_law_782 : decode cL_law 782 = .ok (.invokevirtual 93, 3) := by decide +kernel
theorem dL_law_785 : decode cL_law 785 = .ok (.if_icmp .eq 368, 3) := by decide +kernel
theorem dL_law_788 : decode cL_law 788 = .ok (.iconst 0, 1) := by decide +kernel
theorem dL_law_789 : decode cL_law 789 = .ok (.ireturn, 1) := by decide +kernel
theorem dL_law_790 : decode cL_law 790 = .ok (.aload_n 1, 1) := by decide +kernel
theorem dL_law_791 : decode cL_law 791 = .ok (.aload_n 0, 1) := by decide +kernel
theorem dL_law_792 : decode cL_law 792 = .ok (.iload_n 3, 1) := by decide +kernel
theorem dL_law_793 : decode cL_law 793 = .ok (.iconst 1, 1) := by decide +kernel
theorem dL_law_794 : decode cL_law 794 = .ok (.iadd, 1) := by decide +kernel
theorem dL_law_795 : decode cL_law 795 = .ok (.iaload, 1) := by decide +kernel
theorem dL_law_796 : decode cL_law 796 = .ok (.invokevirtual 94, 3) := by decide +kernel
theorem dL_law_799 : decode cL_law 799 = .ok (.aload_n 2, 1) := by decide +kernel
theorem dL_law_800 : decode cL_law 800 = .ok (.aload_n 0, 1) := by decide +kernel
theorem dL_law_801 : decode cL_law 801 = .ok (.iload_n 3, 1) := by decide +kernel
theorem dL_law_802 : decode cL_law 802 = .ok (.iconst 1, 1) := by decide +kernel
theorem dL_law_803 : decode cL_law 803 = .ok (.iadd, 1) := by decide +kernel
theorem dL_law_804 : decode cL_law 804 = .ok (.iaload, 1) := by decide +kernel
theorem dL_law_805 : decode cL_law 805 = .ok (.invokevirtual 97, 3) := by decide +kernel
theorem dL_law_808 : decode cL_law 808 = .ok (.if_icmp .eq 345, 3) := by decide +kernel
theorem dL_law_811 : decode cL_law 811 = .ok (.iconst 0, 1) := by decide +kernel
theorem dL_law_812 : decode cL_law 812 = .ok (.ireturn, 1) := by decide +kernel
theorem dL_law_813 : decode cL_law 813 = .ok (.aload_n 1, 1) := by decide +kernel
theorem dL_law_814 : decode cL_law 814 = .ok (.aload_n 0, 1) := by decide +kernel
theorem dL_law_815 : decode cL_law 815 = .ok (.iload_n 3, 1) := by decide +kernel
theorem dL_law_816 : decode cL_law 816 = .ok (.iconst 1, 1) := by decide +kernel
theorem dL_law_817 : decode cL_law 817 = .ok (.iadd, 1) := by decide +kernel
theorem dL_law_818 : decode cL_law 818 = .ok (.iaload, 1) := by decide +kernel
theorem dL_law_819 : decode cL_law 819 = .ok (.aload_n 0, 1) := by decide +kernel
theorem dL_law_820 : decode cL_law 820 = .ok (.iload_n 3, 1) := by decide +kernel
theorem dL_law_821 : decode cL_law 821 = .ok (.iconst 2, 1) := by decide +kernel
theorem dL_law_822 : decode cL_law 822 = .ok (.iadd, 1) := by decide +kernel
theorem dL_law_823 : decode cL_law 823 = .ok (.iaload, 1) := by decide +kernel
theorem dL_law_824 : decode cL_law 824 = .ok (.invokevirtual 98, 3) := by decide +kernel
theorem dL_law_827 : decode cL_law 827 = .ok (.aload_n 2, 1) := by decide +kernel
theorem dL_law_828 : decode cL_law 828 = .ok (.aload_n 0, 1) := by decide +kernel
theorem dL_law_829 : decode cL_law 829 = .ok (.iload_n 3, 1) := by decide +kernel
theorem dL_law_830 : decode cL_law 830 = .ok (.iconst 1, 1) := by decide +kernel
theorem dL_law_831 : decode cL_law 831 = .ok (.iadd, 1) := by decide +kernel
theorem dL_law_832 : decode cL_law 832 = .ok (.iaload, 1) := by decide +kernel
theorem dL_law_833 : decode cL_law 833 = .ok (.aload_n 0, 1) := by decide +kernel
theorem dL_law_834 : decode cL_law 834 = .ok (.iload_n 3, 1) := by decide +kernel
theorem dL_law_835 : decode cL_law 835 = .ok (.iconst 2, 1) := by decide +kernel
theorem dL_law_836 : decode cL_law 836 = .ok (.iadd, 1) := by decide +kernel
theorem dL_law_837 : decode cL_law 837 = .ok (.iaload, 1) := by decide +kernel
theorem dL_law_838 : decode cL_law 838 = .ok (.invokevirtual 101, 3) := by decide +kernel
theorem dL_law_841 : decode cL_law 841 = .ok (.if_icmp .eq 312, 3) := by decide +kernel
theorem dL_law_844 : decode cL_law 844 = .ok (.iconst 0, 1) := by decide +kernel
theorem dL_law_845 : decode cL_law 845 = .ok (.ireturn, 1) := by decide +kernel
theorem dL_law_846 : decode cL_law 846 = .ok (.aload_n 1, 1) := by decide +kernel
theorem dL_law_847 : decode cL_law 847 = .ok (.aload_n 0, 1) := by decide +kernel
theorem dL_law_848 : decode cL_law 848 = .ok (.iload_n 3, 1) := by decide +kernel
theorem dL_law_849 : decode cL_law 849 = .ok (.iconst 1, 1) := by decide +kernel
theorem dL_law_850 : decode cL_law 850 = .ok (.iadd, 1) := by decide +kernel
theorem dL_law_851 : decode cL_law 851 = .ok (.iaload, 1) := by decide +kernel
theorem dL_law_852 : decode cL_law 852 = .ok (.aload_n 0, 1) := by decide +kernel
theorem dL_law_853 : decode cL_law 853 = .ok (.iload_n 3, 1) := by decide +kernel
theorem dL_law_854 : decode cL_law 854 = .ok (.iconst 2, 1) := by decide +kernel
theorem dL_law_855 : decode cL_law 855 = .ok (.iadd, 1) := by decide +kernel
theorem dL_law_856 : decode cL_law 856 = .ok (.iaload, 1) := by decide +kernel
theorem dL_law_857 : decode cL_law 857 = .ok (.aload_n 0, 1) := by decide +kernel
theorem dL_law_858 : decode cL_law 858 = .ok (.iload_n 3, 1) := by decide +kernel
theorem dL_law_859 : decode cL_law 859 = .ok (.iconst 3, 1) := by decide +kernel
theorem dL_law_860 : decode cL_law 860 = .ok (.iadd, 1) := by decide +kernel
theorem dL_law_861 : decode cL_law 861 = .ok (.iaload, 1) := by decide +kernel
theorem dL_law_862 : decode cL_law 862 = .ok (.invokevirtual 102, 3) := by decide +kernel
theorem dL_law_865 : decode cL_law 865 = .ok (.aload_n 2, 1) := by decide +kernel
theorem dL_law_866 : decode cL_law 866 = .ok (.aload_n 0, 1) := by decide +kernel
theorem dL_law_867 : decode cL_law 867 = .ok (.iload_n 3, 1) := by decide +kernel
theorem dL_law_868 : decode cL_law 868 = .ok (.iconst 1, 1) := by decide +kernel
theorem dL_law_869 : decode cL_law 869 = .ok (.iadd, 1) := by decide +kernel
theorem dL_law_870 : decode cL_law 870 = .ok (.iaload, 1) := by decide +kernel
theorem dL_law_871 : decode cL_law 871 = .ok (.aload_n 0, 1) := by decide +kernel
theorem dL_law_872 : decode cL_law 872 = .ok (.iload_n 3, 1) := by decide +kernel
theorem dL_law_873 : decode cL_law 873 = .ok (.iconst 2, 1) := by decide +kernel
theorem dL_law_874 : decode cL_law 874 = .ok (.iadd, 1) := by decide +kernel
theorem dL_law_875 : decode cL_law 875 = .ok (.iaload, 1) := by decide +kernel
theorem dL_law_876 : decode cL_law 876 = .ok (.aload_n 0, 1) := by decide +kernel
theorem dL_law_877 : decode cL_law 877 = .ok (.iload_n 3, 1) := by decide +kernel
theorem dL_law_878 : decode cL_law 878 = .ok (.iconst 3, 1) := by decide +kernel
theorem dL_law_879 : decode cL_law 879 = .ok (.iadd, 1) := by decide +kernel
theorem dL_law_880 : decode cL_law 880 = .ok (.iaload, 1) := by decide +kernel
theorem dL_law_881 : decode cL_law 881 = .ok (.invokevirtual 105, 3) := by decide +kernel
theorem dL_law_884 : decode cL_law 884 = .ok (.if_icmp .eq 269, 3) := by decide +kernel
theorem dL_law_887 : decode cL_law 887 = .ok (.iconst 0, 1) := by decide +kernel
theorem dL_law_888 : decode cL_law 888 = .ok (.ireturn, 1) := by decide +kernel
theorem dL_law_889 : decode cL_law 889 = .ok (.aload_n 1, 1) := by decide +kernel
theorem dL_law_890 : decode cL_law 890 = .ok (.aload_n 0, 1) := by decide +kernel
theorem dL_law_891 : decode cL_law 891 = .ok (.iload_n 3, 1) := by decide +kernel
theorem dL_law_892 : decode cL_law 892 = .ok (.iconst 1, 1) := by decide +kernel
theorem dL_law_893 : decode cL_law 893 = .ok (.iadd, 1) := by decide +kernel
theorem dL_law_894 : decode cL_law 894 = .ok (.iaload, 1) := by decide +kernel
theorem dL_law_895 : decode cL_law 895 = .ok (.aload_n 0, 1) := by decide +kernel
theorem dL_law_896 : decode cL_law 896 = .ok (.iload_n 3, 1) := by decide +kernel
theorem dL_law_897 : decode cL_law 897 = .ok (.iconst 2, 1) := by decide +kernel
theorem dL_law_898 : decode cL_law 898 = .ok (.iadd, 1) := by decide +kernel
theorem dL_law_899 : decode cL_law 899 = .ok (.iaload, 1) := by decide +kernel
theorem dL_law_900 : decode cL_law 900 = .ok (.aload_n 0, 1) := by decide +kernel
theorem dL_law_901 : decode cL_law 901 = .ok (.iload_n 3, 1) := by decide +kernel
theorem dL_law_902 : decode cL_law 902 = .ok (.iconst 3, 1) := by decide +kernel
theorem dL_law_903 : decode cL_law 903 = .ok (.iadd, 1) := by decide +kernel
theorem dL_law_904 : decode cL_law 904 = .ok (.iaload, 1) := by decide +kernel
theorem dL_law_905 : decode cL_law 905 = .ok (.invokevirtual 106, 3) := by decide +kernel
theorem dL_law_908 : decode cL_law 908 = .ok (.aload_n 2, 1) := by decide +kernel
theorem dL_law_909 : decode cL_law 909 = .ok (.aload_n 0, 1) := by decide +kernel
theorem dL_law_910 : decode cL_law 910 = .ok (.iload_n 3, 1) := by decide +kernel
theorem dL_law_911 : decode cL_law 911 = .ok (.iconst 1, 1) := by decide +kernel
theorem dL_law_912 : decode cL_law 912 = .ok (.iadd, 1) := by decide +kernel
theorem dL_law_913 : decode cL_law 913 = .ok (.iaload, 1) := by decide +kernel
theorem dL_law_914 : decode cL_law 914 = .ok (.aload_n 0, 1) := by decide +kernel
theorem dL_law_915 : decode cL_law 915 = .ok (.iload_n 3, 1) := by decide +kernel
theorem dL_law_916 : decode cL_law 916 = .ok (.iconst 2, 1) := by decide +kernel
theorem dL_law_917 : decode cL_law 917 = .ok (.iadd, 1) := by decide +kernel
theorem dL_law_918 : decode cL_law 918 = .ok (.iaload, 1) := by decide +kernel
theorem dL_law_919 : decode cL_law 919 = .ok (.aload_n 0, 1) := by decide +kernel
theorem dL_law_920 : decode cL_law 920 = .ok (.iload_n 3, 1) := by decide +kernel
theorem dL_law_921 : decode cL_law 921 = .ok (.iconst 3, 1) := by decide +kernel
theorem dL_law_922 : decode cL_law 922 = .ok (.iadd, 1) := by decide +kernel
theorem dL_law_923 : decode cL_law 923 = .ok (.iaload, 1) := by decide +kernel
theorem dL_law_924 : decode cL_law 924 = .ok (.invokevirtual 109, 3) := by decide +kernel
theorem dL_law_927 : decode cL_law 927 = .ok (.if_icmp .eq 226, 3) := by decide +kernel
theorem dL_law_930 : decode cL_law 930 = .ok (.iconst 0, 1) := by decide +kernel
theorem dL_law_931 : decode cL_law 931 = .ok (.ireturn, 1) := by decide +kernel
theorem dL_law_932 : decode cL_law 932 = .ok (.aload_n 1, 1) := by decide +kernel
theorem dL_law_933 : decode cL_law 933 = .ok (.aload_n 0, 1) := by decide +kernel
theorem dL_law_934 : decode cL_law 934 = .ok (.iload_n 3, 1) := by decide +kernel
theorem dL_law_935 : decode cL_law 935 = .ok (.iconst 1, 1) := by decide +kernel
theorem dL_law_936 : decode cL_law 936 = .ok (.iadd, 1) := by decide +kernel
theorem dL_law_937 : decode cL_law 937 = .ok (.iaload, 1) := by decide +kernel
theorem dL_law_938 : decode cL_law 938 = .ok (.aload_n 0, 1) := by decide +kernel
theorem dL_law_939 : decode cL_law 939 = .ok (.iload_n 3, 1) := by decide +kernel
theorem dL_law_940 : decode cL_law 940 = .ok (.iconst 2, 1) := by decide +kernel
theorem dL_law_941 : decode cL_law 941 = .ok (.iadd, 1) := by decide +kernel
theorem dL_law_942 : decode cL_law 942 = .ok (.iaload, 1) := by decide +kernel
theorem dL_law_943 : decode cL_law 943 = .ok (.aload_n 0, 1) := by decide +kernel
theorem dL_law_944 : decode cL_law 944 = .ok (.iload_n 3, 1) := by decide +kernel
theorem dL_law_945 : decode cL_law 945 = .ok (.iconst 3, 1) := by decide +kernel
theorem dL_law_946 : decode cL_law 946 = .ok (.iadd, 1) := by decide +kernel
theorem dL_law_947 : decode cL_law 947 = .ok (.iaload, 1) := by decide +kernel
theorem dL_law_948 : decode cL_law 948 = .ok (.aload_n 0, 1) := by decide +kernel
theorem dL_law_949 : decode cL_law 949 = .ok (.iload_n 3, 1) := by decide +kernel
theorem dL_law_950 : decode cL_law 950 = .ok (.iconst 4, 1) := by decide +kernel
theorem dL_law_951 : decode cL_law 951 = .ok (.iadd, 1) := by decide +kernel
theorem dL_law_952 : decode cL_law 952 = .ok (.iaload, 1) := by decide +kernel
theorem dL_law_953 : decode cL_law 953 = .ok (.invokevirtual 110, 3) := by decide +kernel
theorem dL_law_956 : decode cL_law 956 = .ok (.aload_n 2, 1) := by decide +kernel
theorem dL_law_957 : decode cL_law 957 = .ok (.aload_n 0, 1) := by decide +kernel
theorem dL_law_958 : decode cL_law 958 = .ok (.iload_n 3, 1) := by decide +kernel
theorem dL_law_959 : decode cL_law 959 = .ok (.iconst 1, 1) := by decide +kernel
theorem dL_law_960 : decode cL_law 960 = .ok (.iadd, 1) := by decide +kernel
theorem dL_law_961 : decode cL_law 961 = .ok (.iaload, 1) := by decide +kernel
theorem dL_law_962 : decode cL_law 962 = .ok (.aload_n 0, 1) := by decide +kernel
theorem dL_law_963 : decode cL_law 963 = .ok (.iload_n 3, 1) := by decide +kernel
theorem dL_law_964 : decode cL_law 964 = .ok (.iconst 2, 1) := by decide +kernel
theorem dL_law_965 : decode cL_law 965 = .ok (.iadd, 1) := by decide +kernel
theorem dL_law_966 : decode cL_law 966 = .ok (.iaload, 1) := by decide +kernel
theorem dL_law_967 : decode cL_law 967 = .ok (.aload_n 0, 1) := by decide +kernel
theorem dL_law_968 : decode cL_law 968 = .ok (.iload_n 3, 1) := by decide +kernel
theorem dL_law_969 : decode cL_law 969 = .ok (.iconst 3, 1) := by decide +kernel
theorem dL_law_970 : decode cL_law 970 = .ok (.iadd, 1) := by decide +kernel
theorem dL_law_971 : decode cL_law 971 = .ok (.iaload, 1) := by decide +kernel
theorem dL_law_972 : decode cL_law 972 = .ok (.aload_n 0, 1) := by decide +kernel
theorem dL_law_973 : decode cL_law 973 = .ok (.iload_n 3, 1) := by decide +kernel
theorem dL_law_974 : decode cL_law 974 = .ok (.iconst 4, 1) := by decide +kernel
theorem dL_law_975 : decode cL_law 975 = .ok (.iadd, 1) := by decide +kernel
theorem dL_law_976 : decode cL_law 976 = .ok (.iaload, 1) := by decide +kernel
theorem dL_law_977 : decode cL_law 977 = .ok (.invokevirtual 114, 3) := by decide +kernel
theorem dL_law_980 : decode cL_law 980 = .ok (.if_icmp .eq 173, 3) := by decide +kernel
theorem dL_law_983 : decode cL_law 983 = .ok (.iconst 0, 1) := by decide +kernel
theorem dL_law_984 : decode cL_law 984 = .ok (.ireturn, 1) := by decide +kernel
theorem dL_law_985 : decode cL_law 985 = .ok (.aload_n 1, 1) := by decide +kernel
theorem dL_law_986 : decode cL_law 986 = .ok (.aload_n 0, 1) := by decide +kernel
theorem dL_law_987 : decode cL_law 987 = .ok (.iload_n 3, 1) := by decide +kernel
theorem dL_law_988 : decode cL_law 988 = .ok (.iconst 1, 1) := by decide +kernel
theorem dL_law_989 : decode cL_law 989 = .ok (.iadd, 1) := by decide +kernel
theorem dL_law_990 : decode cL_law 990 = .ok (.iaload, 1) := by decide +kernel
theorem dL_law_991 : decode cL_law 991 = .ok (.aload_n 0, 1) := by decide +kernel
theorem dL_law_992 : decode cL_law 992 = .ok (.iload_n 3, 1) := by decide +kernel
theorem dL_law_993 : decode cL_law 993 = .ok (.iconst 2, 1) := by decide +kernel
theorem dL_law_994 : decode cL_law 994 = .ok (.iadd, 1) := by decide +kernel
theorem dL_law_995 : decode cL_law 995 = .ok (.iaload, 1) := by decide +kernel
theorem dL_law_996 : decode cL_law 996 = .ok (.aload_n 0, 1) := by decide +kernel
theorem dL_law_997 : decode cL_law 997 = .ok (.iload_n 3, 1) := by decide +kernel
theorem dL_law_998 : decode cL_law 998 = .ok (.iconst 3, 1) := by decide +kernel
theorem dL_law_999 : decode cL_law 999 = .ok (.iadd, 1) := by decide +kernel
theorem dL_law_1000 : decode cL_law 1000 = .ok (.iaload, 1) := by decide +kernel
theorem dL_law_1001 : decode cL_law 1001 = .ok (.invokevirtual 115, 3) := by decide +kernel
theorem dL_law_1004 : decode cL_law 1004 = .ok (.aload_n 2, 1) := by decide +kernel
theorem dL_law_1005 : decode cL_law 1005 = .ok (.aload_n 0, 1) := by decide +kernel
theorem dL_law_1006 : decode cL_law 1006 = .ok (.iload_n 3, 1) := by decide +kernel
theorem dL_law_1007 : decode cL_law 1007 = .ok (.iconst 1, 1) := by decide +kernel
theorem dL_law_1008 : decode cL_law 1008 = .ok (.iadd, 1) := by decide +kernel
theorem dL_law_1009 : decode cL_law 1009 = .ok (.iaload, 1) := by decide +kernel
theorem dL_law_1010 : decode cL_law 1010 = .ok (.aload_n 0, 1) := by decide +kernel
theorem dL_law_1011 : decode cL_law 1011 = .ok (.iload_n 3, 1) := by decide +kernel
theorem dL_law_1012 : decode cL_law 1012 = .ok (.iconst 2, 1) := by decide +kernel
theorem dL_law_1013 : decode cL_law 1013 = .ok (.iadd, 1) := by decide +kernel
theorem dL_law_1014 : decode cL_law 1014 = .ok (.iaload, 1) := by decide +kernel
theorem dL_law_1015 : decode cL_law 1015 = .ok (.aload_n 0, 1) := by decide +kernel
theorem dL_law_1016 : decode cL_law 1016 = .ok (.iload_n 3, 1) := by decide +kernel
theorem dL_law_1017 : decode cL_law 1017 = .ok (.iconst 3, 1) := by decide +kernel
theorem dL_law_1018 : decode cL_law 1018 = .ok (.iadd, 1) := by decide +kernel
theorem dL_law_1019 : decode cL_law 1019 = .ok (.iaload, 1) := by decide +kernel
theorem dL_law_1020 : decode cL_law 1020 = .ok (.invokevirtual 118, 3) := by decide +kernel
theorem dL_law_1023 : decode cL_law 1023 = .ok (.if_icmp .eq 130, 3) := by decide +kernel
theorem dL_law_1026 : decode cL_law 1026 = .ok (.iconst 0, 1) := by decide +kernel
theorem dL_law_1027 : decode cL_law 1027 = .ok (.ireturn, 1) := by decide +kernel
theorem dL_law_1028 : decode cL_law 1028 = .ok (.aload_n 1, 1) := by decide +kernel
theorem dL_law_1029 : decode cL_law 1029 = .ok (.invokevirtual 119, 3) := by decide +kernel
theorem dL_law_1032 : decode cL_law 1032 = .ok (.aload_n 2, 1) := by decide +kernel
theorem dL_law_1033 : decode cL_law 1033 = .ok (.invokevirtual 122, 3) := by decide +kernel
theorem dL_law_1036 : decode cL_law 1036 = .ok (.if_icmp .eq 117, 3) := by decide +kernel
theorem dL_law_1039 : decode cL_law 1039 = .ok (.iconst 0, 1) := by decide +kernel
theorem dL_law_1040 : decode cL_law 1040 = .ok (.ireturn, 1) := by decide +kernel
theorem dL_law_1041 : decode cL_law 1041 = .ok (.aload_n 1, 1) := by decide +kernel
theorem dL_law_1042 : decode cL_law 1042 = .ok (.aload_n 0, 1) := by decide +kernel
theorem dL_law_1043 : decode cL_law 1043 = .ok (.iload_n 3, 1) := by decide +kernel
theorem dL_law_1044 : decode cL_law 1044 = .ok (.iconst 1, 1) := by decide +kernel
theorem dL_law_1045 : decode cL_law 1045 = .ok (.iadd, 1) := by decide +kernel
theorem dL_law_1046 : decode cL_law 1046 = .ok (.iaload, 1) := by decide +kernel
theorem dL_law_1047 : decode cL_law 1047 = .ok (.aload_n 0, 1) := by decide +kernel
theorem dL_law_1048 : decode cL_law 1048 = .ok (.iload_n 3, 1) := by decide +kernel
theorem dL_law_1049 : decode cL_law 1049 = .ok (.iconst 2, 1) := by decide +kernel
theorem dL_law_1050 : decode cL_law 1050 = .ok (.iadd, 1) := by decide +kernel
theorem dL_law_1051 : decode cL_law 1051 = .ok (.iaload, 1) := by decide +kernel
theorem dL_law_1052 : decode cL_law 1052 = .ok (.invokevirtual 123, 3) := by decide +kernel
theorem dL_law_1055 : decode cL_law 1055 = .ok (.aload_n 2, 1) := by decide +kernel
theorem dL_law_1056 : decode cL_law 1056 = .ok (.aload_n 0, 1) := by decide +kernel
theorem dL_law_1057 : decode cL_law 1057 = .ok (.iload_n 3, 1) := by decide +kernel
theorem dL_law_1058 : decode cL_law 1058 = .ok (.iconst 1, 1) := by decide +kernel
theorem dL_law_1059 : decode cL_law 1059 = .ok (.iadd, 1) := by decide +kernel
theorem dL_law_1060 : decode cL_law 1060 = .ok (.iaload, 1) := by decide +kernel
theorem dL_law_1061 : decode cL_law 1061 = .ok (.aload_n 0, 1) := by decide +kernel
theorem dL_law_1062 : decode cL_law 1062 = .ok (.iload_n 3, 1) := by decide +kernel
theorem dL_law_1063 : decode cL_law 1063 = .ok (.iconst 2, 1) := by decide +kernel
theorem dL_law_1064 : decode cL_law 1064 = .ok (.iadd, 1) := by decide +kernel
theorem dL_law_1065 : decode cL_law 1065 = .ok (.iaload, 1) := by decide +kernel
theorem dL_law_1066 : decode cL_law 1066 = .ok (.invokevirtual 126, 3) := by decide +kernel
theorem dL_law_1069 : decode cL_law 1069 = .ok (.if_icmp .eq 84, 3) := by decide +kernel
theorem dL_law_1072 : decode cL_law 1072 = .ok (.iconst 0, 1) := by decide +kernel
theorem dL_law_1073 : decode cL_law 1073 = .ok (.ireturn, 1) := by decide +kernel
theorem dL_law_1074 : decode cL_law 1074 = .ok (.aload_n 1, 1) := by decide +kernel
theorem dL_law_1075 : decode cL_law 1075 = .ok (.aload_n 0, 1) := by decide +kernel
theorem dL_law_1076 : decode cL_law 1076 = .ok (.iload_n 3, 1) := by decide +kernel
theorem dL_law_1077 : decode cL_law 1077 = .ok (.iconst 1, 1) := by decide +kernel
theorem dL_law_1078 : decode cL_law 1078 = .ok (.iadd, 1) := by decide +kernel
theorem dL_law_1079 : decode cL_law 1079 = .ok (.iaload, 1) := by decide +kernel
theorem dL_law_1080 : decode cL_law 1080 = .ok (.invokevirtual 127, 3) := by decide +kernel
theorem dL_law_1083 : decode cL_law 1083 = .ok (.aload_n 2, 1) := by decide +kernel
theorem dL_law_1084 : decode cL_law 1084 = .ok (.aload_n 0, 1) := by decide +kernel
theorem dL_law_1085 : decode cL_law 1085 = .ok (.iload_n 3, 1) := by decide +kernel
theorem dL_law_1086 : decode cL_law 1086 = .ok (.iconst 1, 1) := by decide +kernel
theorem dL_law_1087 : decode cL_law 1087 = .ok (.iadd, 1) := by decide +kernel
theorem dL_law_1088 : decode cL_law 1088 = .ok (.iaload, 1) := by decide +kernel
theorem dL_law_1089 : decode cL_law 1089 = .ok (.invokevirtual 130, 3) := by decide +kernel
theorem dL_law_1092 : decode cL_law 1092 = .ok (.if_icmp .eq 61, 3) := by decide +kernel
theorem dL_law_1095 : decode cL_law 1095 = .ok (.iconst 0, 1) := by decide +kernel
theorem dL_law_1096 : decode cL_law 1096 = .ok (.ireturn, 1) := by decide +kernel
theorem dL_law_1097 : decode cL_law 1097 = .ok (.aload_n 1, 1) := by decide +kernel
theorem dL_law_1098 : decode cL_law 1098 = .ok (.aload_n 0, 1) := by decide +kernel
theorem dL_law_1099 : decode cL_law 1099 = .ok (.iload_n 3, 1) := by decide +kernel
theorem dL_law_1100 : decode cL_law 1100 = .ok (.iconst 1, 1) := by decide +kernel
theorem dL_law_1101 : decode cL_law 1101 = .ok (.iadd, 1) := by decide +kernel
theorem dL_law_1102 : decode cL_law 1102 = .ok (.iaload, 1) := by decide +kernel
theorem dL_law_1103 : decode cL_law 1103 = .ok (.aload_n 0, 1) := by decide +kernel
theorem dL_law_1104 : decode cL_law 1104 = .ok (.iload_n 3, 1) := by decide +kernel
theorem dL_law_1105 : decode cL_law 1105 = .ok (.iconst 2, 1) := by decide +kernel
theorem dL_law_1106 : decode cL_law 1106 = .ok (.iadd, 1) := by decide +kernel
theorem dL_law_1107 : decode cL_law 1107 = .ok (.iaload, 1) := by decide +kernel
theorem dL_law_1108 : decode cL_law 1108 = .ok (.invokevirtual 131, 3) := by decide +kernel
theorem dL_law_1111 : decode cL_law 1111 = .ok (.aload_n 2, 1) := by decide +kernel
theorem dL_law_1112 : decode cL_law 1112 = .ok (.aload_n 0, 1) := by decide +kernel
theorem dL_law_1113 : decode cL_law 1113 = .ok (.iload_n 3, 1) := by decide +kernel
theorem dL_law_1114 : decode cL_law 1114 = .ok (.iconst 1, 1) := by decide +kernel
theorem dL_law_1115 : decode cL_law 1115 = .ok (.iadd, 1) := by decide +kernel
theorem dL_law_1116 : decode cL_law 1116 = .ok (.iaload, 1) := by decide +kernel
theorem dL_law_1117 : decode cL_law 1117 = .ok (.aload_n 0, 1) := by decide +kernel
theorem dL_law_1118 : decode cL_law 1118 = .ok (.iload_n 3, 1) := by decide +kernel
theorem dL_law_1119 : decode cL_law 1119 = .ok (.iconst 2, 1) := by decide +kernel
theorem dL_law_1120 : decode cL_law 1120 = .ok (.iadd, 1) := by decide +kernel
theorem dL_law_1121 : decode cL_law 1121 = .ok (.iaload, 1) := by decide +kernel
theorem dL_law_1122 : decode cL_law 1122 = .ok (.invokevirtual 134, 3) := by decide +kernel
theorem dL_law_1125 : decode cL_law 1125 = .ok (.if_icmp .eq 28, 3) := by decide +kernel
theorem dL_law_1128 : decode cL_law 1128 = .ok (.iconst 0, 1) := by decide +kernel
theorem dL_law_1129 : decode cL_law 1129 = .ok (.ireturn, 1) := by decide +kernel
theorem dL_law_1130 : decode cL_law 1130 = .ok (.aload_n 1, 1) := by decide +kernel
theorem dL_law_1131 : decode cL_law 1131 = .ok (.aload_n 0, 1) := by decide +kernel
theorem dL_law_1132 : decode cL_law 1132 = .ok (.iload_n 3, 1) := by decide +kernel
theorem dL_law_1133 : decode cL_law 1133 = .ok (.iconst 1, 1) := by decide +kernel
theorem dL_law_1134 : decode cL_law 1134 = .ok (.iadd, 1) := by decide +kernel
theorem dL_law_1135 : decode cL_law 1135 = .ok (.iaload, 1) := by decide +kernel
theorem dL_law_1136 : decode cL_law 1136 = .ok (.invokevirtual 135, 3) := by decide +kernel
theorem dL_law_1139 : decode cL_law 1139 = .ok (.aload_n 2, 1) := by decide +kernel
theorem dL_law_1140 : decode cL_law 1140 = .ok (.aload_n 0, 1) := by decide +kernel
theorem dL_law_1141 : decode cL_law 1141 = .ok (.iload_n 3, 1) := by decide +kernel
theorem dL_law_1142 : decode cL_law 1142 = .ok (.iconst 1, 1) := by decide +kernel
theorem dL_law_1143 : decode cL_law 1143 = .ok (.iadd, 1) := by decide +kernel
theorem dL_law_1144 : decode cL_law 1144 = .ok (.iaload, 1) := by decide +kernel
theorem dL_law_1145 : decode cL_law 1145 = .ok (.invokevirtual 138, 3) := by decide +kernel
theorem dL_law_1148 : decode cL_law 1148 = .ok (.if_icmp .eq 5, 3) := by decide +kernel
theorem dL_law_1151 : decode cL_law 1151 = .ok (.iconst 0, 1) := by decide +kernel
theorem dL_law_1152 : decode cL_law 1152 = .ok (.ireturn, 1) := by decide +kernel
theorem dL_law_1153 : decode cL_law 1153 = .ok (.iinc 3 5, 3) := by decide +kernel
theorem dL_law_1156 : decode cL_law 1156 = .ok (.goto (-1138), 3) := by decide +kernel
theorem dL_law_1159 : decode cL_law 1159 = .ok (.iconst 1, 1) := by decide +kernel
theorem dL_law_1160 : decode cL_law 1160 = .ok (.ireturn, 1) := by decide +kernel
