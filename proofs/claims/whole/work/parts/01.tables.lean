-- ===== PART A: goes FIRST, ahead of the names: the tables' words, and 'selects' of the private methods out of them =====
/-- a private method of a class that the tables say can be made, by its rows of tables_1 -/
def lw_okq (q : MethodName × Nat) : Prop := (q.1.cls ≠ "java/lang/invoke/MethodHandle" ∧ q.1.cls ≠ "java/lang/invoke/VarHandle") ∧ Cond.instantiable q.1.cls q.2 ∈ tables_1 ∧ Cond.privateMethod q.1 ∈ tables_1 ∧ Cond.instanceMethod q.1 ∈ tables_1
theorem lw_p0 : lw_okq (⟨"NeverCross", "refuse", "(I)I"⟩, 17) := ⟨⟨by decide +kernel, by decide +kernel⟩, List.mem_of_getElem? (i := 19) (by decide +kernel), List.mem_of_getElem? (i := 322) (by decide +kernel), List.mem_of_getElem? (i := 323) (by decide +kernel)⟩
theorem lw_p1 : lw_okq (⟨"NeverCross$Slope", "wipe", "()V"⟩, 12) := ⟨⟨by decide +kernel, by decide +kernel⟩, List.mem_of_getElem? (i := 27) (by decide +kernel), List.mem_of_getElem? (i := 334) (by decide +kernel), List.mem_of_getElem? (i := 335) (by decide +kernel)⟩
theorem lw_p2 : lw_okq (⟨"NeverCross$Slope", "endRow", "()Z"⟩, 12) := ⟨⟨by decide +kernel, by decide +kernel⟩, List.mem_of_getElem? (i := 27) (by decide +kernel), List.mem_of_getElem? (i := 344) (by decide +kernel), List.mem_of_getElem? (i := 345) (by decide +kernel)⟩
theorem lw_p3 : lw_okq (⟨"NeverCross$Slope", "addCell", "(I)Z"⟩, 12) := ⟨⟨by decide +kernel, by decide +kernel⟩, List.mem_of_getElem? (i := 27) (by decide +kernel), List.mem_of_getElem? (i := 348) (by decide +kernel), List.mem_of_getElem? (i := 349) (by decide +kernel)⟩
theorem lw_p4 : lw_okq (⟨"NeverCross$Slope", "put", "(III)Z"⟩, 12) := ⟨⟨by decide +kernel, by decide +kernel⟩, List.mem_of_getElem? (i := 27) (by decide +kernel), List.mem_of_getElem? (i := 352) (by decide +kernel), List.mem_of_getElem? (i := 353) (by decide +kernel)⟩
theorem lw_p5 : lw_okq (⟨"NeverCross$Slope", "putOnce", "(II[I)Z"⟩, 12) := ⟨⟨by decide +kernel, by decide +kernel⟩, List.mem_of_getElem? (i := 27) (by decide +kernel), List.mem_of_getElem? (i := 356) (by decide +kernel), List.mem_of_getElem? (i := 357) (by decide +kernel)⟩
theorem lw_p6 : lw_okq (⟨"NeverCross$Slope", "pairDoors", "()Z"⟩, 12) := ⟨⟨by decide +kernel, by decide +kernel⟩, List.mem_of_getElem? (i := 27) (by decide +kernel), List.mem_of_getElem? (i := 360) (by decide +kernel), List.mem_of_getElem? (i := 361) (by decide +kernel)⟩
theorem lw_p7 : lw_okq (⟨"NeverCross", "hasSlope", "()Z"⟩, 17) := ⟨⟨by decide +kernel, by decide +kernel⟩, List.mem_of_getElem? (i := 19) (by decide +kernel), List.mem_of_getElem? (i := 404) (by decide +kernel), List.mem_of_getElem? (i := 405) (by decide +kernel)⟩
theorem lw_p8 : lw_okq (⟨"NeverCross", "familiesByLaw", "()I"⟩, 17) := ⟨⟨by decide +kernel, by decide +kernel⟩, List.mem_of_getElem? (i := 19) (by decide +kernel), List.mem_of_getElem? (i := 444) (by decide +kernel), List.mem_of_getElem? (i := 445) (by decide +kernel)⟩
theorem lw_p9 : lw_okq (⟨"NeverCross", "studyNow", "()LNeverCross$Study;"⟩, 17) := ⟨⟨by decide +kernel, by decide +kernel⟩, List.mem_of_getElem? (i := 19) (by decide +kernel), List.mem_of_getElem? (i := 448) (by decide +kernel), List.mem_of_getElem? (i := 449) (by decide +kernel)⟩
theorem lw_p10 : lw_okq (⟨"NeverCross$Ways", "goOn", "(IIII)V"⟩, 5) := ⟨⟨by decide +kernel, by decide +kernel⟩, List.mem_of_getElem? (i := 170) (by decide +kernel), List.mem_of_getElem? (i := 458) (by decide +kernel), List.mem_of_getElem? (i := 459) (by decide +kernel)⟩
theorem lw_p11 : lw_okq (⟨"NeverCross$Ways", "note", "(III)V"⟩, 5) := ⟨⟨by decide +kernel, by decide +kernel⟩, List.mem_of_getElem? (i := 170) (by decide +kernel), List.mem_of_getElem? (i := 463) (by decide +kernel), List.mem_of_getElem? (i := 464) (by decide +kernel)⟩
theorem lw_p12 : lw_okq (⟨"NeverCross$Study", "choose", "(IIII)V"⟩, 9) := ⟨⟨by decide +kernel, by decide +kernel⟩, List.mem_of_getElem? (i := 201) (by decide +kernel), List.mem_of_getElem? (i := 472) (by decide +kernel), List.mem_of_getElem? (i := 473) (by decide +kernel)⟩
theorem lw_p13 : lw_okq (⟨"NeverCross$Study", "meet", "(III)V"⟩, 9) := ⟨⟨by decide +kernel, by decide +kernel⟩, List.mem_of_getElem? (i := 201) (by decide +kernel), List.mem_of_getElem? (i := 476) (by decide +kernel), List.mem_of_getElem? (i := 477) (by decide +kernel)⟩
theorem lw_p14 : lw_okq (⟨"NeverCross$Study", "note", "(II)V"⟩, 9) := ⟨⟨by decide +kernel, by decide +kernel⟩, List.mem_of_getElem? (i := 201) (by decide +kernel), List.mem_of_getElem? (i := 481) (by decide +kernel), List.mem_of_getElem? (i := 482) (by decide +kernel)⟩
theorem lw_p15 : lw_okq (⟨"NeverCross$Study", "doorsPickedThrough", "(I)I"⟩, 9) := ⟨⟨by decide +kernel, by decide +kernel⟩, List.mem_of_getElem? (i := 201) (by decide +kernel), List.mem_of_getElem? (i := 488) (by decide +kernel), List.mem_of_getElem? (i := 489) (by decide +kernel)⟩
def lw_privs_1 : List (MethodName × Nat) := [(⟨"NeverCross", "refuse", "(I)I"⟩, 17), (⟨"NeverCross$Slope", "wipe", "()V"⟩, 12), (⟨"NeverCross$Slope", "endRow", "()Z"⟩, 12), (⟨"NeverCross$Slope", "addCell", "(I)Z"⟩, 12), (⟨"NeverCross$Slope", "put", "(III)Z"⟩, 12), (⟨"NeverCross$Slope", "putOnce", "(II[I)Z"⟩, 12), (⟨"NeverCross$Slope", "pairDoors", "()Z"⟩, 12), (⟨"NeverCross", "hasSlope", "()Z"⟩, 17), (⟨"NeverCross", "familiesByLaw", "()I"⟩, 17), (⟨"NeverCross", "studyNow", "()LNeverCross$Study;"⟩, 17), (⟨"NeverCross$Ways", "goOn", "(IIII)V"⟩, 5), (⟨"NeverCross$Ways", "note", "(III)V"⟩, 5), (⟨"NeverCross$Study", "choose", "(IIII)V"⟩, 9), (⟨"NeverCross$Study", "meet", "(III)V"⟩, 9), (⟨"NeverCross$Study", "note", "(II)V"⟩, 9), (⟨"NeverCross$Study", "doorsPickedThrough", "(I)I"⟩, 9)]
theorem lw_r1 : ∀ q ∈ lw_privs_1, lw_okq q := List.forall_mem_cons.mpr ⟨lw_p0, List.forall_mem_cons.mpr ⟨lw_p1, List.forall_mem_cons.mpr ⟨lw_p2, List.forall_mem_cons.mpr ⟨lw_p3, List.forall_mem_cons.mpr ⟨lw_p4, List.forall_mem_cons.mpr ⟨lw_p5, List.forall_mem_cons.mpr ⟨lw_p6, List.forall_mem_cons.mpr ⟨lw_p7, List.forall_mem_cons.mpr ⟨lw_p8, List.forall_mem_cons.mpr ⟨lw_p9, List.forall_mem_cons.mpr ⟨lw_p10, List.forall_mem_cons.mpr ⟨lw_p11, List.forall_mem_cons.mpr ⟨lw_p12, List.forall_mem_cons.mpr ⟨lw_p13, List.forall_mem_cons.mpr ⟨lw_p14, List.forall_mem_cons.mpr ⟨lw_p15, fun _ h => absurd h List.not_mem_nil⟩⟩⟩⟩⟩⟩⟩⟩⟩⟩⟩⟩⟩⟩⟩⟩
theorem lw_p16 : lw_okq (⟨"NeverCross", "ordersByLaw", "()I"⟩, 17) := ⟨⟨by decide +kernel, by decide +kernel⟩, List.mem_of_getElem? (i := 19) (by decide +kernel), List.mem_of_getElem? (i := 496) (by decide +kernel), List.mem_of_getElem? (i := 497) (by decide +kernel)⟩
theorem lw_p17 : lw_okq (⟨"NeverCross", "lawNow", "()LNeverCross$Law;"⟩, 17) := ⟨⟨by decide +kernel, by decide +kernel⟩, List.mem_of_getElem? (i := 19) (by decide +kernel), List.mem_of_getElem? (i := 500) (by decide +kernel), List.mem_of_getElem? (i := 501) (by decide +kernel)⟩
theorem lw_p18 : lw_okq (⟨"NeverCross", "strikeOut", "(II)I"⟩, 17) := ⟨⟨by decide +kernel, by decide +kernel⟩, List.mem_of_getElem? (i := 19) (by decide +kernel), List.mem_of_getElem? (i := 553) (by decide +kernel), List.mem_of_getElem? (i := 554) (by decide +kernel)⟩
theorem lw_p19 : lw_okq (⟨"NeverCross", "familiesThrough", "(I)I"⟩, 17) := ⟨⟨by decide +kernel, by decide +kernel⟩, List.mem_of_getElem? (i := 19) (by decide +kernel), List.mem_of_getElem? (i := 583) (by decide +kernel), List.mem_of_getElem? (i := 584) (by decide +kernel)⟩
theorem lw_p20 : lw_okq (⟨"NeverCross", "stepOfRanked", "(IIII)I"⟩, 17) := ⟨⟨by decide +kernel, by decide +kernel⟩, List.mem_of_getElem? (i := 19) (by decide +kernel), List.mem_of_getElem? (i := 602) (by decide +kernel), List.mem_of_getElem? (i := 603) (by decide +kernel)⟩
theorem lw_p21 : lw_okq (⟨"NeverCross$Finder", "pick", "(II)V"⟩, 6) := ⟨⟨by decide +kernel, by decide +kernel⟩, List.mem_of_getElem? (i := 240) (by decide +kernel), List.mem_of_getElem? (i := 611) (by decide +kernel), List.mem_of_getElem? (i := 612) (by decide +kernel)⟩
theorem lw_p22 : lw_okq (⟨"NeverCross", "firstAstray", "()I"⟩, 17) := ⟨⟨by decide +kernel, by decide +kernel⟩, List.mem_of_getElem? (i := 19) (by decide +kernel), List.mem_of_getElem? (i := 688) (by decide +kernel), List.mem_of_getElem? (i := 689) (by decide +kernel)⟩
theorem lw_p23 : lw_okq (⟨"NeverCross$Held", "cellsOfTold", "(I)I"⟩, 8) := ⟨⟨by decide +kernel, by decide +kernel⟩, List.mem_of_getElem? (i := 87) (by decide +kernel), List.mem_of_getElem? (i := 701) (by decide +kernel), List.mem_of_getElem? (i := 702) (by decide +kernel)⟩
theorem lw_p24 : lw_okq (⟨"NeverCrossModel", "refuse", "(I)I"⟩, 28) := ⟨⟨by decide +kernel, by decide +kernel⟩, List.mem_of_getElem? (i := 728) (by decide +kernel), List.mem_of_getElem? (i := 826) (by decide +kernel), List.mem_of_getElem? (i := 827) (by decide +kernel)⟩
theorem lw_p25 : lw_okq (⟨"NeverCrossModel", "reads", "()I"⟩, 28) := ⟨⟨by decide +kernel, by decide +kernel⟩, List.mem_of_getElem? (i := 728) (by decide +kernel), List.mem_of_getElem? (i := 834) (by decide +kernel), List.mem_of_getElem? (i := 835) (by decide +kernel)⟩
theorem lw_p26 : lw_okq (⟨"NeverCrossModel", "tells", "(II)Z"⟩, 28) := ⟨⟨by decide +kernel, by decide +kernel⟩, List.mem_of_getElem? (i := 728) (by decide +kernel), List.mem_of_getElem? (i := 838) (by decide +kernel), List.mem_of_getElem? (i := 839) (by decide +kernel)⟩
theorem lw_p27 : lw_okq (⟨"NeverCrossModel", "isCell", "(I)Z"⟩, 28) := ⟨⟨by decide +kernel, by decide +kernel⟩, List.mem_of_getElem? (i := 728) (by decide +kernel), List.mem_of_getElem? (i := 846) (by decide +kernel), List.mem_of_getElem? (i := 847) (by decide +kernel)⟩
theorem lw_p28 : lw_okq (⟨"NeverCrossModel", "cells", "()I"⟩, 28) := ⟨⟨by decide +kernel, by decide +kernel⟩, List.mem_of_getElem? (i := 728) (by decide +kernel), List.mem_of_getElem? (i := 850) (by decide +kernel), List.mem_of_getElem? (i := 851) (by decide +kernel)⟩
theorem lw_p29 : lw_okq (⟨"NeverCrossModel", "isOrder", "(I)Z"⟩, 28) := ⟨⟨by decide +kernel, by decide +kernel⟩, List.mem_of_getElem? (i := 728) (by decide +kernel), List.mem_of_getElem? (i := 865) (by decide +kernel), List.mem_of_getElem? (i := 866) (by decide +kernel)⟩
theorem lw_p30 : lw_okq (⟨"NeverCrossModel", "digits", "()I"⟩, 28) := ⟨⟨by decide +kernel, by decide +kernel⟩, List.mem_of_getElem? (i := 728) (by decide +kernel), List.mem_of_getElem? (i := 869) (by decide +kernel), List.mem_of_getElem? (i := 870) (by decide +kernel)⟩
theorem lw_p31 : lw_okq (⟨"NeverCrossModel", "isDoor", "(I)Z"⟩, 28) := ⟨⟨by decide +kernel, by decide +kernel⟩, List.mem_of_getElem? (i := 728) (by decide +kernel), List.mem_of_getElem? (i := 877) (by decide +kernel), List.mem_of_getElem? (i := 878) (by decide +kernel)⟩
def lw_privs_2 : List (MethodName × Nat) := [(⟨"NeverCross", "ordersByLaw", "()I"⟩, 17), (⟨"NeverCross", "lawNow", "()LNeverCross$Law;"⟩, 17), (⟨"NeverCross", "strikeOut", "(II)I"⟩, 17), (⟨"NeverCross", "familiesThrough", "(I)I"⟩, 17), (⟨"NeverCross", "stepOfRanked", "(IIII)I"⟩, 17), (⟨"NeverCross$Finder", "pick", "(II)V"⟩, 6), (⟨"NeverCross", "firstAstray", "()I"⟩, 17), (⟨"NeverCross$Held", "cellsOfTold", "(I)I"⟩, 8), (⟨"NeverCrossModel", "refuse", "(I)I"⟩, 28), (⟨"NeverCrossModel", "reads", "()I"⟩, 28), (⟨"NeverCrossModel", "tells", "(II)Z"⟩, 28), (⟨"NeverCrossModel", "isCell", "(I)Z"⟩, 28), (⟨"NeverCrossModel", "cells", "()I"⟩, 28), (⟨"NeverCrossModel", "isOrder", "(I)Z"⟩, 28), (⟨"NeverCrossModel", "digits", "()I"⟩, 28), (⟨"NeverCrossModel", "isDoor", "(I)Z"⟩, 28)]
theorem lw_r2 : ∀ q ∈ lw_privs_2, lw_okq q := List.forall_mem_cons.mpr ⟨lw_p16, List.forall_mem_cons.mpr ⟨lw_p17, List.forall_mem_cons.mpr ⟨lw_p18, List.forall_mem_cons.mpr ⟨lw_p19, List.forall_mem_cons.mpr ⟨lw_p20, List.forall_mem_cons.mpr ⟨lw_p21, List.forall_mem_cons.mpr ⟨lw_p22, List.forall_mem_cons.mpr ⟨lw_p23, List.forall_mem_cons.mpr ⟨lw_p24, List.forall_mem_cons.mpr ⟨lw_p25, List.forall_mem_cons.mpr ⟨lw_p26, List.forall_mem_cons.mpr ⟨lw_p27, List.forall_mem_cons.mpr ⟨lw_p28, List.forall_mem_cons.mpr ⟨lw_p29, List.forall_mem_cons.mpr ⟨lw_p30, List.forall_mem_cons.mpr ⟨lw_p31, fun _ h => absurd h List.not_mem_nil⟩⟩⟩⟩⟩⟩⟩⟩⟩⟩⟩⟩⟩⟩⟩⟩
theorem lw_p32 : lw_okq (⟨"NeverCrossModel", "aloneOf", "(II)I"⟩, 28) := ⟨⟨by decide +kernel, by decide +kernel⟩, List.mem_of_getElem? (i := 728) (by decide +kernel), List.mem_of_getElem? (i := 881) (by decide +kernel), List.mem_of_getElem? (i := 882) (by decide +kernel)⟩
theorem lw_p33 : lw_okq (⟨"NeverCrossModel", "cellOf", "(II)I"⟩, 28) := ⟨⟨by decide +kernel, by decide +kernel⟩, List.mem_of_getElem? (i := 728) (by decide +kernel), List.mem_of_getElem? (i := 885) (by decide +kernel), List.mem_of_getElem? (i := 886) (by decide +kernel)⟩
theorem lw_p34 : lw_okq (⟨"NeverCrossModel", "what", "(I)I"⟩, 28) := ⟨⟨by decide +kernel, by decide +kernel⟩, List.mem_of_getElem? (i := 728) (by decide +kernel), List.mem_of_getElem? (i := 889) (by decide +kernel), List.mem_of_getElem? (i := 890) (by decide +kernel)⟩
theorem lw_p35 : lw_okq (⟨"NeverCrossModel", "number", "(I)I"⟩, 28) := ⟨⟨by decide +kernel, by decide +kernel⟩, List.mem_of_getElem? (i := 728) (by decide +kernel), List.mem_of_getElem? (i := 893) (by decide +kernel), List.mem_of_getElem? (i := 894) (by decide +kernel)⟩
theorem lw_p36 : lw_okq (⟨"NeverCrossModel", "aloneFrom", "(II)I"⟩, 28) := ⟨⟨by decide +kernel, by decide +kernel⟩, List.mem_of_getElem? (i := 728) (by decide +kernel), List.mem_of_getElem? (i := 897) (by decide +kernel), List.mem_of_getElem? (i := 898) (by decide +kernel)⟩
theorem lw_p37 : lw_okq (⟨"NeverCrossModel", "next", "(II)I"⟩, 28) := ⟨⟨by decide +kernel, by decide +kernel⟩, List.mem_of_getElem? (i := 728) (by decide +kernel), List.mem_of_getElem? (i := 901) (by decide +kernel), List.mem_of_getElem? (i := 902) (by decide +kernel)⟩
theorem lw_p38 : lw_okq (⟨"NeverCrossModel", "isSlope", "()Z"⟩, 28) := ⟨⟨by decide +kernel, by decide +kernel⟩, List.mem_of_getElem? (i := 728) (by decide +kernel), List.mem_of_getElem? (i := 909) (by decide +kernel), List.mem_of_getElem? (i := 910) (by decide +kernel)⟩
theorem lw_p39 : lw_okq (⟨"NeverCrossModel", "allNow", "()I"⟩, 28) := ⟨⟨by decide +kernel, by decide +kernel⟩, List.mem_of_getElem? (i := 728) (by decide +kernel), List.mem_of_getElem? (i := 913) (by decide +kernel), List.mem_of_getElem? (i := 914) (by decide +kernel)⟩
theorem lw_p40 : lw_okq (⟨"NeverCrossModel", "findsByLaw", "(I)V"⟩, 28) := ⟨⟨by decide +kernel, by decide +kernel⟩, List.mem_of_getElem? (i := 728) (by decide +kernel), List.mem_of_getElem? (i := 917) (by decide +kernel), List.mem_of_getElem? (i := 918) (by decide +kernel)⟩
theorem lw_p41 : lw_okq (⟨"NeverCrossModel", "wellBy", "(II)I"⟩, 28) := ⟨⟨by decide +kernel, by decide +kernel⟩, List.mem_of_getElem? (i := 728) (by decide +kernel), List.mem_of_getElem? (i := 921) (by decide +kernel), List.mem_of_getElem? (i := 922) (by decide +kernel)⟩
theorem lw_p42 : lw_okq (⟨"NeverCrossModel", "findsFamilies", "(I)V"⟩, 28) := ⟨⟨by decide +kernel, by decide +kernel⟩, List.mem_of_getElem? (i := 728) (by decide +kernel), List.mem_of_getElem? (i := 925) (by decide +kernel), List.mem_of_getElem? (i := 926) (by decide +kernel)⟩
theorem lw_p43 : lw_okq (⟨"NeverCrossModel", "findsWays", "()V"⟩, 28) := ⟨⟨by decide +kernel, by decide +kernel⟩, List.mem_of_getElem? (i := 728) (by decide +kernel), List.mem_of_getElem? (i := 929) (by decide +kernel), List.mem_of_getElem? (i := 930) (by decide +kernel)⟩
theorem lw_p44 : lw_okq (⟨"NeverCrossModel", "waysFrom", "(IIIII)V"⟩, 28) := ⟨⟨by decide +kernel, by decide +kernel⟩, List.mem_of_getElem? (i := 728) (by decide +kernel), List.mem_of_getElem? (i := 933) (by decide +kernel), List.mem_of_getElem? (i := 934) (by decide +kernel)⟩
theorem lw_p45 : lw_okq (⟨"NeverCrossModel", "familiesFrom", "(III)V"⟩, 28) := ⟨⟨by decide +kernel, by decide +kernel⟩, List.mem_of_getElem? (i := 728) (by decide +kernel), List.mem_of_getElem? (i := 937) (by decide +kernel), List.mem_of_getElem? (i := 938) (by decide +kernel)⟩
theorem lw_p46 : lw_okq (⟨"NeverCrossModel", "gathers", "(I)V"⟩, 28) := ⟨⟨by decide +kernel, by decide +kernel⟩, List.mem_of_getElem? (i := 728) (by decide +kernel), List.mem_of_getElem? (i := 941) (by decide +kernel), List.mem_of_getElem? (i := 942) (by decide +kernel)⟩
theorem lw_p47 : lw_okq (⟨"NeverCrossModel", "costOf", "(I)I"⟩, 28) := ⟨⟨by decide +kernel, by decide +kernel⟩, List.mem_of_getElem? (i := 728) (by decide +kernel), List.mem_of_getElem? (i := 945) (by decide +kernel), List.mem_of_getElem? (i := 946) (by decide +kernel)⟩
def lw_privs_3 : List (MethodName × Nat) := [(⟨"NeverCrossModel", "aloneOf", "(II)I"⟩, 28), (⟨"NeverCrossModel", "cellOf", "(II)I"⟩, 28), (⟨"NeverCrossModel", "what", "(I)I"⟩, 28), (⟨"NeverCrossModel", "number", "(I)I"⟩, 28), (⟨"NeverCrossModel", "aloneFrom", "(II)I"⟩, 28), (⟨"NeverCrossModel", "next", "(II)I"⟩, 28), (⟨"NeverCrossModel", "isSlope", "()Z"⟩, 28), (⟨"NeverCrossModel", "allNow", "()I"⟩, 28), (⟨"NeverCrossModel", "findsByLaw", "(I)V"⟩, 28), (⟨"NeverCrossModel", "wellBy", "(II)I"⟩, 28), (⟨"NeverCrossModel", "findsFamilies", "(I)V"⟩, 28), (⟨"NeverCrossModel", "findsWays", "()V"⟩, 28), (⟨"NeverCrossModel", "waysFrom", "(IIIII)V"⟩, 28), (⟨"NeverCrossModel", "familiesFrom", "(III)V"⟩, 28), (⟨"NeverCrossModel", "gathers", "(I)V"⟩, 28), (⟨"NeverCrossModel", "costOf", "(I)I"⟩, 28)]
theorem lw_r3 : ∀ q ∈ lw_privs_3, lw_okq q := List.forall_mem_cons.mpr ⟨lw_p32, List.forall_mem_cons.mpr ⟨lw_p33, List.forall_mem_cons.mpr ⟨lw_p34, List.forall_mem_cons.mpr ⟨lw_p35, List.forall_mem_cons.mpr ⟨lw_p36, List.forall_mem_cons.mpr ⟨lw_p37, List.forall_mem_cons.mpr ⟨lw_p38, List.forall_mem_cons.mpr ⟨lw_p39, List.forall_mem_cons.mpr ⟨lw_p40, List.forall_mem_cons.mpr ⟨lw_p41, List.forall_mem_cons.mpr ⟨lw_p42, List.forall_mem_cons.mpr ⟨lw_p43, List.forall_mem_cons.mpr ⟨lw_p44, List.forall_mem_cons.mpr ⟨lw_p45, List.forall_mem_cons.mpr ⟨lw_p46, List.forall_mem_cons.mpr ⟨lw_p47, fun _ h => absurd h List.not_mem_nil⟩⟩⟩⟩⟩⟩⟩⟩⟩⟩⟩⟩⟩⟩⟩⟩
theorem lw_p48 : lw_okq (⟨"NeverCrossModel", "cost", "(I)I"⟩, 28) := ⟨⟨by decide +kernel, by decide +kernel⟩, List.mem_of_getElem? (i := 728) (by decide +kernel), List.mem_of_getElem? (i := 949) (by decide +kernel), List.mem_of_getElem? (i := 950) (by decide +kernel)⟩
theorem lw_p49 : lw_okq (⟨"NeverCrossModel", "signedFrom", "(II)I"⟩, 28) := ⟨⟨by decide +kernel, by decide +kernel⟩, List.mem_of_getElem? (i := 728) (by decide +kernel), List.mem_of_getElem? (i := 957) (by decide +kernel), List.mem_of_getElem? (i := 958) (by decide +kernel)⟩
theorem lw_p50 : lw_okq (⟨"NeverCrossModel", "familiesBy", "()I"⟩, 28) := ⟨⟨by decide +kernel, by decide +kernel⟩, List.mem_of_getElem? (i := 728) (by decide +kernel), List.mem_of_getElem? (i := 966) (by decide +kernel), List.mem_of_getElem? (i := 967) (by decide +kernel)⟩
theorem lw_p51 : lw_okq (⟨"NeverCrossModel", "stepOf", "(III)I"⟩, 28) := ⟨⟨by decide +kernel, by decide +kernel⟩, List.mem_of_getElem? (i := 728) (by decide +kernel), List.mem_of_getElem? (i := 989) (by decide +kernel), List.mem_of_getElem? (i := 990) (by decide +kernel)⟩
theorem lw_p52 : lw_okq (⟨"NeverCrossModel", "mostNow", "()I"⟩, 28) := ⟨⟨by decide +kernel, by decide +kernel⟩, List.mem_of_getElem? (i := 728) (by decide +kernel), List.mem_of_getElem? (i := 1004) (by decide +kernel), List.mem_of_getElem? (i := 1005) (by decide +kernel)⟩
theorem lw_p53 : lw_okq (⟨"NeverCrossModel", "mostFrom", "(II)I"⟩, 28) := ⟨⟨by decide +kernel, by decide +kernel⟩, List.mem_of_getElem? (i := 728) (by decide +kernel), List.mem_of_getElem? (i := 1008) (by decide +kernel), List.mem_of_getElem? (i := 1009) (by decide +kernel)⟩
theorem lw_p54 : lw_okq (⟨"NeverCrossModel", "walks", "(I)I"⟩, 28) := ⟨⟨by decide +kernel, by decide +kernel⟩, List.mem_of_getElem? (i := 728) (by decide +kernel), List.mem_of_getElem? (i := 1054) (by decide +kernel), List.mem_of_getElem? (i := 1055) (by decide +kernel)⟩
def lw_privs_4 : List (MethodName × Nat) := [(⟨"NeverCrossModel", "cost", "(I)I"⟩, 28), (⟨"NeverCrossModel", "signedFrom", "(II)I"⟩, 28), (⟨"NeverCrossModel", "familiesBy", "()I"⟩, 28), (⟨"NeverCrossModel", "stepOf", "(III)I"⟩, 28), (⟨"NeverCrossModel", "mostNow", "()I"⟩, 28), (⟨"NeverCrossModel", "mostFrom", "(II)I"⟩, 28), (⟨"NeverCrossModel", "walks", "(I)I"⟩, 28)]
theorem lw_r4 : ∀ q ∈ lw_privs_4, lw_okq q := List.forall_mem_cons.mpr ⟨lw_p48, List.forall_mem_cons.mpr ⟨lw_p49, List.forall_mem_cons.mpr ⟨lw_p50, List.forall_mem_cons.mpr ⟨lw_p51, List.forall_mem_cons.mpr ⟨lw_p52, List.forall_mem_cons.mpr ⟨lw_p53, List.forall_mem_cons.mpr ⟨lw_p54, fun _ h => absurd h List.not_mem_nil⟩⟩⟩⟩⟩⟩⟩
def lw_privs : List (MethodName × Nat) := lw_privs_1 ++ (lw_privs_2 ++ (lw_privs_3 ++ (lw_privs_4)))
def lw_tbl : List Cond := k2_sels lw_privs ++ tables_1
theorem lw_privs_ok : ∀ q ∈ lw_privs, lw_okq q := by
  show ∀ q ∈ lw_privs_1 ++ (lw_privs_2 ++ (lw_privs_3 ++ (lw_privs_4))), lw_okq q
  exact List.forall_mem_append.mpr ⟨lw_r1, List.forall_mem_append.mpr ⟨lw_r2, List.forall_mem_append.mpr ⟨lw_r3, lw_r4⟩⟩⟩

def goodTbl : List Cond := lw_tbl.filter goodWord
def RX0 : String := "NeverCross$Any"
def RX1 : String := "NeverCross$Finder"
def RX2 : String := "NeverCross$Held"
def RX3 : String := "NeverCross$Law"
def RX4 : String := "NeverCross$Next"
def RX5 : String := "NeverCross$Own"
def RX6 : String := "NeverCross$Slope"
def RX7 : String := "NeverCross$Study"
def RX8 : String := "NeverCross$Told"
def RX9 : String := "NeverCross$Turned"
def RX10 : String := "NeverCross$Ways"
def RX11 : String := "NeverCross"
def RX12 : String := "NeverCrossModel"
def RJ6 : String := "java/lang/Integer"
def RJ9 : String := "java/lang/Math"
def RJ10 : String := "java/lang/System"
def RJ7 : String := "java/util/Arrays"
def RL : String := "NeverCrossLaw"
def TX0 : u_T := fun k => match k with
  | _ => ("", "", "", false)
def tyX0 : Nat → FieldType := fun k => match k with
  | _ => .int
theorem nmX0 : ∀ a, a < 0 → ∀ b, b < 0 → a ≠ b → (TX0 a).2.1 ≠ (TX0 b).2.1 := by decide +kernel
theorem tyX0_ok : ∀ k, k < 0 → parseFieldDescriptor (TX0 k).2.2.1 = some (tyX0 k) := by decide +kernel
theorem inX0 : ∀ w ∈ u_ws RX0 TX0 0, w ∈ lw_tbl := by decide +kernel
def TX1 : u_T := fun k => match k with
  | 0 => ("NeverCross$Finder", "picked", "[I", true)
  | 1 => ("NeverCross$Finder", "ways", "LNeverCross$Ways;", true)
  | 2 => ("NeverCross$Finder", "open", "[I", true)
  | 3 => ("NeverCross$Finder", "needed", "I", false)
  | 4 => ("NeverCross$Finder", "stop", "I", false)
  | _ => ("NeverCross$Finder", "met", "I", false)
def tyX1 : Nat → FieldType := fun k => match k with
  | 0 => .array .int
  | 1 => .object "NeverCross$Ways"
  | 2 => .array .int
  | 3 => .int
  | 4 => .int
  | _ => .int
theorem nmX1 : ∀ a, a < 6 → ∀ b, b < 6 → a ≠ b → (TX1 a).2.1 ≠ (TX1 b).2.1 := by decide +kernel
theorem tyX1_ok : ∀ k, k < 6 → parseFieldDescriptor (TX1 k).2.2.1 = some (tyX1 k) := by decide +kernel
theorem inX1 : ∀ w ∈ u_ws RX1 TX1 6, w ∈ lw_tbl := by decide +kernel
def TX2 : u_T := fun k => match k with
  | 0 => ("NeverCross$Held", "slope", "LNeverCross$Slope;", true)
  | 1 => ("NeverCross$Held", "slopeNumber", "I", false)
  | 2 => ("NeverCross$Held", "law", "I", false)
  | 3 => ("NeverCross$Held", "told", "I", false)
  | 4 => ("NeverCross$Held", "seenCells", "I", false)
  | 5 => ("NeverCross$Held", "seen", "[I", true)
  | 6 => ("NeverCross$Held", "lengths", "[I", true)
  | _ => ("NeverCross$Held", "steps", "[[I", true)
def tyX2 : Nat → FieldType := fun k => match k with
  | 0 => .object "NeverCross$Slope"
  | 1 => .int
  | 2 => .int
  | 3 => .int
  | 4 => .int
  | 5 => .array .int
  | 6 => .array .int
  | _ => .array (.array .int)
theorem nmX2 : ∀ a, a < 8 → ∀ b, b < 8 → a ≠ b → (TX2 a).2.1 ≠ (TX2 b).2.1 := by decide +kernel
theorem tyX2_ok : ∀ k, k < 8 → parseFieldDescriptor (TX2 k).2.2.1 = some (tyX2 k) := by decide +kernel
theorem inX2 : ∀ w ∈ u_ws RX2 TX2 8, w ∈ lw_tbl := by decide +kernel
def TX4 : u_T := fun k => match k with
  | _ => ("", "", "", false)
def tyX4 : Nat → FieldType := fun k => match k with
  | _ => .int
theorem nmX4 : ∀ a, a < 0 → ∀ b, b < 0 → a ≠ b → (TX4 a).2.1 ≠ (TX4 b).2.1 := by decide +kernel
theorem tyX4_ok : ∀ k, k < 0 → parseFieldDescriptor (TX4 k).2.2.1 = some (tyX4 k) := by decide +kernel
theorem inX4 : ∀ w ∈ u_ws RX4 TX4 0, w ∈ lw_tbl := by decide +kernel
def TX5 : u_T := fun k => match k with
  | _ => ("", "", "", false)
def tyX5 : Nat → FieldType := fun k => match k with
  | _ => .int
theorem nmX5 : ∀ a, a < 0 → ∀ b, b < 0 → a ≠ b → (TX5 a).2.1 ≠ (TX5 b).2.1 := by decide +kernel
theorem tyX5_ok : ∀ k, k < 0 → parseFieldDescriptor (TX5 k).2.2.1 = some (tyX5 k) := by decide +kernel
theorem inX5 : ∀ w ∈ u_ws RX5 TX5 0, w ∈ lw_tbl := by decide +kernel
def TX6 : u_T := fun k => match k with
  | 0 => ("NeverCross$Slope", "rows", "I", false)
  | 1 => ("NeverCross$Slope", "columns", "I", false)
  | 2 => ("NeverCross$Slope", "cells", "I", false)
  | 3 => ("NeverCross$Slope", "stones", "I", false)
  | 4 => ("NeverCross$Slope", "doors", "I", false)
  | 5 => ("NeverCross$Slope", "kind", "[I", true)
  | 6 => ("NeverCross$Slope", "cost", "[I", true)
  | 7 => ("NeverCross$Slope", "number", "[I", true)
  | 8 => ("NeverCross$Slope", "doorAt", "[I", true)
  | 9 => ("NeverCross$Slope", "wellAt", "[I", true)
  | 10 => ("NeverCross$Slope", "reached", "[I", true)
  | _ => ("NeverCross$Slope", "inRow", "I", false)
def tyX6 : Nat → FieldType := fun k => match k with
  | 0 => .int
  | 1 => .int
  | 2 => .int
  | 3 => .int
  | 4 => .int
  | 5 => .array .int
  | 6 => .array .int
  | 7 => .array .int
  | 8 => .array .int
  | 9 => .array .int
  | 10 => .array .int
  | _ => .int
theorem nmX6 : ∀ a, a < 12 → ∀ b, b < 12 → a ≠ b → (TX6 a).2.1 ≠ (TX6 b).2.1 := by decide +kernel
theorem tyX6_ok : ∀ k, k < 12 → parseFieldDescriptor (TX6 k).2.2.1 = some (tyX6 k) := by decide +kernel
theorem inX6 : ∀ w ∈ u_ws RX6 TX6 12, w ∈ lw_tbl := by decide +kernel
def TX7 : u_T := fun k => match k with
  | 0 => ("NeverCross$Study", "most", "I", false)
  | 1 => ("NeverCross$Study", "shut", "I", false)
  | 2 => ("NeverCross$Study", "slope", "LNeverCross$Slope;", true)
  | 3 => ("NeverCross$Study", "ways", "LNeverCross$Ways;", true)
  | 4 => ("NeverCross$Study", "picked", "[I", true)
  | 5 => ("NeverCross$Study", "families", "[I", true)
  | 6 => ("NeverCross$Study", "leastCost", "[I", true)
  | 7 => ("NeverCross$Study", "through", "[[I", true)
  | _ => ("NeverCross$Study", "who", "[[I", true)
def tyX7 : Nat → FieldType := fun k => match k with
  | 0 => .int
  | 1 => .int
  | 2 => .object "NeverCross$Slope"
  | 3 => .object "NeverCross$Ways"
  | 4 => .array .int
  | 5 => .array .int
  | 6 => .array .int
  | 7 => .array (.array .int)
  | _ => .array (.array .int)
theorem nmX7 : ∀ a, a < 9 → ∀ b, b < 9 → a ≠ b → (TX7 a).2.1 ≠ (TX7 b).2.1 := by decide +kernel
theorem tyX7_ok : ∀ k, k < 9 → parseFieldDescriptor (TX7 k).2.2.1 = some (tyX7 k) := by decide +kernel
theorem inX7 : ∀ w ∈ u_ws RX7 TX7 9, w ∈ lw_tbl := by decide +kernel
def TX8 : u_T := fun k => match k with
  | _ => ("", "", "", false)
def tyX8 : Nat → FieldType := fun k => match k with
  | _ => .int
theorem nmX8 : ∀ a, a < 0 → ∀ b, b < 0 → a ≠ b → (TX8 a).2.1 ≠ (TX8 b).2.1 := by decide +kernel
theorem tyX8_ok : ∀ k, k < 0 → parseFieldDescriptor (TX8 k).2.2.1 = some (tyX8 k) := by decide +kernel
theorem inX8 : ∀ w ∈ u_ws RX8 TX8 0, w ∈ lw_tbl := by decide +kernel
def TX9 : u_T := fun k => match k with
  | _ => ("", "", "", false)
def tyX9 : Nat → FieldType := fun k => match k with
  | _ => .int
theorem nmX9 : ∀ a, a < 0 → ∀ b, b < 0 → a ≠ b → (TX9 a).2.1 ≠ (TX9 b).2.1 := by decide +kernel
theorem tyX9_ok : ∀ k, k < 0 → parseFieldDescriptor (TX9 k).2.2.1 = some (tyX9 k) := by decide +kernel
theorem inX9 : ∀ w ∈ u_ws RX9 TX9 0, w ∈ lw_tbl := by decide +kernel
def TX10 : u_T := fun k => match k with
  | 0 => ("NeverCross$Ways", "slope", "LNeverCross$Slope;", true)
  | 1 => ("NeverCross$Ways", "doors", "I", false)
  | 2 => ("NeverCross$Ways", "sizes", "[I", true)
  | 3 => ("NeverCross$Ways", "cells", "[[I", true)
  | _ => ("NeverCross$Ways", "wells", "[[I", true)
def tyX10 : Nat → FieldType := fun k => match k with
  | 0 => .object "NeverCross$Slope"
  | 1 => .int
  | 2 => .array .int
  | 3 => .array (.array .int)
  | _ => .array (.array .int)
theorem nmX10 : ∀ a, a < 5 → ∀ b, b < 5 → a ≠ b → (TX10 a).2.1 ≠ (TX10 b).2.1 := by decide +kernel
theorem tyX10_ok : ∀ k, k < 5 → parseFieldDescriptor (TX10 k).2.2.1 = some (tyX10 k) := by decide +kernel
theorem inX10 : ∀ w ∈ u_ws RX10 TX10 5, w ∈ lw_tbl := by decide +kernel
def TX11 : u_T := fun k => match k with
  | 0 => ("NeverCross", "letters", "[I", true)
  | 1 => ("NeverCross", "lettersTold", "I", false)
  | 2 => ("NeverCross", "refusals", "[I", true)
  | 3 => ("NeverCross", "draft", "LNeverCross$Slope;", true)
  | 4 => ("NeverCross", "now", "LNeverCross$Held;", true)
  | 5 => ("NeverCross", "kept", "LNeverCross$Held;", true)
  | 6 => ("NeverCross", "imageTaken", "Z", false)
  | 7 => ("NeverCross", "laws", "[LNeverCross$Law;", true)
  | 8 => ("NeverCross", "ways", "LNeverCross$Ways;", true)
  | 9 => ("NeverCross", "fewWays", "LNeverCross$Ways;", true)
  | 10 => ("NeverCross", "study", "LNeverCross$Study;", true)
  | 11 => ("NeverCross", "ranked", "LNeverCross$Finder;", true)
  | 12 => ("NeverCross", "fitting", "LNeverCross$Finder;", true)
  | 13 => ("NeverCross", "fewFound", "LNeverCross$Finder;", true)
  | 14 => ("NeverCross", "slopesRead", "I", false)
  | 15 => ("NeverCross", "slopeStudied", "I", false)
  | _ => ("NeverCross", "rankHeld", "I", false)
def tyX11 : Nat → FieldType := fun k => match k with
  | 0 => .array .int
  | 1 => .int
  | 2 => .array .int
  | 3 => .object "NeverCross$Slope"
  | 4 => .object "NeverCross$Held"
  | 5 => .object "NeverCross$Held"
  | 6 => .boolean
  | 7 => .array (.object "NeverCross$Law")
  | 8 => .object "NeverCross$Ways"
  | 9 => .object "NeverCross$Ways"
  | 10 => .object "NeverCross$Study"
  | 11 => .object "NeverCross$Finder"
  | 12 => .object "NeverCross$Finder"
  | 13 => .object "NeverCross$Finder"
  | 14 => .int
  | 15 => .int
  | _ => .int
theorem nmX11 : ∀ a, a < 17 → ∀ b, b < 17 → a ≠ b → (TX11 a).2.1 ≠ (TX11 b).2.1 := by decide +kernel
theorem tyX11_ok : ∀ k, k < 17 → parseFieldDescriptor (TX11 k).2.2.1 = some (tyX11 k) := by decide +kernel
theorem inX11 : ∀ w ∈ u_ws RX11 TX11 17, w ∈ lw_tbl := by decide +kernel
def TX12 : u_T := fun k => match k with
  | 0 => ("NeverCrossModel", "refusals", "[I", true)
  | 1 => ("NeverCrossModel", "s", "[I", true)
  | 2 => ("NeverCrossModel", "image", "[I", true)
  | 3 => ("NeverCrossModel", "read", "[I", true)
  | 4 => ("NeverCrossModel", "isImage", "Z", false)
  | 5 => ("NeverCrossModel", "tape", "[I", true)
  | 6 => ("NeverCrossModel", "taped", "I", false)
  | 7 => ("NeverCrossModel", "doorsTold", "I", false)
  | 8 => ("NeverCrossModel", "wellsTold", "I", false)
  | 9 => ("NeverCrossModel", "order", "[I", true)
  | 10 => ("NeverCrossModel", "way", "[I", true)
  | 11 => ("NeverCrossModel", "steps", "[I", true)
  | 12 => ("NeverCrossModel", "length", "[I", true)
  | 13 => ("NeverCrossModel", "well", "[I", true)
  | 14 => ("NeverCrossModel", "wayed", "[I", true)
  | 15 => ("NeverCrossModel", "wants", "[I", true)
  | 16 => ("NeverCrossModel", "picked", "[I", true)
  | 17 => ("NeverCrossModel", "foundPick", "[I", true)
  | 18 => ("NeverCrossModel", "usedBy", "[I", true)
  | 19 => ("NeverCrossModel", "whoIn", "[I", true)
  | 20 => ("NeverCrossModel", "families", "I", false)
  | 21 => ("NeverCrossModel", "least", "I", false)
  | 22 => ("NeverCrossModel", "fitting", "I", false)
  | 23 => ("NeverCrossModel", "wanted", "I", false)
  | 24 => ("NeverCrossModel", "seenSet", "I", false)
  | 25 => ("NeverCrossModel", "keptRow", "[I", true)
  | 26 => ("NeverCrossModel", "toldEnd", "[I", true)
  | _ => ("NeverCrossModel", "walked", "I", false)
def tyX12 : Nat → FieldType := fun k => match k with
  | 0 => .array .int
  | 1 => .array .int
  | 2 => .array .int
  | 3 => .array .int
  | 4 => .boolean
  | 5 => .array .int
  | 6 => .int
  | 7 => .int
  | 8 => .int
  | 9 => .array .int
  | 10 => .array .int
  | 11 => .array .int
  | 12 => .array .int
  | 13 => .array .int
  | 14 => .array .int
  | 15 => .array .int
  | 16 => .array .int
  | 17 => .array .int
  | 18 => .array .int
  | 19 => .array .int
  | 20 => .int
  | 21 => .int
  | 22 => .int
  | 23 => .int
  | 24 => .int
  | 25 => .array .int
  | 26 => .array .int
  | _ => .int
theorem nmX12 : ∀ a, a < 28 → ∀ b, b < 28 → a ≠ b → (TX12 a).2.1 ≠ (TX12 b).2.1 := by decide +kernel
theorem tyX12_ok : ∀ k, k < 28 → parseFieldDescriptor (TX12 k).2.2.1 = some (tyX12 k) := by decide +kernel
theorem inX12 : ∀ w ∈ u_ws RX12 TX12 28, w ∈ lw_tbl := by decide +kernel
abbrev q_cl : List vw_C := [(RX0, TX0, 0), (RX1, TX1, 6), (RX2, TX2, 8), (RX4, TX4, 0), (RX5, TX5, 0), (RX6, TX6, 12), (RX7, TX7, 9), (RX8, TX8, 0), (RX9, TX9, 0), (RX10, TX10, 5), (RX11, TX11, 17), (RX12, TX12, 28)]
def q_y0 : MethodName := ⟨"NeverCross$Any", "wellsFor", "(III)I"⟩
def q_y1 : MethodName := ⟨"NeverCross$Finder", "seek", "(LNeverCross$Law;III)I"⟩
def q_y2 : MethodName := ⟨"NeverCross$Finder", "pick", "(II)V"⟩
def q_y3 : MethodName := ⟨"NeverCross$Held", "copyFrom", "(LNeverCross$Held;)V"⟩
def q_y4 : MethodName := ⟨"NeverCross$Held", "begin", "(LNeverCross$Slope;I)V"⟩
def q_y5 : MethodName := ⟨"NeverCross$Held", "forgetTold", "()I"⟩
def q_y6 : MethodName := ⟨"NeverCross$Held", "seenBits", "()I"⟩
def q_y7 : MethodName := ⟨"NeverCross$Held", "firstStepOff", "()I"⟩
def q_y8 : MethodName := ⟨"NeverCross$Held", "endOfTold", "(I)I"⟩
def q_y9 : MethodName := ⟨"NeverCross$Held", "cellsOfTold", "(I)I"⟩
def q_y10 : MethodName := ⟨"NeverCross$Held", "leastShared", "()I"⟩
def q_y11 : MethodName := ⟨"NeverCross$Law", "takes", "(III)Z"⟩
def q_y12 : MethodName := ⟨"NeverCross$Next", "wellOf", "(III)I"⟩
def q_y13 : MethodName := ⟨"NeverCross$Own", "wellOf", "(III)I"⟩
def q_y14 : MethodName := ⟨"NeverCross$Own", "wellsFor", "(III)I"⟩
def q_y15 : MethodName := ⟨"NeverCross$Slope", "copyFrom", "(LNeverCross$Slope;)V"⟩
def q_y16 : MethodName := ⟨"NeverCross$Slope", "read", "([II)I"⟩
def q_y17 : MethodName := ⟨"NeverCross$Slope", "wipe", "()V"⟩
def q_y18 : MethodName := ⟨"NeverCross$Slope", "endRow", "()Z"⟩
def q_y19 : MethodName := ⟨"NeverCross$Slope", "addCell", "(I)Z"⟩
def q_y20 : MethodName := ⟨"NeverCross$Slope", "putOnce", "(II[I)Z"⟩
def q_y21 : MethodName := ⟨"NeverCross$Slope", "put", "(III)Z"⟩
def q_y22 : MethodName := ⟨"NeverCross$Slope", "pairDoors", "()Z"⟩
def q_y23 : MethodName := ⟨"NeverCross$Slope", "hasCell", "(I)Z"⟩
def q_y24 : MethodName := ⟨"NeverCross$Slope", "hasDoor", "(I)Z"⟩
def q_y25 : MethodName := ⟨"NeverCross$Slope", "cellOfDoor", "(I)I"⟩
def q_y26 : MethodName := ⟨"NeverCross$Slope", "cellOfWell", "(I)I"⟩
def q_y27 : MethodName := ⟨"NeverCross$Slope", "onward", "(II)I"⟩
def q_y28 : MethodName := ⟨"NeverCross$Slope", "waysAlone", "(II)I"⟩
def q_y29 : MethodName := ⟨"NeverCross$Slope", "stepOfWay", "(III)I"⟩
def q_y30 : MethodName := ⟨"NeverCross$Study", "make", "()V"⟩
def q_y31 : MethodName := ⟨"NeverCross$Study", "choose", "(IIII)V"⟩
def q_y32 : MethodName := ⟨"NeverCross$Study", "meet", "(III)V"⟩
def q_y33 : MethodName := ⟨"NeverCross$Study", "note", "(II)V"⟩
def q_y34 : MethodName := ⟨"NeverCross$Study", "doorsPickedThrough", "(I)I"⟩
def q_y35 : MethodName := ⟨"NeverCross$Study", "familiesBy", "(I)I"⟩
def q_y36 : MethodName := ⟨"NeverCross$Study", "leastCostBy", "(I)I"⟩
def q_y37 : MethodName := ⟨"NeverCross$Study", "familiesThrough", "(II)I"⟩
def q_y38 : MethodName := ⟨"NeverCross$Study", "doorsThrough", "(II)I"⟩
def q_y39 : MethodName := ⟨"NeverCross$Told", "wellOf", "(III)I"⟩
def q_y40 : MethodName := ⟨"NeverCross$Turned", "wellOf", "(III)I"⟩
def q_y41 : MethodName := ⟨"NeverCross$Ways", "fill", "(I)V"⟩
def q_y42 : MethodName := ⟨"NeverCross$Ways", "goOn", "(IIII)V"⟩
def q_y43 : MethodName := ⟨"NeverCross$Ways", "note", "(III)V"⟩
def q_y44 : MethodName := ⟨"NeverCross", "letter", "(I)I"⟩
def q_y45 : MethodName := ⟨"NeverCross", "slope", "()I"⟩
def q_y46 : MethodName := ⟨"NeverCross", "cell", "(II)I"⟩
def q_y47 : MethodName := ⟨"NeverCross", "law", "(I)I"⟩
def q_y48 : MethodName := ⟨"NeverCross", "set", "(I)I"⟩
def q_y49 : MethodName := ⟨"NeverCross", "alone", "(II)I"⟩
def q_y50 : MethodName := ⟨"NeverCross", "all", "()I"⟩
def q_y51 : MethodName := ⟨"NeverCross", "signed", "()I"⟩
def q_y52 : MethodName := ⟨"NeverCross", "holds", "()I"⟩
def q_y53 : MethodName := ⟨"NeverCross", "by", "(I)I"⟩
def q_y54 : MethodName := ⟨"NeverCross", "cheap", "()I"⟩
def q_y55 : MethodName := ⟨"NeverCross", "used", "(II)I"⟩
def q_y56 : MethodName := ⟨"NeverCross", "rank", "(III)I"⟩
def q_y57 : MethodName := ⟨"NeverCross", "drawn", "(III)I"⟩
def q_y58 : MethodName := ⟨"NeverCross", "most", "()I"⟩
def q_y59 : MethodName := ⟨"NeverCross", "shuts", "()I"⟩
def q_y60 : MethodName := ⟨"NeverCross", "seen", "(I)I"⟩
def q_y61 : MethodName := ⟨"NeverCross", "fits", "()I"⟩
def q_y62 : MethodName := ⟨"NeverCross", "who", "(I)I"⟩
def q_y63 : MethodName := ⟨"NeverCross", "lost", "(I)I"⟩
def q_y64 : MethodName := ⟨"NeverCross", "few", "()I"⟩
def q_y65 : MethodName := ⟨"NeverCross", "boxes", "(III)I"⟩
def q_y66 : MethodName := ⟨"NeverCross", "step", "(II)I"⟩
def q_y67 : MethodName := ⟨"NeverCross", "judge", "()I"⟩
def q_y68 : MethodName := ⟨"NeverCross", "clear", "()I"⟩
def q_y69 : MethodName := ⟨"NeverCross", "image", "()I"⟩
def q_y70 : MethodName := ⟨"NeverCross", "on", "()I"⟩
def q_y71 : MethodName := ⟨"NeverCross", "count", "(I)I"⟩
def q_y72 : MethodName := ⟨"NeverCross", "refuse", "(I)I"⟩
def q_y73 : MethodName := ⟨"NeverCross", "hasSlope", "()Z"⟩
def q_y74 : MethodName := ⟨"NeverCross", "studyNow", "()LNeverCross$Study;"⟩
def q_y75 : MethodName := ⟨"NeverCross", "lawNow", "()LNeverCross$Law;"⟩
def q_y76 : MethodName := ⟨"NeverCross", "ordersByLaw", "()I"⟩
def q_y77 : MethodName := ⟨"NeverCross", "familiesByLaw", "()I"⟩
def q_y78 : MethodName := ⟨"NeverCross", "familiesThrough", "(I)I"⟩
def q_y79 : MethodName := ⟨"NeverCross", "strikeOut", "(II)I"⟩
def q_y80 : MethodName := ⟨"NeverCross", "stepOfRanked", "(IIII)I"⟩
def q_y81 : MethodName := ⟨"NeverCross", "firstAstray", "()I"⟩
def q_y82 : MethodName := ⟨"NeverCross", "drawBelow", "(II)I"⟩
def q_y83 : MethodName := ⟨"NeverCross", "greatestDivisor", "(II)I"⟩
def q_y84 : MethodName := ⟨"NeverCross", "pilesInCorner", "(III)I"⟩
def q_y85 : MethodName := ⟨"NeverCross", "firstOrder", "(I)I"⟩
def q_y86 : MethodName := ⟨"NeverCross", "endOfOrders", "(I)I"⟩
def q_y87 : MethodName := ⟨"NeverCross", "placeOfOrder", "(II)I"⟩
def q_y88 : MethodName := ⟨"NeverCross", "ownOrder", "(I)I"⟩
def q_y89 : MethodName := ⟨"NeverCross", "wellInOrder", "(II)I"⟩
def q_y90 : MethodName := ⟨"NeverCross", "isIn", "(II)Z"⟩
def q_y91 : MethodName := ⟨"NeverCrossModel", "refuse", "(I)I"⟩
def q_y92 : MethodName := ⟨"NeverCrossModel", "isIn", "(II)Z"⟩
def q_y93 : MethodName := ⟨"NeverCrossModel", "within", "(III)I"⟩
def q_y94 : MethodName := ⟨"NeverCrossModel", "copies", "([I[I)V"⟩
def q_y95 : MethodName := ⟨"NeverCrossModel", "cells", "()I"⟩
def q_y96 : MethodName := ⟨"NeverCrossModel", "isCell", "(I)Z"⟩
def q_y97 : MethodName := ⟨"NeverCrossModel", "isDoor", "(I)Z"⟩
def q_y98 : MethodName := ⟨"NeverCrossModel", "what", "(I)I"⟩
def q_y99 : MethodName := ⟨"NeverCrossModel", "cost", "(I)I"⟩
def q_y100 : MethodName := ⟨"NeverCrossModel", "number", "(I)I"⟩
def q_y101 : MethodName := ⟨"NeverCrossModel", "letter", "(I)I"⟩
def q_y102 : MethodName := ⟨"NeverCrossModel", "tells", "(II)Z"⟩
def q_y103 : MethodName := ⟨"NeverCrossModel", "reads", "()I"⟩
def q_y104 : MethodName := ⟨"NeverCrossModel", "slope", "()I"⟩
def q_y105 : MethodName := ⟨"NeverCrossModel", "cell", "(II)I"⟩
def q_y106 : MethodName := ⟨"NeverCrossModel", "law", "(I)I"⟩
def q_y107 : MethodName := ⟨"NeverCrossModel", "digits", "()I"⟩
def q_y108 : MethodName := ⟨"NeverCrossModel", "isOrder", "(I)Z"⟩
def q_y109 : MethodName := ⟨"NeverCrossModel", "set", "(I)I"⟩
def q_y110 : MethodName := ⟨"NeverCrossModel", "cellOf", "(II)I"⟩
def q_y111 : MethodName := ⟨"NeverCrossModel", "next", "(II)I"⟩
def q_y112 : MethodName := ⟨"NeverCrossModel", "waysFrom", "(IIIII)V"⟩
def q_y113 : MethodName := ⟨"NeverCrossModel", "findsWays", "()V"⟩
def q_y114 : MethodName := ⟨"NeverCrossModel", "aloneFrom", "(II)I"⟩
def q_y115 : MethodName := ⟨"NeverCrossModel", "aloneOf", "(II)I"⟩
def q_y116 : MethodName := ⟨"NeverCrossModel", "alone", "(II)I"⟩
def q_y117 : MethodName := ⟨"NeverCrossModel", "costOf", "(I)I"⟩
def q_y118 : MethodName := ⟨"NeverCrossModel", "gathers", "(I)V"⟩
def q_y119 : MethodName := ⟨"NeverCrossModel", "familiesFrom", "(III)V"⟩
def q_y120 : MethodName := ⟨"NeverCrossModel", "findsFamilies", "(I)V"⟩
def q_y121 : MethodName := ⟨"NeverCrossModel", "wellBy", "(II)I"⟩
def q_y122 : MethodName := ⟨"NeverCrossModel", "findsByLaw", "(I)V"⟩
def q_y123 : MethodName := ⟨"NeverCrossModel", "familiesBy", "()I"⟩
def q_y124 : MethodName := ⟨"NeverCrossModel", "isSlope", "()Z"⟩
def q_y125 : MethodName := ⟨"NeverCrossModel", "allNow", "()I"⟩
def q_y126 : MethodName := ⟨"NeverCrossModel", "all", "()I"⟩
def q_y127 : MethodName := ⟨"NeverCrossModel", "signedFrom", "(II)I"⟩
def q_y128 : MethodName := ⟨"NeverCrossModel", "signed", "()I"⟩
def q_y129 : MethodName := ⟨"NeverCrossModel", "holds", "()I"⟩
def q_y130 : MethodName := ⟨"NeverCrossModel", "by", "(I)I"⟩
def q_y131 : MethodName := ⟨"NeverCrossModel", "cheap", "()I"⟩
def q_y132 : MethodName := ⟨"NeverCrossModel", "common", "(II)I"⟩
def q_y133 : MethodName := ⟨"NeverCrossModel", "used", "(II)I"⟩
def q_y134 : MethodName := ⟨"NeverCrossModel", "stepOf", "(III)I"⟩
def q_y135 : MethodName := ⟨"NeverCrossModel", "rank", "(III)I"⟩
def q_y136 : MethodName := ⟨"NeverCrossModel", "drawn", "(III)I"⟩
def q_y137 : MethodName := ⟨"NeverCrossModel", "mostFrom", "(II)I"⟩
def q_y138 : MethodName := ⟨"NeverCrossModel", "mostNow", "()I"⟩
def q_y139 : MethodName := ⟨"NeverCrossModel", "most", "()I"⟩
def q_y140 : MethodName := ⟨"NeverCrossModel", "shuts", "()I"⟩
def q_y141 : MethodName := ⟨"NeverCrossModel", "seen", "(I)I"⟩
def q_y142 : MethodName := ⟨"NeverCrossModel", "fits", "()I"⟩
def q_y143 : MethodName := ⟨"NeverCrossModel", "who", "(I)I"⟩
def q_y144 : MethodName := ⟨"NeverCrossModel", "lost", "(I)I"⟩
def q_y145 : MethodName := ⟨"NeverCrossModel", "few", "()I"⟩
def q_y146 : MethodName := ⟨"NeverCrossModel", "boxesBy", "(III)I"⟩
def q_y147 : MethodName := ⟨"NeverCrossModel", "boxes", "(III)I"⟩
def q_y148 : MethodName := ⟨"NeverCrossModel", "step", "(II)I"⟩
def q_y149 : MethodName := ⟨"NeverCrossModel", "walks", "(I)I"⟩
def q_y150 : MethodName := ⟨"NeverCrossModel", "judge", "()I"⟩
def q_y151 : MethodName := ⟨"NeverCrossModel", "clear", "()I"⟩
def q_y152 : MethodName := ⟨"NeverCrossModel", "image", "()I"⟩
def q_y153 : MethodName := ⟨"NeverCrossModel", "on", "()I"⟩
def q_y154 : MethodName := ⟨"NeverCrossModel", "count", "(I)I"⟩
def q_y155 : MethodName := ⟨"java/lang/Integer", "bitCount", "(I)I"⟩
def q_y156 : MethodName := ⟨"java/lang/Math", "max", "(II)I"⟩
def q_y157 : MethodName := ⟨"java/lang/Math", "min", "(II)I"⟩
def q_y158 : MethodName := ⟨"java/util/Arrays", "fill", "([II)V"⟩
def q_y159 : MethodName := ⟨"NeverCrossLaw", "law", "([I)Z"⟩
def q_mt : List (MethodName × ByteArray × Nat × Option FieldType) := [(q_y0, prog_2_method_2_code, 4, (some .int)),
  (q_y1, prog_3_method_2_code, 6, (some .int)),
  (q_y2, prog_3_method_3_code, 5, none),
  (q_y3, prog_4_method_2_code, 3, none),
  (q_y4, prog_4_method_3_code, 3, none),
  (q_y5, prog_4_method_4_code, 3, (some .int)),
  (q_y6, prog_4_method_5_code, 3, (some .int)),
  (q_y7, prog_4_method_6_code, 4, (some .int)),
  (q_y8, prog_4_method_7_code, 4, (some .int)),
  (q_y9, prog_4_method_8_code, 5, (some .int)),
  (q_y10, prog_4_method_9_code, 5, (some .int)),
  (q_y11, prog_5_method_3_code, 5, (some .boolean)),
  (q_y12, prog_6_method_2_code, 4, (some .int)),
  (q_y13, prog_7_method_2_code, 4, (some .int)),
  (q_y14, prog_7_method_3_code, 4, (some .int)),
  (q_y15, prog_8_method_2_code, 2, none),
  (q_y16, prog_8_method_3_code, 6, (some .int)),
  (q_y17, prog_8_method_4_code, 1, none),
  (q_y18, prog_8_method_5_code, 2, (some .boolean)),
  (q_y19, prog_8_method_6_code, 3, (some .boolean)),
  (q_y20, prog_8_method_7_code, 4, (some .boolean)),
  (q_y21, prog_8_method_8_code, 4, (some .boolean)),
  (q_y22, prog_8_method_9_code, 4, (some .boolean)),
  (q_y23, prog_8_method_10_code, 2, (some .boolean)),
  (q_y24, prog_8_method_11_code, 2, (some .boolean)),
  (q_y25, prog_8_method_12_code, 2, (some .int)),
  (q_y26, prog_8_method_13_code, 2, (some .int)),
  (q_y27, prog_8_method_14_code, 4, (some .int)),
  (q_y28, prog_8_method_15_code, 8, (some .int)),
  (q_y29, prog_8_method_16_code, 6, (some .int)),
  (q_y30, prog_9_method_2_code, 2, none),
  (q_y31, prog_9_method_3_code, 7, none),
  (q_y32, prog_9_method_4_code, 4, none),
  (q_y33, prog_9_method_5_code, 5, none),
  (q_y34, prog_9_method_6_code, 4, (some .int)),
  (q_y35, prog_9_method_7_code, 4, (some .int)),
  (q_y36, prog_9_method_8_code, 5, (some .int)),
  (q_y37, prog_9_method_9_code, 5, (some .int)),
  (q_y38, prog_9_method_10_code, 5, (some .int)),
  (q_y39, prog_10_method_2_code, 4, (some .int)),
  (q_y40, prog_11_method_2_code, 4, (some .int)),
  (q_y41, prog_12_method_2_code, 3, none),
  (q_y42, prog_12_method_3_code, 9, none),
  (q_y43, prog_12_method_4_code, 5, none),
  (q_y44, prog_1_method_2_code, 2, (some .int)),
  (q_y45, prog_1_method_3_code, 2, (some .int)),
  (q_y46, prog_1_method_4_code, 3, (some .int)),
  (q_y47, prog_1_method_5_code, 3, (some .int)),
  (q_y48, prog_1_method_6_code, 3, (some .int)),
  (q_y49, prog_1_method_7_code, 3, (some .int)),
  (q_y50, prog_1_method_8_code, 1, (some .int)),
  (q_y51, prog_1_method_9_code, 1, (some .int)),
  (q_y52, prog_1_method_10_code, 4, (some .int)),
  (q_y53, prog_1_method_11_code, 3, (some .int)),
  (q_y54, prog_1_method_12_code, 1, (some .int)),
  (q_y55, prog_1_method_13_code, 6, (some .int)),
  (q_y56, prog_1_method_14_code, 4, (some .int)),
  (q_y57, prog_1_method_15_code, 5, (some .int)),
  (q_y58, prog_1_method_16_code, 1, (some .int)),
  (q_y59, prog_1_method_17_code, 1, (some .int)),
  (q_y60, prog_1_method_18_code, 2, (some .int)),
  (q_y61, prog_1_method_19_code, 2, (some .int)),
  (q_y62, prog_1_method_20_code, 2, (some .int)),
  (q_y63, prog_1_method_21_code, 2, (some .int)),
  (q_y64, prog_1_method_22_code, 2, (some .int)),
  (q_y65, prog_1_method_23_code, 4, (some .int)),
  (q_y66, prog_1_method_24_code, 4, (some .int)),
  (q_y67, prog_1_method_25_code, 3, (some .int)),
  (q_y68, prog_1_method_26_code, 1, (some .int)),
  (q_y69, prog_1_method_27_code, 1, (some .int)),
  (q_y70, prog_1_method_28_code, 1, (some .int)),
  (q_y71, prog_1_method_29_code, 2, (some .int)),
  (q_y72, prog_1_method_30_code, 3, (some .int)),
  (q_y73, prog_1_method_31_code, 1, (some .boolean)),
  (q_y74, prog_1_method_32_code, 1, (some (.object "NeverCross$Study"))),
  (q_y75, prog_1_method_33_code, 1, (some (.object "NeverCross$Law"))),
  (q_y76, prog_1_method_34_code, 5, (some .int)),
  (q_y77, prog_1_method_35_code, 1, (some .int)),
  (q_y78, prog_1_method_36_code, 2, (some .int)),
  (q_y79, prog_1_method_37_code, 7, (some .int)),
  (q_y80, prog_1_method_38_code, 5, (some .int)),
  (q_y81, prog_1_method_39_code, 5, (some .int)),
  (q_y82, prog_1_method_40_code, 3, (some .int)),
  (q_y83, prog_1_method_41_code, 6, (some .int)),
  (q_y84, prog_1_method_42_code, 9, (some .int)),
  (q_y85, prog_1_method_43_code, 1, (some .int)),
  (q_y86, prog_1_method_44_code, 1, (some .int)),
  (q_y87, prog_1_method_45_code, 3, (some .int)),
  (q_y88, prog_1_method_46_code, 1, (some .int)),
  (q_y89, prog_1_method_47_code, 2, (some .int)),
  (q_y90, prog_1_method_48_code, 2, (some .boolean)),
  (q_y91, prog_14_method_2_code, 2, (some .int)),
  (q_y92, prog_14_method_3_code, 2, (some .boolean)),
  (q_y93, prog_14_method_4_code, 3, (some .int)),
  (q_y94, prog_14_method_5_code, 3, none),
  (q_y95, prog_14_method_6_code, 1, (some .int)),
  (q_y96, prog_14_method_7_code, 2, (some .boolean)),
  (q_y97, prog_14_method_8_code, 2, (some .boolean)),
  (q_y98, prog_14_method_9_code, 2, (some .int)),
  (q_y99, prog_14_method_10_code, 2, (some .int)),
  (q_y100, prog_14_method_11_code, 2, (some .int)),
  (q_y101, prog_14_method_12_code, 3, (some .int)),
  (q_y102, prog_14_method_13_code, 6, (some .boolean)),
  (q_y103, prog_14_method_14_code, 7, (some .int)),
  (q_y104, prog_14_method_15_code, 2, (some .int)),
  (q_y105, prog_14_method_16_code, 3, (some .int)),
  (q_y106, prog_14_method_17_code, 3, (some .int)),
  (q_y107, prog_14_method_18_code, 3, (some .int)),
  (q_y108, prog_14_method_19_code, 5, (some .boolean)),
  (q_y109, prog_14_method_20_code, 5, (some .int)),
  (q_y110, prog_14_method_21_code, 4, (some .int)),
  (q_y111, prog_14_method_22_code, 5, (some .int)),
  (q_y112, prog_14_method_23_code, 8, none),
  (q_y113, prog_14_method_24_code, 3, none),
  (q_y114, prog_14_method_25_code, 6, (some .int)),
  (q_y115, prog_14_method_26_code, 3, (some .int)),
  (q_y116, prog_14_method_27_code, 3, (some .int)),
  (q_y117, prog_14_method_28_code, 4, (some .int)),
  (q_y118, prog_14_method_29_code, 5, none),
  (q_y119, prog_14_method_30_code, 7, none),
  (q_y120, prog_14_method_31_code, 3, none),
  (q_y121, prog_14_method_32_code, 4, (some .int)),
  (q_y122, prog_14_method_33_code, 3, none),
  (q_y123, prog_14_method_34_code, 2, (some .int)),
  (q_y124, prog_14_method_35_code, 1, (some .boolean)),
  (q_y125, prog_14_method_36_code, 1, (some .int)),
  (q_y126, prog_14_method_37_code, 1, (some .int)),
  (q_y127, prog_14_method_38_code, 8, (some .int)),
  (q_y128, prog_14_method_39_code, 1, (some .int)),
  (q_y129, prog_14_method_40_code, 4, (some .int)),
  (q_y130, prog_14_method_41_code, 3, (some .int)),
  (q_y131, prog_14_method_42_code, 1, (some .int)),
  (q_y132, prog_14_method_43_code, 2, (some .int)),
  (q_y133, prog_14_method_44_code, 4, (some .int)),
  (q_y134, prog_14_method_45_code, 5, (some .int)),
  (q_y135, prog_14_method_46_code, 5, (some .int)),
  (q_y136, prog_14_method_47_code, 7, (some .int)),
  (q_y137, prog_14_method_48_code, 7, (some .int)),
  (q_y138, prog_14_method_49_code, 1, (some .int)),
  (q_y139, prog_14_method_50_code, 1, (some .int)),
  (q_y140, prog_14_method_51_code, 4, (some .int)),
  (q_y141, prog_14_method_52_code, 3, (some .int)),
  (q_y142, prog_14_method_53_code, 1, (some .int)),
  (q_y143, prog_14_method_54_code, 2, (some .int)),
  (q_y144, prog_14_method_55_code, 5, (some .int)),
  (q_y145, prog_14_method_56_code, 4, (some .int)),
  (q_y146, prog_14_method_57_code, 8, (some .int)),
  (q_y147, prog_14_method_58_code, 5, (some .int)),
  (q_y148, prog_14_method_59_code, 4, (some .int)),
  (q_y149, prog_14_method_60_code, 5, (some .int)),
  (q_y150, prog_14_method_61_code, 6, (some .int)),
  (q_y151, prog_14_method_62_code, 3, (some .int)),
  (q_y152, prog_14_method_63_code, 1, (some .int)),
  (q_y153, prog_14_method_64_code, 1, (some .int)),
  (q_y154, prog_14_method_65_code, 4, (some .int)),
  (q_y155, prog_15_method_49_code, 1, (some .int)),
  (q_y156, prog_16_method_65_code, 2, (some .int)),
  (q_y157, prog_16_method_69_code, 2, (some .int)),
  (q_y158, prog_18_method_103_code, 4, none),
  (q_y159, code, 4, (some .boolean))]
def q_mY (i : Nat) : MethodName := (q_mt.getD i (q_y0, code, 0, none)).1
def q_mB (i : Nat) : ByteArray := (q_mt.getD i (q_y0, code, 0, none)).2.1
def q_mL (i : Nat) : Nat := (q_mt.getD i (q_y0, code, 0, none)).2.2.1
def q_mR (i : Nat) : Option FieldType := (q_mt.getD i (q_y0, code, 0, none)).2.2.2
