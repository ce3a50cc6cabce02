section
-- ===== PART A: goes FIRST, ahead of the names: the tables' words, and 'selects' of the private methods out of them =====
/-- a private method of a class that the tables say can be made, by its rows of tables_1 -/
def lw_okq (q : MethodName × Nat) : Prop := (q.1.cls ≠ "java/lang/invoke/MethodHandle" ∧ q.1.cls ≠ "java/lang/invoke/VarHandle") ∧ Cond.instantiable q.1.cls q.2 ∈ tables_1 ∧ Cond.privateMethod q.1 ∈ tables_1 ∧ Cond.instanceMethod q.1 ∈ tables_1
theorem lw_p0 : lw_okq (⟨"NeverCross", "refuse", "(I)I"⟩, 17) := ⟨⟨by decide +kernel, by decide +kernel⟩, List.mem_of_getElem? (i := 19) (by decide +kernel), List.mem_of_getElem? (i := 322) (by decide +kernel), List.mem_of_getElem? (i := 323) (by decide +kernel)⟩
theorem lw_p1 : lw_okq (⟨"NeverCross$Slope", "wipe", "()V"⟩, 12) := ⟨⟨by decide +kernel, by decide +kernel⟩, List.mem_of_getElem? (i := 27) (by decide +kernel), List.mem_of_getElem? (i := 334) (by decide +kernel), List.mem_of_getElem? (i := 335) (by decide +kernel)⟩
theorem lw_p2 : lw_okq (⟨"NeverCross$Slope", "endRow", "()Z"⟩, 12) := ⟨⟨by decide +kernel, by decide +kernel⟩, List.mem_of_getElem? (i := 27) (by decide +kernel), List.mem_of_getElem? (i := 344) (by decide +kernel), List.mem_of_getElem? (i := 345) (by decide +kernel)⟩
theorem lw_p3 : lw_okq (⟨"NeverCross$Slope", "addCell", "(I)Z"⟩, 12) := ⟨⟨by decide +kernel, by decide +kernel⟩, List.mem_of_getElem? (i := 27) (by decide +kernel), List.mem_of_getElem? (i := 348) (by decide +kernel), List.mem_of_getElem? (i := 349) (by decide +kernel)⟩
theorem lw_p4 : lw_okq (⟨"NeverCross$Slope", "put", "(III)Z"⟩, 12) := ⟨⟨by decide +kernel, by decide +kernel⟩, List.mem_of_getElem? (i := 27) (by decide +kernel), List.mem_of_getElem? (i := 352) (by decide +kernel), List.mem_of_getElem? (i := 353) (by decide +kernel)⟩
theorem lw_p5 : lw_okq (⟨"NeverCross$Slope", "putOnce", "(II[I)Z"⟩, 12) := ⟨⟨by decide +kernel, by decide +kernel⟩, List.mem_of_getElem? (i := 27) (by decide +kernel), List.mem_of_getElem? (i := 356) (by decide +kernel), List.mem_of_getElem? (i := 357) (by decide +kernel)⟩
theorem lw_p6 : lw_okq (⟨"NeverCross$Slope", "pairDoors", "()Z"⟩, 12) := ⟨⟨by decide +kernel, by decide +kernel⟩, List.mem_of_getElem? (i := 27) (by decide +kernel), List.mem_of_getElem? (i := 360) (by decide +kernel), List.mem_of_getElem? (i := 361) (by decide +kernel)⟩
theorem lw_p7 : lw_okq (⟨"NeverCross", "hasSlope", "()Z"⟩, 17) := ⟨⟨by decide +kernel, by decide +kernel⟩, List.mem_of_getElem? (i := 19) (by decide +kernel), List.mem_of_getElem? (i := 404) (by decide +kernel), List.mem_of_getElem? (i := 405) (by decide +kernel)⟩
theorem lw_p8 : lw_okq (⟨"NeverCross", "familiesByLaw", "()I"⟩, 17) := ⟨⟨by decide +kernel, by decide +kernel⟩, List.mem_of_getElem? (i := 19) (by decide +kernel), List.mem_of_getElem? (i := 444) (by decide +kernel), List.mem_of_getElem? (i := 445) (by decide +kernel)⟩
theorem lw_p9 : lw_okq (⟨"NeverCross", "studyNow", "()LNeverCross$Study;"⟩, 17) := ⟨⟨by decide +kernel, by decide +kernel⟩, List.mem_of_getElem? (i := 19) (by decide +kernel), List.mem_of_getElem? (i := 448) (by decide +kernel), List.mem_of_getElem? (i := 449) (by decide +kernel)⟩
theorem lw_p10 : lw_okq (⟨"NeverCross$Ways", "goOn", "(IIII)V"⟩, 5) := ⟨⟨by decide +kernel, by decide +kernel⟩, List.mem_of_getElem? (i := 170) (by decide +kernel), List.mem_of_getElem? (i := 458) (by decide +kernel), List.mem_of_getElem? (i := 459) (by decide +kernel)⟩
theorem lw_p11 : lw_okq (⟨"NeverCross$Ways", "note", "(III)V"⟩, 5) := ⟨⟨by decide +kernel, by decide +kernel⟩, List.mem_of_getElem? (i := 170) (by decide +kernel), List.mem_of_getElem? (i := 463) (by decide +kernel), List.mem_of_getElem? (i := 464) (by decide +kernel)⟩
theorem lw_p12 : lw_okq (⟨"NeverCross$Study", "choose", "(IIII)V"⟩, 9) := ⟨⟨by decide +kernel, by decide +kernel⟩, List.mem_of_getElem? (i := 201) (by decide +kernel), List.mem_of_getElem? (i := 472) (by decide +kernel), List.mem_of_getElem? (i := 473) (by decide +kernel)⟩
theorem lw_p13 : lw_okq (⟨"NeverCross$Study", "meet", "(III)V"⟩, 9) := ⟨⟨by decide +kernel, by decide +kernel⟩, List.mem_of_getElem? (i := 201) (by decide +kernel), List.mem_of_getElem? (i := 476) (by decide +kernel), List.mem_of_getElem? (i := 477) (by decide +kernel)⟩
theorem lw_p14 : lw_okq (⟨"NeverCross$Study", "note", "(II)V"⟩, 9) := ⟨⟨by decide +kernel, by decide +kernel⟩, List.mem_of_getElem? (i := 201) (by decide +kernel), List.mem_of_getElem? (i := 481) (by decide +kernel), List.mem_of_getElem? (i := 482) (by decide +kernel)⟩
theorem lw_p15 : lw_okq (⟨"NeverCross$Study", "doorsPickedThrough", "(I)I"⟩, 9) := ⟨⟨by decide +kernel, by decide +kernel⟩, List.mem_of_getElem? (i := 201) (by decide +kernel), List.mem_of_getElem? (i := 488) (by decide +kernel), List.mem_of_getElem? (i := 489) (by decide +kernel)⟩
def lw_privs_1 : List (MethodName × Nat) := [(⟨"NeverCross", "refuse", "(I)I"⟩, 17), (⟨"NeverCross$Slope", "wipe", "()V"⟩, 12), (⟨"NeverCross$Slope", "endRow", "()Z"⟩, 12), (⟨"NeverCross$Slope", "addCell", "(I)Z"⟩, 12), (⟨"NeverCross$Slope", "put", "(III)Z"⟩, 12), (⟨"NeverCross$Slope", "putOnce", "(II[I)Z"⟩, 12), (⟨"NeverCross$Slope", "pairDoors", "()Z"⟩, 12), (⟨"NeverCross", "hasSlope", "()Z"⟩, 17), (⟨"NeverCross", "familiesByLaw", "()I"⟩, 17), (⟨"NeverCross", "studyNow", "()LNeverCross$Study;"⟩, 17), (⟨"NeverCross$Ways", "goOn", "(IIII)V"⟩, 5), (⟨"NeverCross$Ways", "note", "(III)V"⟩, 5), (⟨"NeverCross$Study", "choose", "(IIII)V"⟩, 9), (⟨"NeverCross$Study", "meet", "(III)V"⟩, 9), (⟨"NeverCross$Study", "note", "(II)V"⟩, 9), (⟨"NeverCross$Study", "doorsPickedThrough", "(I)I"⟩, 9)]
theorem lw_r1 : ∀ q ∈ lw_privs_1, lw_okq q := List.forall_mem_cons.mpr ⟨lw_p0, List.forall_mem_cons.mpr ⟨lw_p1, List.forall_mem_cons.mpr ⟨lw_p2, List.forall_mem_cons.mpr ⟨lw_p3, List.forall_mem_cons.mpr ⟨lw_p4, List.forall_mem_cons.mpr ⟨lw_p5, List.forall_mem_cons.mpr ⟨lw_p6, List.forall_mem_cons.mpr ⟨lw_p7, List.forall_mem_cons.mpr ⟨lw_p8, List.forall_mem_cons.mpr ⟨lw_p9, List.forall_mem_cons.mpr ⟨lw_p10, List.forall_mem_cons.mpr ⟨lw_p11, List.forall_mem_cons.mpr ⟨lw_p12, List.forall_mem_cons.mpr ⟨lw_p13, List.forall_mem_cons.mpr ⟨lw_p14, List.forall_mem_cons.mpr ⟨lw_p15, fun _ h => absurd h List.not_mem_nil⟩⟩⟩⟩⟩⟩⟩⟩⟩⟩⟩⟩⟩⟩⟩⟩
theorem lw_p16 : lw_okq (⟨"NeverCross", "ordersByLaw", "()I"⟩, 17) := ⟨⟨by decide +kernel, by decide +kernel⟩, List.mem_of_getElem? (i := 19) (by decide +kernel), List.mem_of_getElem? (i := 496) (by decide +kernel), List.mem_of_getElem? (i := 497) (by decide +kernel)⟩
theorem lw_p17 : lw_okq (⟨"NeverCross", "lawNow", "()LNeverCross$Law;"⟩, 17) := ⟨⟨by decide +kernel, by decide +kernel⟩, List.mem_of_getElem? (i := 19) (by decide +kernel), List.mem_of_getElem? (i := 500) (by decide +kernel), List.mem_of_getElem? (i := 501) (by decide +kernel)⟩
theorem lw_p18 : lw_okq (⟨"NeverCross", "strikeOut", "(II)I"⟩, 17) := ⟨⟨by decide +kernel, by decide +kernel⟩, List.mem_of_getElem? (i := 19) (by decide +kernel), List.mem_of_getElem? (i := 553) (by decide +kernel), List.mem_of_getElem? (i := 554) (by decide +kernel)⟩
theorem lw_p19 : lw_okq (⟨"NeverCross", "familiesThrough", "(I)I"⟩, 17) := ⟨⟨by decide +kernel, by decide +kernel⟩, List.mem_of_getElem? (i := 19) (by decide +kernel), List.mem_of_getElem? (i := 583) (by decide +kernel), List.mem_of_getElem? (i := 584) (by decide +kernel)⟩
theorem lw_p20 : lw_okq (⟨"NeverCross", "stepOfRanked", "(III)I"⟩, 17) := ⟨⟨by decide +kernel, by decide +kernel⟩, List.mem_of_getElem? (i := 19) (by decide +kernel), List.mem_of_getElem? (i := 602) (by decide +kernel), List.mem_of_getElem? (i := 603) (by decide +kernel)⟩
theorem lw_p21 : lw_okq (⟨"NeverCross$Finder", "pick", "(II)V"⟩, 6) := ⟨⟨by decide +kernel, by decide +kernel⟩, List.mem_of_getElem? (i := 240) (by decide +kernel), List.mem_of_getElem? (i := 611) (by decide +kernel), List.mem_of_getElem? (i := 612) (by decide +kernel)⟩
theorem lw_p22 : lw_okq (⟨"NeverCross", "firstAstray", "()I"⟩, 17) := ⟨⟨by decide +kernel, by decide +kernel⟩, List.mem_of_getElem? (i := 19) (by decide +kernel), List.mem_of_getElem? (i := 688) (by decide +kernel), List.mem_of_getElem? (i := 689) (by decide +kernel)⟩
theorem lw_p23 : lw_okq (⟨"NeverCross$Held", "cellsOfTold", "(I)I"⟩, 8) := ⟨⟨by decide +kernel, by decide +kernel⟩, List.mem_of_getElem? (i := 87) (by decide +kernel), List.mem_of_getElem? (i := 701) (by decide +kernel), List.mem_of_getElem? (i := 702) (by decide +kernel)⟩
theorem lw_p24 : lw_okq (⟨"NeverCrossModel", "refuse", "(I)I"⟩, 28) := ⟨⟨by decide +kernel, by decide +kernel⟩, List.mem_of_getElem? (i := 728) (by decide +kernel), List.mem_of_getElem? (i := 826) (by decide +kernel), List.mem_of_getElem? (i := 827) (by decide +kernel)⟩
theorem lw_p25 : lw_okq (⟨"NeverCrossModel", "reads", "()I"⟩, 28) := ⟨⟨by decide +kernel, by decide +kernel⟩, List.mem_of_getElem? (i := 728) (by decide +kernel), List.mem_of_getElem? (i := 834) (by decide +kernel), List.mem_of_getElem? (i := 835) (by decide +kernel)⟩
theorem lw_p26 : lw_okq (⟨"NeverCrossModel", "tells", "(II)Z"⟩, 28) := ⟨⟨by decide +kernel, by decide +kernel⟩, List.mem_of_getElem? (i := 728) (by decide +kernel), List.mem_of_getElem? (i := 838) (by decide +kernel), List.mem_of_getElem? (i := 839) (by decide +kernel)⟩
theorem lw_p27 : lw_okq (⟨"NeverCrossModel", "isCell", "(I)Z"⟩, 28) := ⟨⟨by decide +kernel, by decide +kernel⟩, List.mem_of_getElem? (i := 728) (by decide +kernel), List.mem_of_getElem? (i := 846) (by decide +kernel), List.mem_of_getElem? (i := 847) (by decide +kernel)⟩
theorem lw_p28 : lw_okq (⟨"NeverCrossModel", "cells", "()I"⟩, 28) := ⟨⟨by decide +kernel, by decide +kernel⟩, List.mem_of_getElem? (i := 728) (by decide +kernel), List.mem_of_getElem? (i := 850) (by decide +kernel), List.mem_of_getElem? (i := 851) (by decide +kernel)⟩
theorem lw_p29 : lw_okq (⟨"NeverCrossModel", "isOrder", "(I)Z"⟩, 28) := ⟨⟨by decide +kernel, by decide +kernel⟩, List.mem_of_getElem? (i := 728) (by decide +kernel), List.mem_of_getElem? (i := 865) (by decide +kernel), List.mem_of_getElem? (i := 866) (by decide +kernel)⟩
theorem lw_p30 : lw_okq (⟨"NeverCrossModel", "digits", "()I"⟩, 28) := ⟨⟨by decide +kernel, by decide +kernel⟩, List.mem_of_getElem? (i := 728) (by decide +kernel), List.mem_of_getElem? (i := 869) (by decide +kernel), List.mem_of_getElem? (i := 870) (by decide +kernel)⟩
theorem lw_p31 : lw_okq (⟨"NeverCrossModel", "isDoor", "(I)Z"⟩, 28) := ⟨⟨by decide +kernel, by decide +kernel⟩, List.mem_of_getElem? (i := 728) (by decide +kernel), List.mem_of_getElem? (i := 877) (by decide +kernel), List.mem_of_getElem? (i := 878) (by decide +kernel)⟩
def lw_privs_2 : List (MethodName × Nat) := [(⟨"NeverCross", "ordersByLaw", "()I"⟩, 17), (⟨"NeverCross", "lawNow", "()LNeverCross$Law;"⟩, 17), (⟨"NeverCross", "strikeOut", "(II)I"⟩, 17), (⟨"NeverCross", "familiesThrough", "(I)I"⟩, 17), (⟨"NeverCross", "stepOfRanked", "(III)I"⟩, 17), (⟨"NeverCross$Finder", "pick", "(II)V"⟩, 6), (⟨"NeverCross", "firstAstray", "()I"⟩, 17), (⟨"NeverCross$Held", "cellsOfTold", "(I)I"⟩, 8), (⟨"NeverCrossModel", "refuse", "(I)I"⟩, 28), (⟨"NeverCrossModel", "reads", "()I"⟩, 28), (⟨"NeverCrossModel", "tells", "(II)Z"⟩, 28), (⟨"NeverCrossModel", "isCell", "(I)Z"⟩, 28), (⟨"NeverCrossModel", "cells", "()I"⟩, 28), (⟨"NeverCrossModel", "isOrder", "(I)Z"⟩, 28), (⟨"NeverCrossModel", "digits", "()I"⟩, 28), (⟨"NeverCrossModel", "isDoor", "(I)Z"⟩, 28)]
theorem lw_r2 : ∀ q ∈ lw_privs_2, lw_okq q := List.forall_mem_cons.mpr ⟨lw_p16, List.forall_mem_cons.mpr ⟨lw_p17, List.forall_mem_cons.mpr ⟨lw_p18, List.forall_mem_cons.mpr ⟨lw_p19, List.forall_mem_cons.mpr ⟨lw_p20, List.forall_mem_cons.mpr ⟨lw_p21, List.forall_mem_cons.mpr ⟨lw_p22, List.forall_mem_cons.mpr ⟨lw_p23, List.forall_mem_cons.mpr ⟨lw_p24, List.forall_mem_cons.mpr ⟨lw_p25, List.forall_mem_cons.mpr ⟨lw_p26, List.forall_mem_cons.mpr ⟨lw_p27, List.forall_mem_cons.mpr ⟨lw_p28, List.forall_mem_cons.mpr ⟨lw_p29, List.forall_mem_cons.mpr ⟨lw_p30, List.forall_mem_cons.mpr ⟨lw_p31, fun _ h => absurd h List.not_mem_nil⟩⟩⟩⟩⟩⟩⟩⟩⟩⟩⟩⟩⟩⟩⟩⟩
theorem lw_p32 : lw_okq (⟨"NeverCrossModel", "aloneOf", "(II)I"⟩, 28) := ⟨⟨by decide +kernel, by decide +kernel⟩, List.mem_of_getElem? (i := 728) (by decide +kernel), List.mem_of_getElem? (i := 881) (by decide +kernel), List.mem_of_getElem? (i := 882) (by decide +kernel)⟩
theorem lw_p33 : lw_okq (⟨"NeverCrossModel", "cellOf", "(II)I"⟩, 28) := ⟨⟨by decide +kernel, by decide +kernel⟩, List.mem_of_getElem? (i := 728) (by decide +kernel), List.mem_of_getElem? (i := 885) (by decide +kernel), List.mem_of_getElem? (i := 886) (by decide +kernel)⟩
theorem lw_p34 : lw_okq (⟨"NeverCrossModel", "what", "(I)I"⟩, 28) := ⟨⟨by decide +kernel, by decide +kernel⟩, List.mem_of_getElem? (i := 728) (by decide +kernel), List.mem_of_getElem? (i := 889) (by decide +kernel), List.mem_of_getElem? (i := 890) (by decide +kernel)⟩
theorem lw_p35 : lw_okq (⟨"NeverCrossModel", "number", "(I)I"⟩, 28) := ⟨⟨by decide +kernel, by decide +kernel⟩, List.mem_of_getElem? (i := 728) (by decide +kernel), List.mem_of_getElem? (i := 893) (by decide +kernel), List.mem_of_getElem? (i := 894) (by decide +kernel)⟩
theorem lw_p36 : lw_okq (⟨"NeverCrossModel", "aloneFrom", "(II)I"⟩, 28) := ⟨⟨by decide +kernel, by decide +kernel⟩, List.mem_of_getElem? (i := 728) (by decide +kernel), List.mem_of_getElem? (i := 897) (by decide +kernel), List.mem_of_getElem? (i := 898) (by decide +kernel)⟩
theorem lw_p37 : lw_okq (⟨"NeverCrossModel", "next", "(II)I"⟩, 28) := ⟨⟨by decide +kernel, by decide +kernel⟩, List.mem_of_getElem? (i := 728) (by decide +kernel), List.mem_of_getElem? (i := 901) (by decide +kernel), List.mem_of_getElem? (i := 902) (by decide +kernel)⟩
theorem lw_p38 : lw_okq (⟨"NeverCrossModel", "isSlope", "()Z"⟩, 28) := ⟨⟨by decide +kernel, by decide +kernel⟩, List.mem_of_getElem? (i := 728) (by decide +kernel), List.mem_of_getElem? (i := 909) (by decide +kernel), List.mem_of_getElem? (i := 910) (by decide +kernel)⟩
theorem lw_p39 : lw_okq (⟨"NeverCrossModel", "allNow", "()I"⟩, 28) := ⟨⟨by decide +kernel, by decide +kernel⟩, List.mem_of_getElem? (i := 728) (by decide +kernel), List.mem_of_getElem? (i := 913) (by decide +kernel), List.mem_of_getElem? (i := 914) (by decide +kernel)⟩
theorem lw_p40 : lw_okq (⟨"NeverCrossModel", "findsByLaw", "(I)V"⟩, 28) := ⟨⟨by decide +kernel, by decide +kernel⟩, List.mem_of_getElem? (i := 728) (by decide +kernel), List.mem_of_getElem? (i := 917) (by decide +kernel), List.mem_of_getElem? (i := 918) (by decide +kernel)⟩
theorem lw_p41 : lw_okq (⟨"NeverCrossModel", "wellBy", "(II)I"⟩, 28) := ⟨⟨by decide +kernel, by decide +kernel⟩, List.mem_of_getElem? (i := 728) (by decide +kernel), List.mem_of_getElem? (i := 921) (by decide +kernel), List.mem_of_getElem? (i := 922) (by decide +kernel)⟩
theorem lw_p42 : lw_okq (⟨"NeverCrossModel", "findsFamilies", "(I)V"⟩, 28) := ⟨⟨by decide +kernel, by decide +kernel⟩, List.mem_of_getElem? (i := 728) (by decide +kernel), List.mem_of_getElem? (i := 925) (by decide +kernel), List.mem_of_getElem? (i := 926) (by decide +kernel)⟩
theorem lw_p43 : lw_okq (⟨"NeverCrossModel", "findsWays", "()V"⟩, 28) := ⟨⟨by decide +kernel, by decide +kernel⟩, List.mem_of_getElem? (i := 728) (by decide +kernel), List.mem_of_getElem? (i := 929) (by decide +kernel), List.mem_of_getElem? (i := 930) (by decide +kernel)⟩
theorem lw_p44 : lw_okq (⟨"NeverCrossModel", "waysFrom", "(IIIII)V"⟩, 28) := ⟨⟨by decide +kernel, by decide +kernel⟩, List.mem_of_getElem? (i := 728) (by decide +kernel), List.mem_of_getElem? (i := 933) (by decide +kernel), List.mem_of_getElem? (i := 934) (by decide +kernel)⟩
theorem lw_p45 : lw_okq (⟨"NeverCrossModel", "familiesFrom", "(III)V"⟩, 28) := ⟨⟨by decide +kernel, by decide +kernel⟩, List.mem_of_getElem? (i := 728) (by decide +kernel), List.mem_of_getElem? (i := 937) (by decide +kernel), List.mem_of_getElem? (i := 938) (by decide +kernel)⟩
theorem lw_p46 : lw_okq (⟨"NeverCrossModel", "gathers", "(I)V"⟩, 28) := ⟨⟨by decide +kernel, by decide +kernel⟩, List.mem_of_getElem? (i := 728) (by decide +kernel), List.mem_of_getElem? (i := 941) (by decide +kernel), List.mem_of_getElem? (i := 942) (by decide +kernel)⟩
theorem lw_p47 : lw_okq (⟨"NeverCrossModel", "costOf", "(I)I"⟩, 28) := ⟨⟨by decide +kernel, by decide +kernel⟩, List.mem_of_getElem? (i := 728) (by decide +kernel), List.mem_of_getElem? (i := 945) (by decide +kernel), List.mem_of_getElem? (i := 946) (by decide +kernel)⟩
def lw_privs_3 : List (MethodName × Nat) := [(⟨"NeverCrossModel", "aloneOf", "(II)I"⟩, 28), (⟨"NeverCrossModel", "cellOf", "(II)I"⟩, 28), (⟨"NeverCrossModel", "what", "(I)I"⟩, 28), (⟨"NeverCrossModel", "number", "(I)I"⟩, 28), (⟨"NeverCrossModel", "aloneFrom", "(II)I"⟩, 28), (⟨"NeverCrossModel", "next", "(II)I"⟩, 28), (⟨"NeverCrossModel", "isSlope", "()Z"⟩, 28), (⟨"NeverCrossModel", "allNow", "()I"⟩, 28), (⟨"NeverCrossModel", "findsByLaw", "(I)V"⟩, 28), (⟨"NeverCrossModel", "wellBy", "(II)I"⟩, 28), (⟨"NeverCrossModel", "findsFamilies", "(I)V"⟩, 28), (⟨"NeverCrossModel", "findsWays", "()V"⟩, 28), (⟨"NeverCrossModel", "waysFrom", "(IIIII)V"⟩, 28), (⟨"NeverCrossModel", "familiesFrom", "(III)V"⟩, 28), (⟨"NeverCrossModel", "gathers", "(I)V"⟩, 28), (⟨"NeverCrossModel", "costOf", "(I)I"⟩, 28)]
theorem lw_r3 : ∀ q ∈ lw_privs_3, lw_okq q := List.forall_mem_cons.mpr ⟨lw_p32, List.forall_mem_cons.mpr ⟨lw_p33, List.forall_mem_cons.mpr ⟨lw_p34, List.forall_mem_cons.mpr ⟨lw_p35, List.forall_mem_cons.mpr ⟨lw_p36, List.forall_mem_cons.mpr ⟨lw_p37, List.forall_mem_cons.mpr ⟨lw_p38, List.forall_mem_cons.mpr ⟨lw_p39, List.forall_mem_cons.mpr ⟨lw_p40, List.forall_mem_cons.mpr ⟨lw_p41, List.forall_mem_cons.mpr ⟨lw_p42, List.forall_mem_cons.mpr ⟨lw_p43, List.forall_mem_cons.mpr ⟨lw_p44, List.forall_mem_cons.mpr ⟨lw_p45, List.forall_mem_cons.mpr ⟨lw_p46, List.forall_mem_cons.mpr ⟨lw_p47, fun _ h => absurd h List.not_mem_nil⟩⟩⟩⟩⟩⟩⟩⟩⟩⟩⟩⟩⟩⟩⟩⟩
theorem lw_p48 : lw_okq (⟨"NeverCrossModel", "cost", "(I)I"⟩, 28) := ⟨⟨by decide +kernel, by decide +kernel⟩, List.mem_of_getElem? (i := 728) (by decide +kernel), List.mem_of_getElem? (i := 949) (by decide +kernel), List.mem_of_getElem? (i := 950) (by decide +kernel)⟩
theorem lw_p49 : lw_okq (⟨"NeverCrossModel", "signedFrom", "(II)I"⟩, 28) := ⟨⟨by decide +kernel, by decide +kernel⟩, List.mem_of_getElem? (i := 728) (by decide +kernel), List.mem_of_getElem? (i := 957) (by decide +kernel), List.mem_of_getElem? (i := 958) (by decide +kernel)⟩
theorem lw_p50 : lw_okq (⟨"NeverCrossModel", "familiesBy", "()I"⟩, 28) := ⟨⟨by decide +kernel, by decide +kernel⟩, List.mem_of_getElem? (i := 728) (by decide +kernel), List.mem_of_getElem? (i := 966) (by decide +kernel), List.mem_of_getElem? (i := 967) (by decide +kernel)⟩
theorem lw_p51 : lw_okq (⟨"NeverCrossModel", "stepOf", "(III)I"⟩, 28) := ⟨⟨by decide +kernel, by decide +kernel⟩, List.mem_of_getElem? (i := 728) (by decide +kernel), List.mem_of_getElem? (i := 989) (by decide +kernel), List.mem_of_getElem? (i := 990) (by decide +kernel)⟩
theorem lw_p52 : lw_okq (⟨"NeverCrossModel", "mostNow", "()I"⟩, 28) := ⟨⟨by decide +kernel, by decide +kernel⟩, List.mem_of_getElem? (i := 728) (by decide +kernel), List.mem_of_getElem? (i := 1004) (by decide +kernel), List.mem_of_getElem? (i := 1005) (by decide +kernel)⟩
theorem lw_p53 : lw_okq (⟨"NeverCrossModel", "mostFrom", "(II)I"⟩, 28) := ⟨⟨by decide +kernel, by decide +kernel⟩, List.mem_of_getElem? (i := 728) (by decide +kernel), List.mem_of_getElem? (i := 1008) (by decide +kernel), List.mem_of_getElem? (i := 1009) (by decide +kernel)⟩
theorem lw_p54 : lw_okq (⟨"NeverCrossModel", "walks", "(I)I"⟩, 28) := ⟨⟨by decide +kernel, by decide +kernel⟩, List.mem_of_getElem? (i := 728) (by decide +kernel), List.mem_of_getElem? (i := 1054) (by decide +kernel), List.mem_of_getElem? (i := 1055) (by decide +kernel)⟩
def lw_privs_4 : List (MethodName × Nat) := [(⟨"NeverCrossModel", "cost", "(I)I"⟩, 28), (⟨"NeverCrossModel", "signedFrom", "(II)I"⟩, 28), (⟨"NeverCrossModel", "familiesBy", "()I"⟩, 28), (⟨"NeverCrossModel", "stepOf", "(III)I"⟩, 28), (⟨"NeverCrossModel", "mostNow", "()I"⟩, 28), (⟨"NeverCrossModel", "mostFrom", "(II)I"⟩, 28), (⟨"NeverCrossModel", "walks", "(I)I"⟩, 28)]
theorem lw_r4 : ∀ q ∈ lw_privs_4, lw_okq q := List.forall_mem_cons.mpr ⟨lw_p48, List.forall_mem_cons.mpr ⟨lw_p49, List.forall_mem_cons.mpr ⟨lw_p50, List.forall_mem_cons.mpr ⟨lw_p51, List.forall_mem_cons.mpr ⟨lw_p52, List.forall_mem_cons.mpr ⟨lw_p53, List.forall_mem_cons.mpr ⟨lw_p54, fun _ h => absurd h List.not_mem_nil⟩⟩⟩⟩⟩⟩⟩
def lw_privs : List (MethodName × Nat) := lw_privs_1 ++ (lw_privs_2 ++ (lw_privs_3 ++ (lw_privs_4)))
def lw_tbl : List Cond := k2_sels lw_privs ++ tables_1
theorem lw_privs_ok : ∀ q ∈ lw_privs, lw_okq q := by
  show ∀ q ∈ lw_privs_1 ++ (lw_privs_2 ++ (lw_privs_3 ++ (lw_privs_4))), lw_okq q
  exact List.forall_mem_append.mpr ⟨lw_r1, List.forall_mem_append.mpr ⟨lw_r2, List.forall_mem_append.mpr ⟨lw_r3, lw_r4⟩⟩⟩

def goodTbl : List Cond := lw_tbl.filter goodWord
def RX0 : String := "NeverCross$Any"
def RX1 : String := "NeverCross$Finder"
def RX2 : String := "NeverCross$Held"
def RX3 : String := "NeverCross$Law"
def RX4 : String := "NeverCross$Next"
def RX5 : String := "NeverCross$Own"
def RX6 : String := "NeverCross$Slope"
def RX7 : String := "NeverCross$Study"
def RX8 : String := "NeverCross$Told"
def RX9 : String := "NeverCross$Turned"
def RX10 : String := "NeverCross$Ways"
def RX11 : String := "NeverCross"
def RX12 : String := "NeverCrossModel"
def RJ6 : String := "java/lang/Integer"
def RJ9 : String := "java/lang/Math"
def RJ10 : String := "java/lang/System"
def RJ7 : String := "java/util/Arrays"
def RL : String := "NeverCrossLaw"
def TX0 : u_T := fun k => match k with
  | _ => ("", "", "", false)
def tyX0 : Nat → FieldType := fun k => match k with
  | _ => .int
theorem nmX0 : ∀ a, a < 0 → ∀ b, b < 0 → a ≠ b → (TX0 a).2.1 ≠ (TX0 b).2.1 := by decide +kernel
theorem tyX0_ok : ∀ k, k < 0 → parseFieldDescriptor (TX0 k).2.2.1 = some (tyX0 k) := by decide +kernel
theorem inX0 : ∀ w ∈ u_ws RX0 TX0 0, w ∈ lw_tbl := by decide +kernel
def TX1 : u_T := fun k => match k with
  | 0 => ("NeverCross$Finder", "picked", "[I", true)
  | 1 => ("NeverCross$Finder", "ways", "LNeverCross$Ways;", true)
  | 2 => ("NeverCross$Finder", "open", "[I", true)
  | 3 => ("NeverCross$Finder", "needed", "I", false)
  | 4 => ("NeverCross$Finder", "stop", "I", false)
  | _ => ("NeverCross$Finder", "met", "I", false)
def tyX1 : Nat → FieldType := fun k => match k with
  | 0 => .array .int
  | 1 => .object "NeverCross$Ways"
  | 2 => .array .int
  | 3 => .int
  | 4 => .int
  | _ => .int
theorem nmX1 : ∀ a, a < 6 → ∀ b, b < 6 → a ≠ b → (TX1 a).2.1 ≠ (TX1 b).2.1 := by decide +kernel
theorem tyX1_ok : ∀ k, k < 6 → parseFieldDescriptor (TX1 k).2.2.1 = some (tyX1 k) := by decide +kernel
theorem inX1 : ∀ w ∈ u_ws RX1 TX1 6, w ∈ lw_tbl := by decide +kernel
def TX2 : u_T := fun k => match k with
  | 0 => ("NeverCross$Held", "slope", "LNeverCross$Slope;", true)
  | 1 => ("NeverCross$Held", "slopeNumber", "I", false)
  | 2 => ("NeverCross$Held", "law", "I", false)
  | 3 => ("NeverCross$Held", "told", "I", false)
  | 4 => ("NeverCross$Held", "seenCells", "I", false)
  | 5 => ("NeverCross$Held", "seen", "[I", true)
  | 6 => ("NeverCross$Held", "lengths", "[I", true)
  | _ => ("NeverCross$Held", "steps", "[[I", true)
def tyX2 : Nat → FieldType := fun k => match k with
  | 0 => .object "NeverCross$Slope"
  | 1 => .int
  | 2 => .int
  | 3 => .int
  | 4 => .int
  | 5 => .array .int
  | 6 => .array .int
  | _ => .array (.array .int)
theorem nmX2 : ∀ a, a < 8 → ∀ b, b < 8 → a ≠ b → (TX2 a).2.1 ≠ (TX2 b).2.1 := by decide +kernel
theorem tyX2_ok : ∀ k, k < 8 → parseFieldDescriptor (TX2 k).2.2.1 = some (tyX2 k) := by decide +kernel
theorem inX2 : ∀ w ∈ u_ws RX2 TX2 8, w ∈ lw_tbl := by decide +kernel
def TX4 : u_T := fun k => match k with
  | _ => ("", "", "", false)
def tyX4 : Nat → FieldType := fun k => match k with
  | _ => .int
theorem nmX4 : ∀ a, a < 0 → ∀ b, b < 0 → a ≠ b → (TX4 a).2.1 ≠ (TX4 b).2.1 := by decide +kernel
theorem tyX4_ok : ∀ k, k < 0 → parseFieldDescriptor (TX4 k).2.2.1 = some (tyX4 k) := by decide +kernel
theorem inX4 : ∀ w ∈ u_ws RX4 TX4 0, w ∈ lw_tbl := by decide +kernel
def TX5 : u_T := fun k => match k with
  | _ => ("", "", "", false)
def tyX5 : Nat → FieldType := fun k => match k with
  | _ => .int
theorem nmX5 : ∀ a, a < 0 → ∀ b, b < 0 → a ≠ b → (TX5 a).2.1 ≠ (TX5 b).2.1 := by decide +kernel
theorem tyX5_ok : ∀ k, k < 0 → parseFieldDescriptor (TX5 k).2.2.1 = some (tyX5 k) := by decide +kernel
theorem inX5 : ∀ w ∈ u_ws RX5 TX5 0, w ∈ lw_tbl := by decide +kernel
def TX6 : u_T := fun k => match k with
  | 0 => ("NeverCross$Slope", "rows", "I", false)
  | 1 => ("NeverCross$Slope", "columns", "I", false)
  | 2 => ("NeverCross$Slope", "cells", "I", false)
  | 3 => ("NeverCross$Slope", "stones", "I", false)
  | 4 => ("NeverCross$Slope", "doors", "I", false)
  | 5 => ("NeverCross$Slope", "kind", "[I", true)
  | 6 => ("NeverCross$Slope", "cost", "[I", true)
  | 7 => ("NeverCross$Slope", "number", "[I", true)
  | 8 => ("NeverCross$Slope", "doorAt", "[I", true)
  | 9 => ("NeverCross$Slope", "wellAt", "[I", true)
  | 10 => ("NeverCross$Slope", "reached", "[I", true)
  | _ => ("NeverCross$Slope", "inRow", "I", false)
def tyX6 : Nat → FieldType := fun k => match k with
  | 0 => .int
  | 1 => .int
  | 2 => .int
  | 3 => .int
  | 4 => .int
  | 5 => .array .int
  | 6 => .array .int
  | 7 => .array .int
  | 8 => .array .int
  | 9 => .array .int
  | 10 => .array .int
  | _ => .int
theorem nmX6 : ∀ a, a < 12 → ∀ b, b < 12 → a ≠ b → (TX6 a).2.1 ≠ (TX6 b).2.1 := by decide +kernel
theorem tyX6_ok : ∀ k, k < 12 → parseFieldDescriptor (TX6 k).2.2.1 = some (tyX6 k) := by decide +kernel
theorem inX6 : ∀ w ∈ u_ws RX6 TX6 12, w ∈ lw_tbl := by decide +kernel
def TX7 : u_T := fun k => match k with
  | 0 => ("NeverCross$Study", "most", "I", false)
  | 1 => ("NeverCross$Study", "shut", "I", false)
  | 2 => ("NeverCross$Study", "slope", "LNeverCross$Slope;", true)
  | 3 => ("NeverCross$Study", "ways", "LNeverCross$Ways;", true)
  | 4 => ("NeverCross$Study", "picked", "[I", true)
  | 5 => ("NeverCross$Study", "families", "[I", true)
  | 6 => ("NeverCross$Study", "leastCost", "[I", true)
  | 7 => ("NeverCross$Study", "through", "[[I", true)
  | _ => ("NeverCross$Study", "who", "[[I", true)
def tyX7 : Nat → FieldType := fun k => match k with
  | 0 => .int
  | 1 => .int
  | 2 => .object "NeverCross$Slope"
  | 3 => .object "NeverCross$Ways"
  | 4 => .array .int
  | 5 => .array .int
  | 6 => .array .int
  | 7 => .array (.array .int)
  | _ => .array (.array .int)
theorem nmX7 : ∀ a, a < 9 → ∀ b, b < 9 → a ≠ b → (TX7 a).2.1 ≠ (TX7 b).2.1 := by decide +kernel
theorem tyX7_ok : ∀ k, k < 9 → parseFieldDescriptor (TX7 k).2.2.1 = some (tyX7 k) := by decide +kernel
theorem inX7 : ∀ w ∈ u_ws RX7 TX7 9, w ∈ lw_tbl := by decide +kernel
def TX8 : u_T := fun k => match k with
  | _ => ("", "", "", false)
def tyX8 : Nat → FieldType := fun k => match k with
  | _ => .int
theorem nmX8 : ∀ a, a < 0 → ∀ b, b < 0 → a ≠ b → (TX8 a).2.1 ≠ (TX8 b).2.1 := by decide +kernel
theorem tyX8_ok : ∀ k, k < 0 → parseFieldDescriptor (TX8 k).2.2.1 = some (tyX8 k) := by decide +kernel
theorem inX8 : ∀ w ∈ u_ws RX8 TX8 0, w ∈ lw_tbl := by decide +kernel
def TX9 : u_T := fun k => match k with
  | _ => ("", "", "", false)
def tyX9 : Nat → FieldType := fun k => match k with
  | _ => .int
theorem nmX9 : ∀ a, a < 0 → ∀ b, b < 0 → a ≠ b → (TX9 a).2.1 ≠ (TX9 b).2.1 := by decide +kernel
theorem tyX9_ok : ∀ k, k < 0 → parseFieldDescriptor (TX9 k).2.2.1 = some (tyX9 k) := by decide +kernel
theorem inX9 : ∀ w ∈ u_ws RX9 TX9 0, w ∈ lw_tbl := by decide +kernel
def TX10 : u_T := fun k => match k with
  | 0 => ("NeverCross$Ways", "slope", "LNeverCross$Slope;", true)
  | 1 => ("NeverCross$Ways", "doors", "I", false)
  | 2 => ("NeverCross$Ways", "sizes", "[I", true)
  | 3 => ("NeverCross$Ways", "cells", "[[I", true)
  | _ => ("NeverCross$Ways", "wells", "[[I", true)
def tyX10 : Nat → FieldType := fun k => match k with
  | 0 => .object "NeverCross$Slope"
  | 1 => .int
  | 2 => .array .int
  | 3 => .array (.array .int)
  | _ => .array (.array .int)
theorem nmX10 : ∀ a, a < 5 → ∀ b, b < 5 → a ≠ b → (TX10 a).2.1 ≠ (TX10 b).2.1 := by decide +kernel
theorem tyX10_ok : ∀ k, k < 5 → parseFieldDescriptor (TX10 k).2.2.1 = some (tyX10 k) := by decide +kernel
theorem inX10 : ∀ w ∈ u_ws RX10 TX10 5, w ∈ lw_tbl := by decide +kernel
def TX11 : u_T := fun k => match k with
  | 0 => ("NeverCross", "letters", "[I", true)
  | 1 => ("NeverCross", "lettersTold", "I", false)
  | 2 => ("NeverCross", "refusals", "[I", true)
  | 3 => ("NeverCross", "draft", "LNeverCross$Slope;", true)
  | 4 => ("NeverCross", "now", "LNeverCross$Held;", true)
  | 5 => ("NeverCross", "kept", "LNeverCross$Held;", true)
  | 6 => ("NeverCross", "imageTaken", "Z", false)
  | 7 => ("NeverCross", "laws", "[LNeverCross$Law;", true)
  | 8 => ("NeverCross", "ways", "LNeverCross$Ways;", true)
  | 9 => ("NeverCross", "fewWays", "LNeverCross$Ways;", true)
  | 10 => ("NeverCross", "study", "LNeverCross$Study;", true)
  | 11 => ("NeverCross", "ranked", "LNeverCross$Finder;", true)
  | 12 => ("NeverCross", "fitting", "LNeverCross$Finder;", true)
  | 13 => ("NeverCross", "fewFound", "LNeverCross$Finder;", true)
  | 14 => ("NeverCross", "slopesRead", "I", false)
  | 15 => ("NeverCross", "slopeStudied", "I", false)
  | _ => ("NeverCross", "rankHeld", "I", false)
def tyX11 : Nat → FieldType := fun k => match k with
  | 0 => .array .int
  | 1 => .int
  | 2 => .array .int
  | 3 => .object "NeverCross$Slope"
  | 4 => .object "NeverCross$Held"
  | 5 => .object "NeverCross$Held"
  | 6 => .boolean
  | 7 => .array (.object "NeverCross$Law")
  | 8 => .object "NeverCross$Ways"
  | 9 => .object "NeverCross$Ways"
  | 10 => .object "NeverCross$Study"
  | 11 => .object "NeverCross$Finder"
  | 12 => .object "NeverCross$Finder"
  | 13 => .object "NeverCross$Finder"
  | 14 => .int
  | 15 => .int
  | _ => .int
theorem nmX11 : ∀ a, a < 17 → ∀ b, b < 17 → a ≠ b → (TX11 a).2.1 ≠ (TX11 b).2.1 := by decide +kernel
theorem tyX11_ok : ∀ k, k < 17 → parseFieldDescriptor (TX11 k).2.2.1 = some (tyX11 k) := by decide +kernel
theorem inX11 : ∀ w ∈ u_ws RX11 TX11 17, w ∈ lw_tbl := by decide +kernel
def TX12 : u_T := fun k => match k with
  | 0 => ("NeverCrossModel", "refusals", "[I", true)
  | 1 => ("NeverCrossModel", "s", "[I", true)
  | 2 => ("NeverCrossModel", "image", "[I", true)
  | 3 => ("NeverCrossModel", "read", "[I", true)
  | 4 => ("NeverCrossModel", "isImage", "Z", false)
  | 5 => ("NeverCrossModel", "tape", "[I", true)
  | 6 => ("NeverCrossModel", "taped", "I", false)
  | 7 => ("NeverCrossModel", "doorsTold", "I", false)
  | 8 => ("NeverCrossModel", "wellsTold", "I", false)
  | 9 => ("NeverCrossModel", "order", "[I", true)
  | 10 => ("NeverCrossModel", "way", "[I", true)
  | 11 => ("NeverCrossModel", "steps", "[I", true)
  | 12 => ("NeverCrossModel", "length", "[I", true)
  | 13 => ("NeverCrossModel", "well", "[I", true)
  | 14 => ("NeverCrossModel", "wayed", "[I", true)
  | 15 => ("NeverCrossModel", "wants", "[I", true)
  | 16 => ("NeverCrossModel", "picked", "[I", true)
  | 17 => ("NeverCrossModel", "foundPick", "[I", true)
  | 18 => ("NeverCrossModel", "usedBy", "[I", true)
  | 19 => ("NeverCrossModel", "whoIn", "[I", true)
  | 20 => ("NeverCrossModel", "families", "I", false)
  | 21 => ("NeverCrossModel", "least", "I", false)
  | 22 => ("NeverCrossModel", "fitting", "I", false)
  | 23 => ("NeverCrossModel", "wanted", "I", false)
  | 24 => ("NeverCrossModel", "seenSet", "I", false)
  | 25 => ("NeverCrossModel", "keptRow", "[I", true)
  | 26 => ("NeverCrossModel", "toldEnd", "[I", true)
  | _ => ("NeverCrossModel", "walked", "I", false)
def tyX12 : Nat → FieldType := fun k => match k with
  | 0 => .array .int
  | 1 => .array .int
  | 2 => .array .int
  | 3 => .array .int
  | 4 => .boolean
  | 5 => .array .int
  | 6 => .int
  | 7 => .int
  | 8 => .int
  | 9 => .array .int
  | 10 => .array .int
  | 11 => .array .int
  | 12 => .array .int
  | 13 => .array .int
  | 14 => .array .int
  | 15 => .array .int
  | 16 => .array .int
  | 17 => .array .int
  | 18 => .array .int
  | 19 => .array .int
  | 20 => .int
  | 21 => .int
  | 22 => .int
  | 23 => .int
  | 24 => .int
  | 25 => .array .int
  | 26 => .array .int
  | _ => .int
theorem nmX12 : ∀ a, a < 28 → ∀ b, b < 28 → a ≠ b → (TX12 a).2.1 ≠ (TX12 b).2.1 := by decide +kernel
theorem tyX12_ok : ∀ k, k < 28 → parseFieldDescriptor (TX12 k).2.2.1 = some (tyX12 k) := by decide +kernel
theorem inX12 : ∀ w ∈ u_ws RX12 TX12 28, w ∈ lw_tbl := by decide +kernel
abbrev q_cl : List vw_C := [(RX0, TX0, 0), (RX1, TX1, 6), (RX2, TX2, 8), (RX4, TX4, 0), (RX5, TX5, 0), (RX6, TX6, 12), (RX7, TX7, 9), (RX8, TX8, 0), (RX9, TX9, 0), (RX10, TX10, 5), (RX11, TX11, 17), (RX12, TX12, 28)]
def q_y0 : MethodName := ⟨"NeverCross$Any", "wellsFor", "(III)I"⟩
def q_y1 : MethodName := ⟨"NeverCross$Finder", "seek", "(LNeverCross$Law;III)I"⟩
def q_y2 : MethodName := ⟨"NeverCross$Finder", "pick", "(II)V"⟩
def q_y3 : MethodName := ⟨"NeverCross$Held", "copyFrom", "(LNeverCross$Held;)V"⟩
def q_y4 : MethodName := ⟨"NeverCross$Held", "begin", "(LNeverCross$Slope;I)V"⟩
def q_y5 : MethodName := ⟨"NeverCross$Held", "forgetTold", "()I"⟩
def q_y6 : MethodName := ⟨"NeverCross$Held", "seenBits", "()I"⟩
def q_y7 : MethodName := ⟨"NeverCross$Held", "firstStepOff", "()I"⟩
def q_y8 : MethodName := ⟨"NeverCross$Held", "endOfTold", "(I)I"⟩
def q_y9 : MethodName := ⟨"NeverCross$Held", "cellsOfTold", "(I)I"⟩
def q_y10 : MethodName := ⟨"NeverCross$Held", "leastShared", "()I"⟩
def q_y11 : MethodName := ⟨"NeverCross$Law", "takes", "(III)Z"⟩
def q_y12 : MethodName := ⟨"NeverCross$Next", "wellOf", "(III)I"⟩
def q_y13 : MethodName := ⟨"NeverCross$Own", "wellOf", "(III)I"⟩
def q_y14 : MethodName := ⟨"NeverCross$Own", "wellsFor", "(III)I"⟩
def q_y15 : MethodName := ⟨"NeverCross$Slope", "copyFrom", "(LNeverCross$Slope;)V"⟩
def q_y16 : MethodName := ⟨"NeverCross$Slope", "read", "([II)I"⟩
def q_y17 : MethodName := ⟨"NeverCross$Slope", "wipe", "()V"⟩
def q_y18 : MethodName := ⟨"NeverCross$Slope", "endRow", "()Z"⟩
def q_y19 : MethodName := ⟨"NeverCross$Slope", "addCell", "(I)Z"⟩
def q_y20 : MethodName := ⟨"NeverCross$Slope", "putOnce", "(II[I)Z"⟩
def q_y21 : MethodName := ⟨"NeverCross$Slope", "put", "(III)Z"⟩
def q_y22 : MethodName := ⟨"NeverCross$Slope", "pairDoors", "()Z"⟩
def q_y23 : MethodName := ⟨"NeverCross$Slope", "hasCell", "(I)Z"⟩
def q_y24 : MethodName := ⟨"NeverCross$Slope", "hasDoor", "(I)Z"⟩
def q_y25 : MethodName := ⟨"NeverCross$Slope", "cellOfDoor", "(I)I"⟩
def q_y26 : MethodName := ⟨"NeverCross$Slope", "cellOfWell", "(I)I"⟩
def q_y27 : MethodName := ⟨"NeverCross$Slope", "onward", "(II)I"⟩
def q_y28 : MethodName := ⟨"NeverCross$Slope", "waysAlone", "(II)I"⟩
def q_y29 : MethodName := ⟨"NeverCross$Slope", "stepOfWay", "(III)I"⟩
def q_y30 : MethodName := ⟨"NeverCross$Study", "make", "()V"⟩
def q_y31 : MethodName := ⟨"NeverCross$Study", "choose", "(IIII)V"⟩
def q_y32 : MethodName := ⟨"NeverCross$Study", "meet", "(III)V"⟩
def q_y33 : MethodName := ⟨"NeverCross$Study", "note", "(II)V"⟩
def q_y34 : MethodName := ⟨"NeverCross$Study", "doorsPickedThrough", "(I)I"⟩
def q_y35 : MethodName := ⟨"NeverCross$Study", "familiesBy", "(I)I"⟩
def q_y36 : MethodName := ⟨"NeverCross$Study", "leastCostBy", "(I)I"⟩
def q_y37 : MethodName := ⟨"NeverCross$Study", "familiesThrough", "(II)I"⟩
def q_y38 : MethodName := ⟨"NeverCross$Study", "doorsThrough", "(II)I"⟩
def q_y39 : MethodName := ⟨"NeverCross$Told", "wellOf", "(III)I"⟩
def q_y40 : MethodName := ⟨"NeverCross$Turned", "wellOf", "(III)I"⟩
def q_y41 : MethodName := ⟨"NeverCross$Ways", "fill", "(I)V"⟩
def q_y42 : MethodName := ⟨"NeverCross$Ways", "goOn", "(IIII)V"⟩
def q_y43 : MethodName := ⟨"NeverCross$Ways", "note", "(III)V"⟩
def q_y44 : MethodName := ⟨"NeverCross", "letter", "(I)I"⟩
def q_y45 : MethodName := ⟨"NeverCross", "slope", "()I"⟩
def q_y46 : MethodName := ⟨"NeverCross", "cell", "(II)I"⟩
def q_y47 : MethodName := ⟨"NeverCross", "law", "(I)I"⟩
def q_y48 : MethodName := ⟨"NeverCross", "set", "(I)I"⟩
def q_y49 : MethodName := ⟨"NeverCross", "alone", "(II)I"⟩
def q_y50 : MethodName := ⟨"NeverCross", "all", "()I"⟩
def q_y51 : MethodName := ⟨"NeverCross", "signed", "()I"⟩
def q_y52 : MethodName := ⟨"NeverCross", "holds", "()I"⟩
def q_y53 : MethodName := ⟨"NeverCross", "by", "(I)I"⟩
def q_y54 : MethodName := ⟨"NeverCross", "cheap", "()I"⟩
def q_y55 : MethodName := ⟨"NeverCross", "used", "(II)I"⟩
def q_y56 : MethodName := ⟨"NeverCross", "rank", "(III)I"⟩
def q_y57 : MethodName := ⟨"NeverCross", "drawn", "(III)I"⟩
def q_y58 : MethodName := ⟨"NeverCross", "most", "()I"⟩
def q_y59 : MethodName := ⟨"NeverCross", "shuts", "()I"⟩
def q_y60 : MethodName := ⟨"NeverCross", "seen", "(I)I"⟩
def q_y61 : MethodName := ⟨"NeverCross", "fits", "()I"⟩
def q_y62 : MethodName := ⟨"NeverCross", "who", "(I)I"⟩
def q_y63 : MethodName := ⟨"NeverCross", "lost", "(I)I"⟩
def q_y64 : MethodName := ⟨"NeverCross", "few", "()I"⟩
def q_y65 : MethodName := ⟨"NeverCross", "boxes", "(III)I"⟩
def q_y66 : MethodName := ⟨"NeverCross", "step", "(II)I"⟩
def q_y67 : MethodName := ⟨"NeverCross", "judge", "()I"⟩
def q_y68 : MethodName := ⟨"NeverCross", "clear", "()I"⟩
def q_y69 : MethodName := ⟨"NeverCross", "image", "()I"⟩
def q_y70 : MethodName := ⟨"NeverCross", "on", "()I"⟩
def q_y71 : MethodName := ⟨"NeverCross", "count", "(I)I"⟩
def q_y72 : MethodName := ⟨"NeverCross", "refuse", "(I)I"⟩
def q_y73 : MethodName := ⟨"NeverCross", "hasSlope", "()Z"⟩
def q_y74 : MethodName := ⟨"NeverCross", "studyNow", "()LNeverCross$Study;"⟩
def q_y75 : MethodName := ⟨"NeverCross", "lawNow", "()LNeverCross$Law;"⟩
def q_y76 : MethodName := ⟨"NeverCross", "ordersByLaw", "()I"⟩
def q_y77 : MethodName := ⟨"NeverCross", "familiesByLaw", "()I"⟩
def q_y78 : MethodName := ⟨"NeverCross", "familiesThrough", "(I)I"⟩
def q_y79 : MethodName := ⟨"NeverCross", "strikeOut", "(II)I"⟩
def q_y80 : MethodName := ⟨"NeverCross", "stepOfRanked", "(III)I"⟩
def q_y81 : MethodName := ⟨"NeverCross", "firstAstray", "()I"⟩
def q_y82 : MethodName := ⟨"NeverCross", "drawBelow", "(II)I"⟩
def q_y83 : MethodName := ⟨"NeverCross", "greatestDivisor", "(II)I"⟩
def q_y84 : MethodName := ⟨"NeverCross", "pilesInCorner", "(III)I"⟩
def q_y85 : MethodName := ⟨"NeverCross", "firstOrder", "(I)I"⟩
def q_y86 : MethodName := ⟨"NeverCross", "endOfOrders", "(I)I"⟩
def q_y87 : MethodName := ⟨"NeverCross", "placeOfOrder", "(II)I"⟩
def q_y88 : MethodName := ⟨"NeverCross", "ownOrder", "(I)I"⟩
def q_y89 : MethodName := ⟨"NeverCross", "wellInOrder", "(II)I"⟩
def q_y90 : MethodName := ⟨"NeverCross", "isIn", "(II)Z"⟩
def q_y91 : MethodName := ⟨"NeverCrossModel", "refuse", "(I)I"⟩
def q_y92 : MethodName := ⟨"NeverCrossModel", "isIn", "(II)Z"⟩
def q_y93 : MethodName := ⟨"NeverCrossModel", "within", "(III)I"⟩
def q_y94 : MethodName := ⟨"NeverCrossModel", "copies", "([I[I)V"⟩
def q_y95 : MethodName := ⟨"NeverCrossModel", "cells", "()I"⟩
def q_y96 : MethodName := ⟨"NeverCrossModel", "isCell", "(I)Z"⟩
def q_y97 : MethodName := ⟨"NeverCrossModel", "isDoor", "(I)Z"⟩
def q_y98 : MethodName := ⟨"NeverCrossModel", "what", "(I)I"⟩
def q_y99 : MethodName := ⟨"NeverCrossModel", "cost", "(I)I"⟩
def q_y100 : MethodName := ⟨"NeverCrossModel", "number", "(I)I"⟩
def q_y101 : MethodName := ⟨"NeverCrossModel", "letter", "(I)I"⟩
def q_y102 : MethodName := ⟨"NeverCrossModel", "tells", "(II)Z"⟩
def q_y103 : MethodName := ⟨"NeverCrossModel", "reads", "()I"⟩
def q_y104 : MethodName := ⟨"NeverCrossModel", "slope", "()I"⟩
def q_y105 : MethodName := ⟨"NeverCrossModel", "cell", "(II)I"⟩
def q_y106 : MethodName := ⟨"NeverCrossModel", "law", "(I)I"⟩
def q_y107 : MethodName := ⟨"NeverCrossModel", "digits", "()I"⟩
def q_y108 : MethodName := ⟨"NeverCrossModel", "isOrder", "(I)Z"⟩
def q_y109 : MethodName := ⟨"NeverCrossModel", "set", "(I)I"⟩
def q_y110 : MethodName := ⟨"NeverCrossModel", "cellOf", "(II)I"⟩
def q_y111 : MethodName := ⟨"NeverCrossModel", "next", "(II)I"⟩
def q_y112 : MethodName := ⟨"NeverCrossModel", "waysFrom", "(IIIII)V"⟩
def q_y113 : MethodName := ⟨"NeverCrossModel", "findsWays", "()V"⟩
def q_y114 : MethodName := ⟨"NeverCrossModel", "aloneFrom", "(II)I"⟩
def q_y115 : MethodName := ⟨"NeverCrossModel", "aloneOf", "(II)I"⟩
def q_y116 : MethodName := ⟨"NeverCrossModel", "alone", "(II)I"⟩
def q_y117 : MethodName := ⟨"NeverCrossModel", "costOf", "(I)I"⟩
def q_y118 : MethodName := ⟨"NeverCrossModel", "gathers", "(I)V"⟩
def q_y119 : MethodName := ⟨"NeverCrossModel", "familiesFrom", "(III)V"⟩
def q_y120 : MethodName := ⟨"NeverCrossModel", "findsFamilies", "(I)V"⟩
def q_y121 : MethodName := ⟨"NeverCrossModel", "wellBy", "(II)I"⟩
def q_y122 : MethodName := ⟨"NeverCrossModel", "findsByLaw", "(I)V"⟩
def q_y123 : MethodName := ⟨"NeverCrossModel", "familiesBy", "()I"⟩
def q_y124 : MethodName := ⟨"NeverCrossModel", "isSlope", "()Z"⟩
def q_y125 : MethodName := ⟨"NeverCrossModel", "allNow", "()I"⟩
def q_y126 : MethodName := ⟨"NeverCrossModel", "all", "()I"⟩
def q_y127 : MethodName := ⟨"NeverCrossModel", "signedFrom", "(II)I"⟩
def q_y128 : MethodName := ⟨"NeverCrossModel", "signed", "()I"⟩
def q_y129 : MethodName := ⟨"NeverCrossModel", "holds", "()I"⟩
def q_y130 : MethodName := ⟨"NeverCrossModel", "by", "(I)I"⟩
def q_y131 : MethodName := ⟨"NeverCrossModel", "cheap", "()I"⟩
def q_y132 : MethodName := ⟨"NeverCrossModel", "common", "(II)I"⟩
def q_y133 : MethodName := ⟨"NeverCrossModel", "used", "(II)I"⟩
def q_y134 : MethodName := ⟨"NeverCrossModel", "stepOf", "(III)I"⟩
def q_y135 : MethodName := ⟨"NeverCrossModel", "rank", "(III)I"⟩
def q_y136 : MethodName := ⟨"NeverCrossModel", "drawn", "(III)I"⟩
def q_y137 : MethodName := ⟨"NeverCrossModel", "mostFrom", "(II)I"⟩
def q_y138 : MethodName := ⟨"NeverCrossModel", "mostNow", "()I"⟩
def q_y139 : MethodName := ⟨"NeverCrossModel", "most", "()I"⟩
def q_y140 : MethodName := ⟨"NeverCrossModel", "shuts", "()I"⟩
def q_y141 : MethodName := ⟨"NeverCrossModel", "seen", "(I)I"⟩
def q_y142 : MethodName := ⟨"NeverCrossModel", "fits", "()I"⟩
def q_y143 : MethodName := ⟨"NeverCrossModel", "who", "(I)I"⟩
def q_y144 : MethodName := ⟨"NeverCrossModel", "lost", "(I)I"⟩
def q_y145 : MethodName := ⟨"NeverCrossModel", "few", "()I"⟩
def q_y146 : MethodName := ⟨"NeverCrossModel", "boxesBy", "(III)I"⟩
def q_y147 : MethodName := ⟨"NeverCrossModel", "boxes", "(III)I"⟩
def q_y148 : MethodName := ⟨"NeverCrossModel", "step", "(II)I"⟩
def q_y149 : MethodName := ⟨"NeverCrossModel", "walks", "(I)I"⟩
def q_y150 : MethodName := ⟨"NeverCrossModel", "judge", "()I"⟩
def q_y151 : MethodName := ⟨"NeverCrossModel", "clear", "()I"⟩
def q_y152 : MethodName := ⟨"NeverCrossModel", "image", "()I"⟩
def q_y153 : MethodName := ⟨"NeverCrossModel", "on", "()I"⟩
def q_y154 : MethodName := ⟨"NeverCrossModel", "count", "(I)I"⟩
def q_y155 : MethodName := ⟨"java/lang/Integer", "bitCount", "(I)I"⟩
def q_y156 : MethodName := ⟨"java/lang/Math", "max", "(II)I"⟩
def q_y157 : MethodName := ⟨"java/lang/Math", "min", "(II)I"⟩
def q_y158 : MethodName := ⟨"java/util/Arrays", "fill", "([II)V"⟩
def q_y159 : MethodName := ⟨"NeverCrossLaw", "law", "([I)Z"⟩
def q_mt : List (MethodName × ByteArray × Nat × Option FieldType) := [(q_y0, prog_2_method_2_code, 4, (some .int)),
  (q_y1, prog_3_method_2_code, 6, (some .int)),
  (q_y2, prog_3_method_3_code, 5, none),
  (q_y3, prog_4_method_2_code, 3, none),
  (q_y4, prog_4_method_3_code, 3, none),
  (q_y5, prog_4_method_4_code, 3, (some .int)),
  (q_y6, prog_4_method_5_code, 3, (some .int)),
  (q_y7, prog_4_method_6_code, 4, (some .int)),
  (q_y8, prog_4_method_7_code, 4, (some .int)),
  (q_y9, prog_4_method_8_code, 5, (some .int)),
  (q_y10, prog_4_method_9_code, 5, (some .int)),
  (q_y11, prog_5_method_3_code, 5, (some .boolean)),
  (q_y12, prog_6_method_2_code, 4, (some .int)),
  (q_y13, prog_7_method_2_code, 4, (some .int)),
  (q_y14, prog_7_method_3_code, 4, (some .int)),
  (q_y15, prog_8_method_2_code, 2, none),
  (q_y16, prog_8_method_3_code, 6, (some .int)),
  (q_y17, prog_8_method_4_code, 1, none),
  (q_y18, prog_8_method_5_code, 2, (some .boolean)),
  (q_y19, prog_8_method_6_code, 3, (some .boolean)),
  (q_y20, prog_8_method_7_code, 4, (some .boolean)),
  (q_y21, prog_8_method_8_code, 4, (some .boolean)),
  (q_y22, prog_8_method_9_code, 4, (some .boolean)),
  (q_y23, prog_8_method_10_code, 2, (some .boolean)),
  (q_y24, prog_8_method_11_code, 2, (some .boolean)),
  (q_y25, prog_8_method_12_code, 2, (some .int)),
  (q_y26, prog_8_method_13_code, 2, (some .int)),
  (q_y27, prog_8_method_14_code, 4, (some .int)),
  (q_y28, prog_8_method_15_code, 8, (some .int)),
  (q_y29, prog_8_method_16_code, 6, (some .int)),
  (q_y30, prog_9_method_2_code, 2, none),
  (q_y31, prog_9_method_3_code, 7, none),
  (q_y32, prog_9_method_4_code, 4, none),
  (q_y33, prog_9_method_5_code, 5, none),
  (q_y34, prog_9_method_6_code, 4, (some .int)),
  (q_y35, prog_9_method_7_code, 4, (some .int)),
  (q_y36, prog_9_method_8_code, 5, (some .int)),
  (q_y37, prog_9_method_9_code, 5, (some .int)),
  (q_y38, prog_9_method_10_code, 5, (some .int)),
  (q_y39, prog_10_method_2_code, 4, (some .int)),
  (q_y40, prog_11_method_2_code, 4, (some .int)),
  (q_y41, prog_12_method_2_code, 3, none),
  (q_y42, prog_12_method_3_code, 9, none),
  (q_y43, prog_12_method_4_code, 5, none),
  (q_y44, prog_1_method_2_code, 2, (some .int)),
  (q_y45, prog_1_method_3_code, 2, (some .int)),
  (q_y46, prog_1_method_4_code, 3, (some .int)),
  (q_y47, prog_1_method_5_code, 3, (some .int)),
  (q_y48, prog_1_method_6_code, 3, (some .int)),
  (q_y49, prog_1_method_7_code, 3, (some .int)),
  (q_y50, prog_1_method_8_code, 1, (some .int)),
  (q_y51, prog_1_method_9_code, 1, (some .int)),
  (q_y52, prog_1_method_10_code, 4, (some .int)),
  (q_y53, prog_1_method_11_code, 3, (some .int)),
  (q_y54, prog_1_method_12_code, 1, (some .int)),
  (q_y55, prog_1_method_13_code, 6, (some .int)),
  (q_y56, prog_1_method_14_code, 4, (some .int)),
  (q_y57, prog_1_method_15_code, 5, (some .int)),
  (q_y58, prog_1_method_16_code, 1, (some .int)),
  (q_y59, prog_1_method_17_code, 1, (some .int)),
  (q_y60, prog_1_method_18_code, 2, (some .int)),
  (q_y61, prog_1_method_19_code, 2, (some .int)),
  (q_y62, prog_1_method_20_code, 2, (some .int)),
  (q_y63, prog_1_method_21_code, 2, (some .int)),
  (q_y64, prog_1_method_22_code, 2, (some .int)),
  (q_y65, prog_1_method_23_code, 4, (some .int)),
  (q_y66, prog_1_method_24_code, 4, (some .int)),
  (q_y67, prog_1_method_25_code, 3, (some .int)),
  (q_y68, prog_1_method_26_code, 1, (some .int)),
  (q_y69, prog_1_method_27_code, 1, (some .int)),
  (q_y70, prog_1_method_28_code, 1, (some .int)),
  (q_y71, prog_1_method_29_code, 2, (some .int)),
  (q_y72, prog_1_method_30_code, 3, (some .int)),
  (q_y73, prog_1_method_31_code, 1, (some .boolean)),
  (q_y74, prog_1_method_32_code, 1, (some (.object "NeverCross$Study"))),
  (q_y75, prog_1_method_33_code, 1, (some (.object "NeverCross$Law"))),
  (q_y76, prog_1_method_34_code, 5, (some .int)),
  (q_y77, prog_1_method_35_code, 1, (some .int)),
  (q_y78, prog_1_method_36_code, 2, (some .int)),
  (q_y79, prog_1_method_37_code, 7, (some .int)),
  (q_y80, prog_1_method_38_code, 4, (some .int)),
  (q_y81, prog_1_method_39_code, 5, (some .int)),
  (q_y82, prog_1_method_40_code, 3, (some .int)),
  (q_y83, prog_1_method_41_code, 6, (some .int)),
  (q_y84, prog_1_method_42_code, 9, (some .int)),
  (q_y85, prog_1_method_43_code, 1, (some .int)),
  (q_y86, prog_1_method_44_code, 1, (some .int)),
  (q_y87, prog_1_method_45_code, 3, (some .int)),
  (q_y88, prog_1_method_46_code, 1, (some .int)),
  (q_y89, prog_1_method_47_code, 2, (some .int)),
  (q_y90, prog_1_method_48_code, 2, (some .boolean)),
  (q_y91, prog_14_method_2_code, 2, (some .int)),
  (q_y92, prog_14_method_3_code, 2, (some .boolean)),
  (q_y93, prog_14_method_4_code, 3, (some .int)),
  (q_y94, prog_14_method_5_code, 3, none),
  (q_y95, prog_14_method_6_code, 1, (some .int)),
  (q_y96, prog_14_method_7_code, 2, (some .boolean)),
  (q_y97, prog_14_method_8_code, 2, (some .boolean)),
  (q_y98, prog_14_method_9_code, 2, (some .int)),
  (q_y99, prog_14_method_10_code, 2, (some .int)),
  (q_y100, prog_14_method_11_code, 2, (some .int)),
  (q_y101, prog_14_method_12_code, 3, (some .int)),
  (q_y102, prog_14_method_13_code, 6, (some .boolean)),
  (q_y103, prog_14_method_14_code, 7, (some .int)),
  (q_y104, prog_14_method_15_code, 2, (some .int)),
  (q_y105, prog_14_method_16_code, 3, (some .int)),
  (q_y106, prog_14_method_17_code, 3, (some .int)),
  (q_y107, prog_14_method_18_code, 3, (some .int)),
  (q_y108, prog_14_method_19_code, 5, (some .boolean)),
  (q_y109, prog_14_method_20_code, 5, (some .int)),
  (q_y110, prog_14_method_21_code, 4, (some .int)),
  (q_y111, prog_14_method_22_code, 5, (some .int)),
  (q_y112, prog_14_method_23_code, 8, none),
  (q_y113, prog_14_method_24_code, 3, none),
  (q_y114, prog_14_method_25_code, 6, (some .int)),
  (q_y115, prog_14_method_26_code, 3, (some .int)),
  (q_y116, prog_14_method_27_code, 3, (some .int)),
  (q_y117, prog_14_method_28_code, 4, (some .int)),
  (q_y118, prog_14_method_29_code, 5, none),
  (q_y119, prog_14_method_30_code, 7, none),
  (q_y120, prog_14_method_31_code, 3, none),
  (q_y121, prog_14_method_32_code, 4, (some .int)),
  (q_y122, prog_14_method_33_code, 3, none),
  (q_y123, prog_14_method_34_code, 2, (some .int)),
  (q_y124, prog_14_method_35_code, 1, (some .boolean)),
  (q_y125, prog_14_method_36_code, 1, (some .int)),
  (q_y126, prog_14_method_37_code, 1, (some .int)),
  (q_y127, prog_14_method_38_code, 8, (some .int)),
  (q_y128, prog_14_method_39_code, 1, (some .int)),
  (q_y129, prog_14_method_40_code, 4, (some .int)),
  (q_y130, prog_14_method_41_code, 3, (some .int)),
  (q_y131, prog_14_method_42_code, 1, (some .int)),
  (q_y132, prog_14_method_43_code, 2, (some .int)),
  (q_y133, prog_14_method_44_code, 4, (some .int)),
  (q_y134, prog_14_method_45_code, 5, (some .int)),
  (q_y135, prog_14_method_46_code, 5, (some .int)),
  (q_y136, prog_14_method_47_code, 7, (some .int)),
  (q_y137, prog_14_method_48_code, 7, (some .int)),
  (q_y138, prog_14_method_49_code, 1, (some .int)),
  (q_y139, prog_14_method_50_code, 1, (some .int)),
  (q_y140, prog_14_method_51_code, 4, (some .int)),
  (q_y141, prog_14_method_52_code, 3, (some .int)),
  (q_y142, prog_14_method_53_code, 1, (some .int)),
  (q_y143, prog_14_method_54_code, 2, (some .int)),
  (q_y144, prog_14_method_55_code, 5, (some .int)),
  (q_y145, prog_14_method_56_code, 4, (some .int)),
  (q_y146, prog_14_method_57_code, 8, (some .int)),
  (q_y147, prog_14_method_58_code, 5, (some .int)),
  (q_y148, prog_14_method_59_code, 4, (some .int)),
  (q_y149, prog_14_method_60_code, 5, (some .int)),
  (q_y150, prog_14_method_61_code, 6, (some .int)),
  (q_y151, prog_14_method_62_code, 3, (some .int)),
  (q_y152, prog_14_method_63_code, 1, (some .int)),
  (q_y153, prog_14_method_64_code, 1, (some .int)),
  (q_y154, prog_14_method_65_code, 4, (some .int)),
  (q_y155, prog_15_method_49_code, 1, (some .int)),
  (q_y156, prog_16_method_65_code, 2, (some .int)),
  (q_y157, prog_16_method_69_code, 2, (some .int)),
  (q_y158, prog_18_method_103_code, 4, none),
  (q_y159, code, 4, (some .boolean))]
def q_mY (i : Nat) : MethodName := (q_mt.getD i (q_y0, code, 0, none)).1
def q_mB (i : Nat) : ByteArray := (q_mt.getD i (q_y0, code, 0, none)).2.1
def q_mL (i : Nat) : Nat := (q_mt.getD i (q_y0, code, 0, none)).2.2.1
def q_mR (i : Nat) : Option FieldType := (q_mt.getD i (q_y0, code, 0, none)).2.2.2
end
section
/-! The memory of both objects as numbers: id of a cell, place in it -/
abbrev q_M : Type := Nat → Nat → Int32
def q_row (M : q_M) (k : Nat) (f : Nat → Int32) : q_M := fun a => if a = k then f else M a
def q_set (M : q_M) (k j : Nat) (v : Int32) : q_M := q_row M k (upd (M k) j v)
theorem q_row_s (M : q_M) (k : Nat) (f : Nat → Int32) : q_row M k f k = f := if_pos rfl
theorem q_row_n {M : q_M} {k a : Nat} {f : Nat → Int32} (h : a ≠ k) : q_row M k f a = M a := if_neg h
abbrev q_Sh : Type := (Nat × List (Option Nat)) ⊕ (Nat ⊕ (Nat × Nat))
def q_lay : List q_Sh := [.inl (10, [some 1, none, some 2, some 3, some 10, some 24, none, some 38, some 44, some 54, some 64, some 88, some 91, some 94, none, none, none]),
  .inr (.inl 48),
  .inr (.inl 7),
  .inl (5, [none, none, none, none, none, some 4, some 5, some 6, some 7, some 8, some 9, none]),
  .inr (.inl 30),
  .inr (.inl 30),
  .inr (.inl 30),
  .inr (.inl 3),
  .inr (.inl 3),
  .inr (.inl 30),
  .inl (2, [some 11, none, none, none, none, some 18, some 19, some 20]),
  .inl (5, [none, none, none, none, none, some 12, some 13, some 14, some 15, some 16, some 17, none]),
  .inr (.inl 30),
  .inr (.inl 30),
  .inr (.inl 30),
  .inr (.inl 3),
  .inr (.inl 3),
  .inr (.inl 30),
  .inr (.inl 4),
  .inr (.inl 3),
  .inr (.inr (21, 3)),
  .inr (.inl 10),
  .inr (.inl 10),
  .inr (.inl 10),
  .inl (2, [some 25, none, none, none, none, some 32, some 33, some 34]),
  .inl (5, [none, none, none, none, none, some 26, some 27, some 28, some 29, some 30, some 31, none]),
  .inr (.inl 30),
  .inr (.inl 30),
  .inr (.inl 30),
  .inr (.inl 3),
  .inr (.inl 3),
  .inr (.inl 30),
  .inr (.inl 4),
  .inr (.inl 3),
  .inr (.inr (35, 3)),
  .inr (.inl 10),
  .inr (.inl 10),
  .inr (.inl 10),
  .inr (.inr (39, 5)),
  .inl (4, []),
  .inl (8, []),
  .inl (3, []),
  .inl (0, []),
  .inl (7, []),
  .inl (9, [some 11, none, some 45, some 46, some 50]),
  .inr (.inl 3),
  .inr (.inr (47, 3)),
  .inr (.inl 126),
  .inr (.inl 126),
  .inr (.inl 126),
  .inr (.inr (51, 3)),
  .inr (.inl 126),
  .inr (.inl 126),
  .inr (.inl 126),
  .inl (9, [some 11, none, some 55, some 56, some 60]),
  .inr (.inl 3),
  .inr (.inr (57, 3)),
  .inr (.inl 126),
  .inr (.inl 126),
  .inr (.inl 126),
  .inr (.inr (61, 3)),
  .inr (.inl 126),
  .inr (.inl 126),
  .inr (.inl 126),
  .inl (6, [none, none, some 11, some 44, some 65, some 66, some 67, some 68, some 78]),
  .inr (.inl 3),
  .inr (.inl 9),
  .inr (.inl 9),
  .inr (.inr (69, 9)),
  .inr (.inl 30),
  .inr (.inl 30),
  .inr (.inl 30),
  .inr (.inl 30),
  .inr (.inl 30),
  .inr (.inl 30),
  .inr (.inl 30),
  .inr (.inl 30),
  .inr (.inl 30),
  .inr (.inr (79, 9)),
  .inr (.inl 30),
  .inr (.inl 30),
  .inr (.inl 30),
  .inr (.inl 30),
  .inr (.inl 30),
  .inr (.inl 30),
  .inr (.inl 30),
  .inr (.inl 30),
  .inr (.inl 30),
  .inl (1, [some 89, some 44, some 90, none, none, none]),
  .inr (.inl 3),
  .inr (.inl 3),
  .inl (1, [some 92, some 44, some 93, none, none, none]),
  .inr (.inl 3),
  .inr (.inl 3),
  .inl (1, [some 95, some 54, some 96, none, none, none]),
  .inr (.inl 3),
  .inr (.inl 3),
  .inl (11, [some 98, some 99, some 100, some 101, none, some 102, none, none, none, some 103, some 104, some 105, some 106, some 107, some 108, some 109, some 110, some 111, some 112, some 113, none, none, none, none, none, some 114, some 115, none]),
  .inr (.inl 7),
  .inr (.inl 135),
  .inr (.inl 135),
  .inr (.inl 135),
  .inr (.inl 48),
  .inr (.inl 3),
  .inr (.inl 1200),
  .inr (.inl 1200),
  .inr (.inl 1200),
  .inr (.inl 1200),
  .inr (.inl 3),
  .inr (.inl 3),
  .inr (.inl 3),
  .inr (.inl 3),
  .inr (.inl 30),
  .inr (.inl 30),
  .inr (.inl 135),
  .inr (.inl 3)] 
abbrev q_N : Nat := 116
theorem q_lay_len : q_lay.length = q_N := by decide +kernel
theorem q_lay_lt {k : Nat} {sh : q_Sh} (h : q_lay[k]? = some sh) : k < q_N := by
  rw [← q_lay_len]; exact (List.getElem?_eq_some_iff.mp h).1
def q_aty (k : Nat) : Option FieldType := match q_lay[k]? with
  | some (.inr (.inl _)) => some .int
  | some (.inr (.inr (b, _))) => some (if b = 39 then .object "NeverCross$Law" else .array .int)
  | _ => none
def q_rv (ρ : Nat → Nat) : Value → Value
  | .ref k => .ref (ρ k)
  | v => v
theorem q_rv_cat (ρ : Nat → Nat) (v : Value) : (q_rv ρ v).category = v.category := by cases v <;> rfl
theorem q_rv_sum (ρ : Nat → Nat) (l : List Value) : ((l.map (q_rv ρ)).map fun v => v.category).sum = (l.map fun v => v.category).sum := by
  rw [List.map_map]
  congr 1
  exact List.map_congr_left fun v _ => q_rv_cat ρ v
def q_fv (ρ : Nat → Nat) (row : Nat → Int32) : Nat → List (Option Nat) → List Value
  | _, [] => []
  | j, none :: r => .int (row j) :: q_fv ρ row (j + 1) r
  | j, some k :: r => .ref (ρ k) :: q_fv ρ row (j + 1) r
def q_en (ρ : Nat → Nat) (cA : Nat → ClassId) (M : q_M) (k : Nat) : q_Sh → va_E
  | .inl (ci, fs) => .inr (ci, q_fv ρ (M k) 0 fs)
  | .inr (.inl n) => .inl (cA k, n, .inl (M k))
  | .inr (.inr (b, n)) => .inl (cA k, n, .inr (.inr (.inr (.inr (fun j => some (ρ (b + j)))))))
def q_wld (ρ : Nat → Nat) (cA : Nat → ClassId) (M : q_M) : va_W := q_lay.mapIdx (fun k sh => (ρ k, q_en ρ cA M k sh))
theorem q_wld_get (ρ : Nat → Nat) (cA : Nat → ClassId) (M : q_M) (k : Nat) : (q_wld ρ cA M)[k]? = (q_lay[k]?).map (fun sh => (ρ k, q_en ρ cA M k sh)) := by
  unfold q_wld
  rw [List.getElem?_mapIdx]
theorem q_wld_at {ρ : Nat → Nat} {cA : Nat → ClassId} {M : q_M} {k : Nat} {sh : q_Sh} (h : q_lay[k]? = some sh) : (q_wld ρ cA M)[k]? = some (ρ k, q_en ρ cA M k sh) := by
  rw [q_wld_get, h]; rfl
theorem q_en_row {ρ : Nat → Nat} {cA : Nat → ClassId} {M : q_M} {k a : Nat} {f : Nat → Int32} (h : a ≠ k) (sh : q_Sh) : q_en ρ cA (q_row M k f) a sh = q_en ρ cA M a sh := by
  rcases sh with ⟨ci, fs⟩ | n | ⟨b, n⟩
  · show Sum.inr (ci, q_fv ρ (q_row M k f a) 0 fs) = _
    rw [q_row_n h]; rfl
  · show Sum.inl (cA a, n, Sum.inl (q_row M k f a)) = _
    rw [q_row_n h]; rfl
  · rfl
theorem q_wld_row {ρ : Nat → Nat} {cA : Nat → ClassId} {M : q_M} {k : Nat} {sh : q_Sh} {f : Nat → Int32} (h : q_lay[k]? = some sh) {x : va_E} (hx : x = q_en ρ cA (q_row M k f) k sh) : (q_wld ρ cA M).set k (ρ k, x) = q_wld ρ cA (q_row M k f) := by
  subst hx
  apply List.ext_getElem?
  intro j
  by_cases hj : k = j
  · subst hj
    rw [List.getElem?_set_self ((List.getElem?_eq_some_iff.mp (q_wld_at (ρ := ρ) (cA := cA) (M := M) h)).1), q_wld_at h]
  · rw [List.getElem?_set_ne hj, q_wld_get, q_wld_get]
    cases q_lay[j]? with
    | none => rfl
    | some z => simp only [Option.map_some]; rw [q_en_row (Ne.symm hj)]
theorem q_fv_get (ρ : Nat → Nat) (row : Nat → Int32) (fs : List (Option Nat)) : ∀ (j k : Nat) (f : Option Nat), fs[k]? = some f → (q_fv ρ row j fs)[k]? = some (match f with | none => .int (row (j + k)) | some t => .ref (ρ t)) := by
  induction fs with
  | nil => intro j k f h; simp at h
  | cons a r ih =>
    intro j k f h
    cases k with
    | zero =>
      simp at h
      subst h
      cases a <;> simp [q_fv]
    | succ k =>
      have h' : r[k]? = some f := by simpa using h
      have := ih (j + 1) k f h'
      rw [show j + (k + 1) = j + 1 + k by omega]
      cases a <;> simpa [q_fv] using this
theorem q_fv_len (ρ : Nat → Nat) (row : Nat → Int32) (fs : List (Option Nat)) : ∀ j, (q_fv ρ row j fs).length = fs.length := by
  induction fs with
  | nil => intro j; rfl
  | cons a r ih => intro j; cases a <;> simp [q_fv, ih]
theorem q_fv_same (ρ : Nat → Nat) {row row' : Nat → Int32} (fs : List (Option Nat)) : ∀ j, (∀ t, j ≤ t → row t = row' t) → q_fv ρ row j fs = q_fv ρ row' j fs := by
  induction fs with
  | nil => intro j _; rfl
  | cons a r ih =>
    intro j h
    have := ih (j + 1) (fun t ht => h t (by omega))
    cases a <;> simp [q_fv, this, h j (Nat.le_refl _)]
theorem q_fv_set (ρ : Nat → Nat) (row : Nat → Int32) (v : Int32) (fs : List (Option Nat)) : ∀ (j k : Nat), fs[k]? = some none → (q_fv ρ row j fs).set k (.int v) = q_fv ρ (upd row (j + k) v) j fs := by
  induction fs with
  | nil => intro j k h; simp at h
  | cons a r ih =>
    intro j k h
    cases k with
    | zero =>
      simp at h
      subst h
      simp only [q_fv, List.set_cons_zero, Nat.add_zero]
      rw [q_fv_same ρ (row := row) (row' := upd row j v) r (j + 1) (fun t ht => by simp [upd]; omega)]
      simp [upd]
    | succ k =>
      have h' : r[k]? = some none := by simpa using h
      have h2 := ih (j + 1) k h'
      rw [show j + (k + 1) = j + 1 + k by omega]
      cases a with
      | none =>
        simp only [q_fv, List.set_cons_succ, h2]
        rw [show upd row (j + 1 + k) v j = row j by simp [upd]; omega]
      | some t => simp only [q_fv, List.set_cons_succ, h2]
/-! addresses -/
def q_inj (ρ : Nat → Nat) : Prop := ∀ i j, i < q_N → j < q_N → ρ i = ρ j → i = j
def q_A (ρ : Nat → Nat) : Nat → Prop := fun q => ∃ k, k < q_N ∧ q = ρ k
theorem q_D {ρ : Nat → Nat} (h : q_inj ρ) (cA : Nat → ClassId) (M : q_M) : va_D (q_A ρ) (q_wld ρ cA M) := by
  have key : ∀ (i : Nat) (p : Nat × va_E), (q_wld ρ cA M)[i]? = some p → i < q_N ∧ p.1 = ρ i := by
    intro i p hp
    rw [q_wld_get] at hp
    cases hl : q_lay[i]? with
    | none => rw [hl] at hp; cases hp
    | some sh => rw [hl] at hp; cases hp; exact ⟨q_lay_lt hl, rfl⟩
  refine ⟨fun i j p q hp hq e => ?_, fun k q hk => ?_⟩
  · obtain ⟨a1, a2⟩ := key i p hp
    obtain ⟨b1, b2⟩ := key j q hq
    exact h i j a1 b1 (by rw [← a2, ← b2]; exact e)
  · obtain ⟨a1, a2⟩ := key k q hk
    exact ⟨k, a1, a2⟩
/-! what the tables give -/
def q_K (cA : Nat → ClassId) (D : va_G) (U : State) : Prop := va_K D q_cl [] U ∧ ∀ k ty, q_aty k = some ty → va_K D q_cl [(cA k, ty)] U
theorem q_K.moved {cA : Nat → ClassId} {D : va_G} {u U : State} (hvm : u.vm.Alike U.vm) (h : q_K cA D u) : q_K cA D U := ⟨va_K.moved hvm h.1, fun k ty hk => va_K.moved hvm (h.2 k ty hk)⟩
def q_rc (X : Nat × (Nat → Int32)) (j : Nat) : Nat × (Nat → Int32) := match j with
  | 0 => (9, fun j => ([0, 10, 1, 210, 120, 201, 21, 102, 12] : List Int32).getD j 0)
  | 1 => (5, fun j => ([0, 0, 1, 3, 9] : List Int32).getD j 0)
  | 2 => (3, fun j => ([1, 10, 100] : List Int32).getD j 0)
  | _ => X
def q_sn (j : Nat) : String := match j with
  | 0 => "ORDERS"
  | 1 => "ORDER_STARTS"
  | _ => "TENS"
def q_Ro (ρ : Nat → Nat) (X : Nat × (Nat → Int32)) (U : State) (H : Heap) : Prop := (∀ j, j < 4 → va_T .int (ρ (1000 + j)) (q_rc X j).1 (fun t => .int ((q_rc X j).2 t)) (q_A ρ) U H) ∧ ∀ j, j < 3 → va_Z "NeverCross" (q_sn j) "[I" (.ref (ρ (1000 + j))) (q_A ρ) U H
theorem q_Ro.moved {ρ : Nat → Nat} {X : Nat × (Nat → Int32)} {u U : State} {H : Heap} (hvm : u.vm.Alike U.vm) (h : q_Ro ρ X u H) : q_Ro ρ X U H := ⟨fun j hj => va_T.moved hvm (h.1 j hj), fun j hj => va_Z.moved hvm (h.2 j hj)⟩
theorem q_Ro.kept {ρ : Nat → Nat} {X : Nat × (Nat → Int32)} {U : State} {H H1 : Heap} (h : q_Ro ρ X U H) (hq : ∀ a : Nat, a < H.size → ¬ q_A ρ a → H1[a]? = H[a]?) : q_Ro ρ X U H1 := ⟨fun j hj => va_T.kept (h.1 j hj) hq, fun j hj => va_Z.kept (h.2 j hj) hq⟩
def q_nw : List Cond := [(.fieldLinkNest "NeverCross$Study" 15 "NeverCross" "ORDERS" "[I" "NeverCross"), (.methodLinkNest "NeverCross$Held" 56 (⟨"NeverCross", "ownOrder", "(I)I"⟩) "NeverCross"), (.methodLinkNest "NeverCross$Study" 88 (⟨"NeverCross", "placeOfOrder", "(II)I"⟩) "NeverCross"), (.methodLinkNest "NeverCross$Study" 98 (⟨"NeverCross", "isIn", "(II)Z"⟩) "NeverCross"), (.fieldLinkNest "NeverCross$Study" 82 "NeverCross" "TENS" "[I" "NeverCross"), (.declares (⟨"NeverCross$Law", "wellsFor", "(III)I"⟩)), (.methodLinkNest "NeverCross$Told" 7 (⟨"NeverCross", "wellInOrder", "(II)I"⟩) "NeverCross"), (.methodLinkNest "NeverCross$Law" 13 (⟨"NeverCross", "wellInOrder", "(II)I"⟩) "NeverCross"), (.methodLinkNest "NeverCross$Slope" 110 (⟨"NeverCross", "isIn", "(II)Z"⟩) "NeverCross"), (.methodLinkNest "NeverCross$Held" 77 (⟨"NeverCross", "isIn", "(II)Z"⟩) "NeverCross")]
def q_Nw (U : State) : Prop := va_Nw (.fieldLinkNest "NeverCross$Study" 15 "NeverCross" "ORDERS" "[I" "NeverCross") U ∧ va_Nw (.methodLinkNest "NeverCross$Held" 56 (⟨"NeverCross", "ownOrder", "(I)I"⟩) "NeverCross") U ∧ va_Nw (.methodLinkNest "NeverCross$Study" 88 (⟨"NeverCross", "placeOfOrder", "(II)I"⟩) "NeverCross") U ∧ va_Nw (.methodLinkNest "NeverCross$Study" 98 (⟨"NeverCross", "isIn", "(II)Z"⟩) "NeverCross") U ∧ va_Nw (.fieldLinkNest "NeverCross$Study" 82 "NeverCross" "TENS" "[I" "NeverCross") U ∧ va_Nw (.declares (⟨"NeverCross$Law", "wellsFor", "(III)I"⟩)) U ∧ va_Nw (.methodLinkNest "NeverCross$Told" 7 (⟨"NeverCross", "wellInOrder", "(II)I"⟩) "NeverCross") U ∧ va_Nw (.methodLinkNest "NeverCross$Law" 13 (⟨"NeverCross", "wellInOrder", "(II)I"⟩) "NeverCross") U ∧ va_Nw (.methodLinkNest "NeverCross$Slope" 110 (⟨"NeverCross", "isIn", "(II)Z"⟩) "NeverCross") U ∧ va_Nw (.methodLinkNest "NeverCross$Held" 77 (⟨"NeverCross", "isIn", "(II)Z"⟩) "NeverCross") U
theorem q_Nw.warm {s U : State} (hW : s.WarmedH U.vm) (h : q_Nw s) : q_Nw U := by
  obtain ⟨h0, h1, h2, h3, h4, h5, h6, h7, h8, h9⟩ := h
  exact ⟨va_Nw.warmF hW h0, va_Nw.warmM hW h1, va_Nw.warmM hW h2, va_Nw.warmM hW h3, va_Nw.warmF hW h4, va_Nw.warmD hW h5, va_Nw.warmM hW h6, va_Nw.warmM hW h7, va_Nw.warmM hW h8, va_Nw.warmM hW h9⟩
theorem q_Nw.same {u U : State} (hv : u.vm = U.vm) (h : q_Nw u) : q_Nw U := by
  obtain ⟨h0, h1, h2, h3, h4, h5, h6, h7, h8, h9⟩ := h
  exact ⟨va_Nw.same rfl hv h0, va_Nw.same rfl hv h1, va_Nw.same rfl hv h2, va_Nw.same rfl hv h3, va_Nw.same rfl hv h4, va_Nw.same rfl hv h5, va_Nw.same rfl hv h6, va_Nw.same rfl hv h7, va_Nw.same rfl hv h8, va_Nw.same rfl hv h9⟩
/-! locals -/
def q_toL (ρ : Nat → Nat) : Nat → List (Option Value) → List (Nat × Value)
  | _, [] => []
  | i, none :: r => q_toL ρ (i + 1) r
  | i, some v :: r => (i, q_rv ρ v) :: q_toL ρ (i + 1) r
theorem q_toL_mem (ρ : Nat → Nat) (als : List (Option Value)) : ∀ (i : Nat) (q : Nat × Value), q ∈ q_toL ρ i als ↔ ∃ k v, als[k]? = some (some v) ∧ q = (i + k, q_rv ρ v) := by
  induction als with
  | nil => intro i q; simp [q_toL]
  | cons a r ih =>
    intro i q
    have step : (q ∈ q_toL ρ (i + 1) r) ↔ ∃ k v, (a :: r)[k + 1]? = some (some v) ∧ q = (i + (k + 1), q_rv ρ v) := by
      rw [ih (i + 1) q]
      simp [Nat.add_assoc, Nat.add_comm 1]
    cases a with
    | none =>
      show q ∈ q_toL ρ (i + 1) r ↔ _
      rw [step]
      constructor
      · rintro ⟨k, v, h1, h2⟩; exact ⟨k + 1, v, h1, h2⟩
      · rintro ⟨k, v, h1, h2⟩
        cases k with
        | zero => simp at h1
        | succ k => exact ⟨k, v, h1, h2⟩
    | some w =>
      show q ∈ (i, q_rv ρ w) :: q_toL ρ (i + 1) r ↔ _
      rw [List.mem_cons, step]
      constructor
      · rintro (h | ⟨k, v, h1, h2⟩)
        · exact ⟨0, w, by simp, by simpa using h⟩
        · exact ⟨k + 1, v, h1, h2⟩
      · rintro ⟨k, v, h1, h2⟩
        cases k with
        | zero => simp at h1; subst h1; exact Or.inl (by simpa using h2)
        | succ k => exact Or.inr ⟨k, v, h1, h2⟩
theorem q_lv {ρ : Nat → Nat} {als : List (Option Value)} {ls : Array Slot} {n k : Nat} {v : Value} (h : lv_has ls n (q_toL ρ 0 als)) (hk : als[k]? = some (some v)) : ls[k]? = some (.val (q_rv ρ v)) :=
  h.2.2 (k, q_rv ρ v) ((q_toL_mem ρ als 0 _).mpr ⟨k, v, hk, by simp⟩)
theorem q_lsub {ls : Array Slot} {n : Nat} {l l' : List (Nat × Value)} (h : lv_has ls n l) (hs : ∀ q ∈ l', q ∈ l) : lv_has ls n l' := ⟨h.1, h.2.1, fun q hq => h.2.2 q (hs q hq)⟩
/-- the place ahead holds no long -/
def q_c1 (als : List (Option Value)) : Nat → Bool
  | 0 => true
  | k + 1 => match als[k]? with
    | some (some v) => v.category == 1
    | _ => true
theorem q_st1 {ρ : Nat → Nat} {als : List (Option Value)} {i : Nat} {v : Value} (hc : q_c1 als i = true) : ∀ q ∈ q_toL ρ 0 (als.set i (some v)), q ∈ (i, q_rv ρ v) :: (q_toL ρ 0 als).filter (fun q => !(q.1 == i) && !(q.1 + 1 == i && q.2.category == 2)) := by
  intro q hq
  obtain ⟨k, w, h1, rfl⟩ := (q_toL_mem ρ _ 0 q).mp hq
  by_cases hk : i = k
  · subst hk
    have hlt : i < (als.set i (some v)).length := (List.getElem?_eq_some_iff.mp h1).1
    rw [List.getElem?_set_self (by simpa using hlt)] at h1
    cases h1
    simp
  · rw [List.getElem?_set_ne hk] at h1
    refine List.mem_cons_of_mem _ (List.mem_filter.mpr ⟨(q_toL_mem ρ als 0 _).mpr ⟨k, w, h1, rfl⟩, ?_⟩)
    have e1 : (0 + k == i) = false := by simp; omega
    rw [e1, q_rv_cat]
    by_cases e2 : 0 + k + 1 = i
    · subst e2
      have h1' : als[0 + k]? = some (some w) := by simpa using h1
      have hc' : (match als[0 + k]? with | some (some v) => v.category == 1 | _ => true) = true := hc
      rw [h1'] at hc'
      have : w.category = 1 := by simpa using hc'
      simp [this]
    · have : ¬ k + 1 = i := by omega
      simp [this]
theorem q_st2 {ρ : Nat → Nat} {als : List (Option Value)} {i : Nat} {v : Value} (hc : q_c1 als i = true) : ∀ q ∈ q_toL ρ 0 ((als.set i (some v)).set (i + 1) none), q ∈ (i, q_rv ρ v) :: (q_toL ρ 0 als).filter (fun q => !(q.1 == i) && (!(q.1 == i + 1) && !(q.1 + 1 == i && q.2.category == 2))) := by
  intro q hq
  obtain ⟨k, w, h1, rfl⟩ := (q_toL_mem ρ _ 0 q).mp hq
  have hk1 : i + 1 ≠ k := by
    intro e
    subst e
    have hlt := (List.getElem?_eq_some_iff.mp h1).1
    rw [List.getElem?_set_self (by simpa using hlt)] at h1
    cases h1
  rw [List.getElem?_set_ne hk1] at h1
  have h2 := q_st1 (ρ := ρ) (v := v) hc _ ((q_toL_mem ρ _ 0 (0 + k, q_rv ρ w)).mpr ⟨k, w, h1, rfl⟩)
  rcases List.mem_cons.mp h2 with h3 | h3
  · rw [h3]; simp
  · refine List.mem_cons_of_mem _ ?_
    rw [List.mem_filter] at h3 ⊢
    refine ⟨h3.1, ?_⟩
    have e1 : (0 + k == i + 1) = false := by simp; omega
    have h4 : (!(0 + k == i) && !(0 + k + 1 == i && (q_rv ρ w).category == 2)) = true := h3.2
    show (!(0 + k == i) && (!(0 + k == i + 1) && !(0 + k + 1 == i && (q_rv ρ w).category == 2))) = true
    rw [e1]
    exact h4
/-! the judgement -/
def q_rt (i : Nat) (v : Option Value) (pc : Nat) : Prop :=
  (∃ x : Int32, v = some (.int x) ∧ decode (q_mB i) pc = .ok (.ireturn, 1) ∧ (q_mR i = some .int ∨ (q_mR i = some .boolean ∧ (x = 0 ∨ x = 1)))) ∨ (v = none ∧ decode (q_mB i) pc = .ok (.return_, 1) ∧ q_mR i = none) ∨ (∃ (k : Nat) (C : String), v = some (.ref k) ∧ decode (q_mB i) pc = .ok (.areturn, 1) ∧ q_mR i = some (.object C))
def q_Fx (X : Nat × (Nat → Int32)) (ρ : Nat → Nat) (cA : Nat → ClassId) (D : va_G) (i d : Nat) (p : Program) (R : Room) (s : State) (m : MethodId) (args : Array Value) (c : Code) (cells slots : Nat) : Prop :=
  p.tables.exec = Jvm.exec ∧ c.code = q_mB i ∧ c.maxLocals = q_mL i ∧ s.vm.findClass (q_mY i).cls = some m.cls ∧ (∀ w ∈ goodTbl, w.before args s = true) ∧ (d + 2 ≤ R.frames ∧ 40 * (d + 2) ≤ R.locals ∧ cells ≤ R.cells ∧ slots ≤ R.slots) ∧ q_K cA D s ∧ q_Nw s ∧ q_Ro ρ X s s.heap ∧ q_inj ρ
def q_Ex (X : Nat × (Nat → Int32)) (d i pc : Nat) (als : List (Option Value)) (st : List Value) (M : q_M) (Q : Option Value → q_M → Prop) : Prop :=
  ∀ (l : Launch) (ρ : Nat → Nat) (cA : Nat → ClassId) (D : va_G) (p : Program) (e : Env) (R : Room) (s : State) (m : MethodId) (args : Array Value) (below : List Frame) (meth : Method) (c : Code) (cells slots : Nat) (Qw : State → Prop),
    q_Fx X ρ cA D i d p R s m args c cells slots → ∀ (H : Heap) (locs : List Loc) (ls : Array Slot), va_P D q_cl (q_wld ρ cA M) H → va_S (q_A ρ) s.heap H locs → lv_has ls (q_mL i) (q_toL ρ 0 als) →
    (∀ (v : Option Value) (M' : q_M) (H' : Heap) (locs' : List Loc) (pc' : Nat) (ls' : Array Slot), Q v M' → va_P D q_cl (q_wld ρ cA M') H' → va_S (q_A ρ) s.heap H' locs' → q_rt i v pc' → W p l e R s m args below meth c H' locs' cells slots Qw (F0 m pc' ls' ((v.map (q_rv ρ)).toList))) →
    W p l e R s m args below meth c H locs cells slots Qw (F0 m pc ls (st.map (q_rv ρ)))
section Rules
variable {X : Nat × (Nat → Int32)} {d i pc : Nat} {als : List (Option Value)} {st : List Value} {M : q_M} {Q : Option Value → q_M → Prop}
theorem q_iconst {n : Int} {v : Int32} (hd : decode (q_mB i) pc = .ok (.iconst n, 1)) (hv : Int32.ofInt n = v) (h : q_Ex X d i (pc + 1) als (.int v :: st) M Q) : q_Ex X d i pc als (st) M Q := by
  intro l ρ cA D p e R s m args below meth c cells slots Qw F H locs ls hP hS hl hk
  have h := h l ρ cA D p e R s m args below meth c cells slots Qw F H locs ls hP hS hl hk
  exact lv_iconst F.1 F.2.1 hd hv h
theorem q_bipush {n : Int} {v : Int32} (hd : decode (q_mB i) pc = .ok (.bipush n, 2)) (hv : (Int8.ofInt n).toInt32 = v) (h : q_Ex X d i (pc + 2) als (.int v :: st) M Q) : q_Ex X d i pc als (st) M Q := by
  intro l ρ cA D p e R s m args below meth c cells slots Qw F H locs ls hP hS hl hk
  have h := h l ρ cA D p e R s m args below meth c cells slots Qw F H locs ls hP hS hl hk
  exact lv_bipush F.1 F.2.1 hd hv h
theorem q_sipush {n : Int} {v : Int32} (hd : decode (q_mB i) pc = .ok (.sipush n, 3)) (hv : (Int16.ofInt n).toInt32 = v) (h : q_Ex X d i (pc + 3) als (.int v :: st) M Q) : q_Ex X d i pc als (st) M Q := by
  intro l ρ cA D p e R s m args below meth c cells slots Qw F H locs ls hP hS hl hk
  have h := h l ρ cA D p e R s m args below meth c cells slots Qw F H locs ls hP hS hl hk
  exact lv_sipush F.1 F.2.1 hd hv h
theorem q_lconst {n : Fin 2} {v : Int64} (hd : decode (q_mB i) pc = .ok (.lconst n, 1)) (hv : Int64.ofNat (n : Nat) = v) (h : q_Ex X d i (pc + 1) als (.long v :: st) M Q) : q_Ex X d i pc als (st) M Q := by
  intro l ρ cA D p e R s m args below meth c cells slots Qw F H locs ls hP hS hl hk
  have h := h l ρ cA D p e R s m args below meth c cells slots Qw F H locs ls hP hS hl hk
  exact lv_lconst F.1 F.2.1 hd hv h
theorem q_ldc {n : Nat} {v : Int32} (hd : decode (q_mB i) pc = .ok (.ldc n, 2)) (hw : Cond.constant (q_mY i).cls n v ∈ goodTbl) (h : q_Ex X d i (pc + 2) als (.int v :: st) M Q) : q_Ex X d i pc als (st) M Q := by
  intro l ρ cA D p e R s m args below meth c cells slots Qw F H locs ls hP hS hl hk
  have h := h l ρ cA D p e R s m args below meth c cells slots Qw F H locs ls hP hS hl hk
  exact lv_ldc F.1 F.2.1 F.2.2.2.1 (F.2.2.2.2.1 _ hw) hd h
theorem q_ldcw {n : Nat} {v : Int32} (hd : decode (q_mB i) pc = .ok (.ldc_w n, 3)) (hw : Cond.constant (q_mY i).cls n v ∈ goodTbl) (h : q_Ex X d i (pc + 3) als (.int v :: st) M Q) : q_Ex X d i pc als (st) M Q := by
  intro l ρ cA D p e R s m args below meth c cells slots Qw F H locs ls hP hS hl hk
  have h := h l ρ cA D p e R s m args below meth c cells slots Qw F H locs ls hP hS hl hk
  exact lv_ldcw F.1 F.2.1 F.2.2.2.1 (F.2.2.2.2.1 _ hw) hd h
theorem q_iload_n {k : Fin 4} {x : Int32} (hd : decode (q_mB i) pc = .ok (.iload_n k, 1)) (hv : als[(k : Nat)]? = some (some (.int x))) (h : q_Ex X d i (pc + 1) als (.int x :: st) M Q) : q_Ex X d i pc als (st) M Q := by
  intro l ρ cA D p e R s m args below meth c cells slots Qw F H locs ls hP hS hl hk
  have h := h l ρ cA D p e R s m args below meth c cells slots Qw F H locs ls hP hS hl hk
  exact lv_iload_n F.1 F.2.1 hd rfl (q_lv hl hv) h
theorem q_iload {k : Nat} {x : Int32} (hd : decode (q_mB i) pc = .ok (.iload k, 2)) (hv : als[k]? = some (some (.int x))) (h : q_Ex X d i (pc + 2) als (.int x :: st) M Q) : q_Ex X d i pc als (st) M Q := by
  intro l ρ cA D p e R s m args below meth c cells slots Qw F H locs ls hP hS hl hk
  have h := h l ρ cA D p e R s m args below meth c cells slots Qw F H locs ls hP hS hl hk
  exact lv_iload F.1 F.2.1 hd (q_lv hl hv) h
theorem q_lload_n {k : Fin 4} {x : Int64} (hd : decode (q_mB i) pc = .ok (.lload_n k, 1)) (hv : als[(k : Nat)]? = some (some (.long x))) (h : q_Ex X d i (pc + 1) als (.long x :: st) M Q) : q_Ex X d i pc als (st) M Q := by
  intro l ρ cA D p e R s m args below meth c cells slots Qw F H locs ls hP hS hl hk
  have h := h l ρ cA D p e R s m args below meth c cells slots Qw F H locs ls hP hS hl hk
  exact lv_lload_n F.1 F.2.1 hd rfl (q_lv hl hv) h
theorem q_lload {k : Nat} {x : Int64} (hd : decode (q_mB i) pc = .ok (.lload k, 2)) (hv : als[k]? = some (some (.long x))) (h : q_Ex X d i (pc + 2) als (.long x :: st) M Q) : q_Ex X d i pc als (st) M Q := by
  intro l ρ cA D p e R s m args below meth c cells slots Qw F H locs ls hP hS hl hk
  have h := h l ρ cA D p e R s m args below meth c cells slots Qw F H locs ls hP hS hl hk
  exact lv_lload F.1 F.2.1 hd (q_lv hl hv) h
theorem q_aload_n {k : Fin 4} {x : Nat} (hd : decode (q_mB i) pc = .ok (.aload_n k, 1)) (hv : als[(k : Nat)]? = some (some (.ref x))) (h : q_Ex X d i (pc + 1) als (.ref x :: st) M Q) : q_Ex X d i pc als (st) M Q := by
  intro l ρ cA D p e R s m args below meth c cells slots Qw F H locs ls hP hS hl hk
  have h := h l ρ cA D p e R s m args below meth c cells slots Qw F H locs ls hP hS hl hk
  exact lv_aload_n F.1 F.2.1 hd rfl (q_lv hl hv) h
theorem q_aload {k : Nat} {x : Nat} (hd : decode (q_mB i) pc = .ok (.aload k, 2)) (hv : als[k]? = some (some (.ref x))) (h : q_Ex X d i (pc + 2) als (.ref x :: st) M Q) : q_Ex X d i pc als (st) M Q := by
  intro l ρ cA D p e R s m args below meth c cells slots Qw F H locs ls hP hS hl hk
  have h := h l ρ cA D p e R s m args below meth c cells slots Qw F H locs ls hP hS hl hk
  exact lv_aload F.1 F.2.1 hd (q_lv hl hv) h
theorem q_istore_n {k : Fin 4} {x : Int32} (als2 : List (Option Value)) (hd : decode (q_mB i) pc = .ok (.istore_n k, 1)) (hc : q_c1 als (k : Nat) = true) (hn : (k : Nat) < q_mL i) (ha : als2 = als.set (k : Nat) (some (.int x))) (h : q_Ex X d i (pc + 1) als2 st M Q) : q_Ex X d i pc als (.int x :: st) M Q := by
  intro l ρ cA D p e R s m args below meth c cells slots Qw F H locs ls hP hS hl hk
  subst ha
  have h := h l ρ cA D p e R s m args below meth c cells slots Qw F H locs
  refine lv_istore_n F.1 F.2.1 hd rfl hl hn rfl (fun ls2 hl2 => ?_)
  exact h ls2 hP hS (q_lsub hl2 (q_st1 hc)) hk
theorem q_istore {k : Nat} {x : Int32} (als2 : List (Option Value)) (hd : decode (q_mB i) pc = .ok (.istore k, 2)) (hc : q_c1 als (k : Nat) = true) (hn : (k : Nat) < q_mL i) (ha : als2 = als.set (k : Nat) (some (.int x))) (h : q_Ex X d i (pc + 2) als2 st M Q) : q_Ex X d i pc als (.int x :: st) M Q := by
  intro l ρ cA D p e R s m args below meth c cells slots Qw F H locs ls hP hS hl hk
  subst ha
  have h := h l ρ cA D p e R s m args below meth c cells slots Qw F H locs
  refine lv_istore F.1 F.2.1 hd hl hn rfl (fun ls2 hl2 => ?_)
  exact h ls2 hP hS (q_lsub hl2 (q_st1 hc)) hk
theorem q_astore_n {k : Fin 4} {x : Nat} (als2 : List (Option Value)) (hd : decode (q_mB i) pc = .ok (.astore_n k, 1)) (hc : q_c1 als (k : Nat) = true) (hn : (k : Nat) < q_mL i) (ha : als2 = als.set (k : Nat) (some (.ref x))) (h : q_Ex X d i (pc + 1) als2 st M Q) : q_Ex X d i pc als (.ref x :: st) M Q := by
  intro l ρ cA D p e R s m args below meth c cells slots Qw F H locs ls hP hS hl hk
  subst ha
  have h := h l ρ cA D p e R s m args below meth c cells slots Qw F H locs
  refine lv_astore_n F.1 F.2.1 hd rfl hl hn rfl (fun ls2 hl2 => ?_)
  exact h ls2 hP hS (q_lsub hl2 (q_st1 hc)) hk
theorem q_astore {k : Nat} {x : Nat} (als2 : List (Option Value)) (hd : decode (q_mB i) pc = .ok (.astore k, 2)) (hc : q_c1 als (k : Nat) = true) (hn : (k : Nat) < q_mL i) (ha : als2 = als.set (k : Nat) (some (.ref x))) (h : q_Ex X d i (pc + 2) als2 st M Q) : q_Ex X d i pc als (.ref x :: st) M Q := by
  intro l ρ cA D p e R s m args below meth c cells slots Qw F H locs ls hP hS hl hk
  subst ha
  have h := h l ρ cA D p e R s m args below meth c cells slots Qw F H locs
  refine lv_astore F.1 F.2.1 hd hl hn rfl (fun ls2 hl2 => ?_)
  exact h ls2 hP hS (q_lsub hl2 (q_st1 hc)) hk
theorem q_lstore_n {k : Fin 4} {x : Int64} (als2 : List (Option Value)) (hd : decode (q_mB i) pc = .ok (.lstore_n k, 1)) (hc : q_c1 als (k : Nat) = true) (hn : (k : Nat) + 1 < q_mL i) (ha : als2 = (als.set (k : Nat) (some (.long x))).set ((k : Nat) + 1) none) (h : q_Ex X d i (pc + 1) als2 st M Q) : q_Ex X d i pc als (.long x :: st) M Q := by
  intro l ρ cA D p e R s m args below meth c cells slots Qw F H locs ls hP hS hl hk
  subst ha
  have h := h l ρ cA D p e R s m args below meth c cells slots Qw F H locs
  refine lv_lstore_n F.1 F.2.1 hd rfl hl hn rfl (fun ls2 hl2 => ?_)
  exact h ls2 hP hS (q_lsub hl2 (q_st2 hc)) hk
theorem q_lstore {k : Nat} {x : Int64} (als2 : List (Option Value)) (hd : decode (q_mB i) pc = .ok (.lstore k, 2)) (hc : q_c1 als (k : Nat) = true) (hn : (k : Nat) + 1 < q_mL i) (ha : als2 = (als.set (k : Nat) (some (.long x))).set ((k : Nat) + 1) none) (h : q_Ex X d i (pc + 2) als2 st M Q) : q_Ex X d i pc als (.long x :: st) M Q := by
  intro l ρ cA D p e R s m args below meth c cells slots Qw F H locs ls hP hS hl hk
  subst ha
  have h := h l ρ cA D p e R s m args below meth c cells slots Qw F H locs
  refine lv_lstore F.1 F.2.1 hd hl hn rfl (fun ls2 hl2 => ?_)
  exact h ls2 hP hS (q_lsub hl2 (q_st2 hc)) hk
theorem q_mem_at {ρ : Nat → Nat} {als : List (Option Value)} {k : Nat} {v : Value} (h : als[k]? = some (some v)) : ∃ t : Nat, (q_toL ρ 0 als)[t]? = some (k, q_rv ρ v) := by
  have h1 : (k, q_rv ρ v) ∈ q_toL ρ 0 als := (q_toL_mem ρ als 0 _).mpr ⟨k, v, h, by simp⟩
  obtain ⟨t, ht, e⟩ := List.mem_iff_getElem.mp h1
  exact ⟨t, List.getElem?_eq_some_iff.mpr ⟨ht, e⟩⟩
theorem q_iinc {k : Nat} {n : Int} {x v : Int32} (als2 : List (Option Value)) (hd : decode (q_mB i) pc = .ok (.iinc k n, 3)) (hx : als[k]? = some (some (.int x))) (hv : x + Int32.ofInt n = v) (hc : q_c1 als k = true) (hn : k < q_mL i) (ha : als2 = als.set k (some (.int v))) (h : q_Ex X d i (pc + 3) als2 st M Q) : q_Ex X d i pc als st M Q := by
  intro l ρ cA D p e R s m args below meth c cells slots Qw F H locs ls hP hS hl hk
  subst ha
  have h := h l ρ cA D p e R s m args below meth c cells slots Qw F H locs
  obtain ⟨t, ht⟩ := q_mem_at (ρ := ρ) hx
  refine lv_iinc F.1 F.2.1 hd hl ht hv hn rfl (fun ls2 hl2 => ?_)
  exact h ls2 hP hS (q_lsub hl2 (q_st1 hc)) hk
theorem q_iadd {x y : Int32} (hd : decode (q_mB i) pc = .ok (.iadd, 1)) (h : q_Ex X d i (pc + 1) als (.int (x + y) :: st) M Q) : q_Ex X d i pc als (.int y :: .int x :: st) M Q := by
  intro l ρ cA D p e R s m args below meth c cells slots Qw F H locs ls hP hS hl hk
  have h := h l ρ cA D p e R s m args below meth c cells slots Qw F H locs ls hP hS hl hk
  exact lv_iadd F.1 F.2.1 hd h
theorem q_isub {x y : Int32} (hd : decode (q_mB i) pc = .ok (.isub, 1)) (h : q_Ex X d i (pc + 1) als (.int (x - y) :: st) M Q) : q_Ex X d i pc als (.int y :: .int x :: st) M Q := by
  intro l ρ cA D p e R s m args below meth c cells slots Qw F H locs ls hP hS hl hk
  have h := h l ρ cA D p e R s m args below meth c cells slots Qw F H locs ls hP hS hl hk
  exact lv_isub F.1 F.2.1 hd h
theorem q_imul {x y : Int32} (hd : decode (q_mB i) pc = .ok (.imul, 1)) (h : q_Ex X d i (pc + 1) als (.int (x * y) :: st) M Q) : q_Ex X d i pc als (.int y :: .int x :: st) M Q := by
  intro l ρ cA D p e R s m args below meth c cells slots Qw F H locs ls hP hS hl hk
  have h := h l ρ cA D p e R s m args below meth c cells slots Qw F H locs ls hP hS hl hk
  exact lv_imul F.1 F.2.1 hd h
theorem q_iand {x y : Int32} (hd : decode (q_mB i) pc = .ok (.iand, 1)) (h : q_Ex X d i (pc + 1) als (.int (x &&& y) :: st) M Q) : q_Ex X d i pc als (.int y :: .int x :: st) M Q := by
  intro l ρ cA D p e R s m args below meth c cells slots Qw F H locs ls hP hS hl hk
  have h := h l ρ cA D p e R s m args below meth c cells slots Qw F H locs ls hP hS hl hk
  exact lv_iand F.1 F.2.1 hd h
theorem q_ior {x y : Int32} (hd : decode (q_mB i) pc = .ok (.ior, 1)) (h : q_Ex X d i (pc + 1) als (.int (x ||| y) :: st) M Q) : q_Ex X d i pc als (.int y :: .int x :: st) M Q := by
  intro l ρ cA D p e R s m args below meth c cells slots Qw F H locs ls hP hS hl hk
  have h := h l ρ cA D p e R s m args below meth c cells slots Qw F H locs ls hP hS hl hk
  exact lv_ior F.1 F.2.1 hd h
theorem q_ixor {x y : Int32} (hd : decode (q_mB i) pc = .ok (.ixor, 1)) (h : q_Ex X d i (pc + 1) als (.int (x ^^^ y) :: st) M Q) : q_Ex X d i pc als (.int y :: .int x :: st) M Q := by
  intro l ρ cA D p e R s m args below meth c cells slots Qw F H locs ls hP hS hl hk
  have h := h l ρ cA D p e R s m args below meth c cells slots Qw F H locs ls hP hS hl hk
  exact lv_ixor F.1 F.2.1 hd h
theorem q_ishl {x y : Int32} (hd : decode (q_mB i) pc = .ok (.ishl, 1)) (h : q_Ex X d i (pc + 1) als (.int (x <<< (y &&& 31)) :: st) M Q) : q_Ex X d i pc als (.int y :: .int x :: st) M Q := by
  intro l ρ cA D p e R s m args below meth c cells slots Qw F H locs ls hP hS hl hk
  have h := h l ρ cA D p e R s m args below meth c cells slots Qw F H locs ls hP hS hl hk
  exact lv_ishl F.1 F.2.1 hd h
theorem q_ishr {x y : Int32} (hd : decode (q_mB i) pc = .ok (.ishr, 1)) (h : q_Ex X d i (pc + 1) als (.int (x >>> (y &&& 31)) :: st) M Q) : q_Ex X d i pc als (.int y :: .int x :: st) M Q := by
  intro l ρ cA D p e R s m args below meth c cells slots Qw F H locs ls hP hS hl hk
  have h := h l ρ cA D p e R s m args below meth c cells slots Qw F H locs ls hP hS hl hk
  exact lv_ishr F.1 F.2.1 hd h
theorem q_iushr {x y : Int32} (hd : decode (q_mB i) pc = .ok (.iushr, 1)) (h : q_Ex X d i (pc + 1) als (.int (x.toUInt32 >>> (y.toUInt32 &&& Int32.toUInt32 31)).toInt32 :: st) M Q) : q_Ex X d i pc als (.int y :: .int x :: st) M Q := by
  intro l ρ cA D p e R s m args below meth c cells slots Qw F H locs ls hP hS hl hk
  have h := h l ρ cA D p e R s m args below meth c cells slots Qw F H locs ls hP hS hl hk
  exact lv_iushr F.1 F.2.1 hd rfl h
theorem q_ineg {x : Int32} (hd : decode (q_mB i) pc = .ok (.ineg, 1)) (h : q_Ex X d i (pc + 1) als (.int (-x) :: st) M Q) : q_Ex X d i pc als (.int x :: st) M Q := by
  intro l ρ cA D p e R s m args below meth c cells slots Qw F H locs ls hP hS hl hk
  have h := h l ρ cA D p e R s m args below meth c cells slots Qw F H locs ls hP hS hl hk
  exact lv_ineg F.1 F.2.1 hd h
theorem q_idiv {x y : Int32} (hd : decode (q_mB i) pc = .ok (.idiv, 1)) (hne : ¬ y = 0) (h : q_Ex X d i (pc + 1) als (.int (x / y) :: st) M Q) : q_Ex X d i pc als (.int y :: .int x :: st) M Q := by
  intro l ρ cA D p e R s m args below meth c cells slots Qw F H locs ls hP hS hl hk
  have h := h l ρ cA D p e R s m args below meth c cells slots Qw F H locs ls hP hS hl hk
  exact lv_idiv F.1 F.2.1 hd hne h
theorem q_irem {x y : Int32} (hd : decode (q_mB i) pc = .ok (.irem, 1)) (hne : ¬ y = 0) (h : q_Ex X d i (pc + 1) als (.int (x - x / y * y) :: st) M Q) : q_Ex X d i pc als (.int y :: .int x :: st) M Q := by
  intro l ρ cA D p e R s m args below meth c cells slots Qw F H locs ls hP hS hl hk
  have h := h l ρ cA D p e R s m args below meth c cells slots Qw F H locs ls hP hS hl hk
  exact lv_irem F.1 F.2.1 hd hne h
theorem q_lmul {x y : Int64} (hd : decode (q_mB i) pc = .ok (.lmul, 1)) (h : q_Ex X d i (pc + 1) als (.long (x * y) :: st) M Q) : q_Ex X d i pc als (.long y :: .long x :: st) M Q := by
  intro l ρ cA D p e R s m args below meth c cells slots Qw F H locs ls hP hS hl hk
  have h := h l ρ cA D p e R s m args below meth c cells slots Qw F H locs ls hP hS hl hk
  exact lv_lmul F.1 F.2.1 hd h
theorem q_ldiv {x y : Int64} (hd : decode (q_mB i) pc = .ok (.ldiv, 1)) (hne : ¬ y = 0) (h : q_Ex X d i (pc + 1) als (.long (x / y) :: st) M Q) : q_Ex X d i pc als (.long y :: .long x :: st) M Q := by
  intro l ρ cA D p e R s m args below meth c cells slots Qw F H locs ls hP hS hl hk
  have h := h l ρ cA D p e R s m args below meth c cells slots Qw F H locs ls hP hS hl hk
  exact lv_ldiv F.1 F.2.1 hd hne h
theorem q_lcmp {x y : Int64} (hd : decode (q_mB i) pc = .ok (.lcmp, 1)) (h : q_Ex X d i (pc + 1) als (.int (lg_cmp x y) :: st) M Q) : q_Ex X d i pc als (.long y :: .long x :: st) M Q := by
  intro l ρ cA D p e R s m args below meth c cells slots Qw F H locs ls hP hS hl hk
  have h := h l ρ cA D p e R s m args below meth c cells slots Qw F H locs ls hP hS hl hk
  exact W.lcmp F.1 F.2.1 hd h
theorem q_i2l {x : Int32} (hd : decode (q_mB i) pc = .ok (.i2l, 1)) (h : q_Ex X d i (pc + 1) als (.long x.toInt64 :: st) M Q) : q_Ex X d i pc als (.int x :: st) M Q := by
  intro l ρ cA D p e R s m args below meth c cells slots Qw F H locs ls hP hS hl hk
  have h := h l ρ cA D p e R s m args below meth c cells slots Qw F H locs ls hP hS hl hk
  exact lv_i2l F.1 F.2.1 hd rfl h
theorem q_l2i {x : Int64} (hd : decode (q_mB i) pc = .ok (.l2i, 1)) (h : q_Ex X d i (pc + 1) als (.int x.toInt32 :: st) M Q) : q_Ex X d i pc als (.long x :: st) M Q := by
  intro l ρ cA D p e R s m args below meth c cells slots Qw F H locs ls hP hS hl hk
  have h := h l ρ cA D p e R s m args below meth c cells slots Qw F H locs ls hP hS hl hk
  exact lv_l2i F.1 F.2.1 hd rfl h
theorem q_dup {v : Value} (hd : decode (q_mB i) pc = .ok (.dup, 1)) (hv : v.category = 1) (h : q_Ex X d i (pc + 1) als (v :: v :: st) M Q) : q_Ex X d i pc als (v :: st) M Q := by
  intro l ρ cA D p e R s m args below meth c cells slots Qw F H locs ls hP hS hl hk
  have h := h l ρ cA D p e R s m args below meth c cells slots Qw F H locs ls hP hS hl hk
  exact lv_dup F.1 F.2.1 hd (by rw [q_rv_cat]; exact hv) h
theorem q_pop {v : Value} (hd : decode (q_mB i) pc = .ok (.pop, 1)) (hv : v.category = 1) (h : q_Ex X d i (pc + 1) als (st) M Q) : q_Ex X d i pc als (v :: st) M Q := by
  intro l ρ cA D p e R s m args below meth c cells slots Qw F H locs ls hP hS hl hk
  have h := h l ρ cA D p e R s m args below meth c cells slots Qw F H locs ls hP hS hl hk
  exact lv_pop F.1 F.2.1 hd (by rw [q_rv_cat]; exact hv) h
theorem q_dup2 {v w : Value} (hd : decode (q_mB i) pc = .ok (.dup2, 1)) (hv : v.category = 1) (hw : w.category = 1) (h : q_Ex X d i (pc + 1) als (v :: w :: v :: w :: st) M Q) : q_Ex X d i pc als (v :: w :: st) M Q := by
  intro l ρ cA D p e R s m args below meth c cells slots Qw F H locs ls hP hS hl hk
  have h := h l ρ cA D p e R s m args below meth c cells slots Qw F H locs ls hP hS hl hk
  exact lv_dup2_11 F.1 F.2.1 hd (by rw [q_rv_cat]; exact hv) (by rw [q_rv_cat]; exact hw) h
theorem q_if_eq {x : Int32} {off : Int} (tgt : Nat) (hd : decode (q_mB i) pc = .ok (.ifCond .eq off, 3)) (ht : (pc : Int) + off = (tgt : Int)) (h1 : x = 0 → q_Ex X d i tgt als st M Q) (h2 : ¬ x = 0 → q_Ex X d i (pc + 3) als st M Q) : q_Ex X d i pc als (.int x :: st) M Q := by
  intro l ρ cA D p e R s m args below meth c cells slots Qw F H locs ls hP hS hl hk
  exact lv_if_eq F.1 F.2.1 hd ht (fun a => h1 a l ρ cA D p e R s m args below meth c cells slots Qw F H locs ls hP hS hl hk) (fun a => h2 a l ρ cA D p e R s m args below meth c cells slots Qw F H locs ls hP hS hl hk)
theorem q_icmp_eq {x y : Int32} {off : Int} (tgt : Nat) (hd : decode (q_mB i) pc = .ok (.if_icmp .eq off, 3)) (ht : (pc : Int) + off = (tgt : Int)) (h1 : x = y → q_Ex X d i tgt als st M Q) (h2 : ¬ x = y → q_Ex X d i (pc + 3) als st M Q) : q_Ex X d i pc als (.int y :: .int x :: st) M Q := by
  intro l ρ cA D p e R s m args below meth c cells slots Qw F H locs ls hP hS hl hk
  exact lv_icmp_eq F.1 F.2.1 hd ht (fun a => h1 a l ρ cA D p e R s m args below meth c cells slots Qw F H locs ls hP hS hl hk) (fun a => h2 a l ρ cA D p e R s m args below meth c cells slots Qw F H locs ls hP hS hl hk)
theorem q_if_ne {x : Int32} {off : Int} (tgt : Nat) (hd : decode (q_mB i) pc = .ok (.ifCond .ne off, 3)) (ht : (pc : Int) + off = (tgt : Int)) (h1 : ¬ x = 0 → q_Ex X d i tgt als st M Q) (h2 : x = 0 → q_Ex X d i (pc + 3) als st M Q) : q_Ex X d i pc als (.int x :: st) M Q := by
  intro l ρ cA D p e R s m args below meth c cells slots Qw F H locs ls hP hS hl hk
  exact lv_if_ne F.1 F.2.1 hd ht (fun a => h1 a l ρ cA D p e R s m args below meth c cells slots Qw F H locs ls hP hS hl hk) (fun a => h2 a l ρ cA D p e R s m args below meth c cells slots Qw F H locs ls hP hS hl hk)
theorem q_icmp_ne {x y : Int32} {off : Int} (tgt : Nat) (hd : decode (q_mB i) pc = .ok (.if_icmp .ne off, 3)) (ht : (pc : Int) + off = (tgt : Int)) (h1 : ¬ x = y → q_Ex X d i tgt als st M Q) (h2 : x = y → q_Ex X d i (pc + 3) als st M Q) : q_Ex X d i pc als (.int y :: .int x :: st) M Q := by
  intro l ρ cA D p e R s m args below meth c cells slots Qw F H locs ls hP hS hl hk
  exact lv_icmp_ne F.1 F.2.1 hd ht (fun a => h1 a l ρ cA D p e R s m args below meth c cells slots Qw F H locs ls hP hS hl hk) (fun a => h2 a l ρ cA D p e R s m args below meth c cells slots Qw F H locs ls hP hS hl hk)
theorem q_if_lt {x : Int32} {off : Int} (tgt : Nat) (hd : decode (q_mB i) pc = .ok (.ifCond .lt off, 3)) (ht : (pc : Int) + off = (tgt : Int)) (h1 : x < 0 → q_Ex X d i tgt als st M Q) (h2 : ¬ x < 0 → q_Ex X d i (pc + 3) als st M Q) : q_Ex X d i pc als (.int x :: st) M Q := by
  intro l ρ cA D p e R s m args below meth c cells slots Qw F H locs ls hP hS hl hk
  exact lv_if_lt F.1 F.2.1 hd ht (fun a => h1 a l ρ cA D p e R s m args below meth c cells slots Qw F H locs ls hP hS hl hk) (fun a => h2 a l ρ cA D p e R s m args below meth c cells slots Qw F H locs ls hP hS hl hk)
theorem q_icmp_lt {x y : Int32} {off : Int} (tgt : Nat) (hd : decode (q_mB i) pc = .ok (.if_icmp .lt off, 3)) (ht : (pc : Int) + off = (tgt : Int)) (h1 : x < y → q_Ex X d i tgt als st M Q) (h2 : ¬ x < y → q_Ex X d i (pc + 3) als st M Q) : q_Ex X d i pc als (.int y :: .int x :: st) M Q := by
  intro l ρ cA D p e R s m args below meth c cells slots Qw F H locs ls hP hS hl hk
  exact lv_icmp_lt F.1 F.2.1 hd ht (fun a => h1 a l ρ cA D p e R s m args below meth c cells slots Qw F H locs ls hP hS hl hk) (fun a => h2 a l ρ cA D p e R s m args below meth c cells slots Qw F H locs ls hP hS hl hk)
theorem q_if_ge {x : Int32} {off : Int} (tgt : Nat) (hd : decode (q_mB i) pc = .ok (.ifCond .ge off, 3)) (ht : (pc : Int) + off = (tgt : Int)) (h1 : 0 ≤ x → q_Ex X d i tgt als st M Q) (h2 : ¬ 0 ≤ x → q_Ex X d i (pc + 3) als st M Q) : q_Ex X d i pc als (.int x :: st) M Q := by
  intro l ρ cA D p e R s m args below meth c cells slots Qw F H locs ls hP hS hl hk
  exact lv_if_ge F.1 F.2.1 hd ht (fun a => h1 a l ρ cA D p e R s m args below meth c cells slots Qw F H locs ls hP hS hl hk) (fun a => h2 a l ρ cA D p e R s m args below meth c cells slots Qw F H locs ls hP hS hl hk)
theorem q_icmp_ge {x y : Int32} {off : Int} (tgt : Nat) (hd : decode (q_mB i) pc = .ok (.if_icmp .ge off, 3)) (ht : (pc : Int) + off = (tgt : Int)) (h1 : y ≤ x → q_Ex X d i tgt als st M Q) (h2 : ¬ y ≤ x → q_Ex X d i (pc + 3) als st M Q) : q_Ex X d i pc als (.int y :: .int x :: st) M Q := by
  intro l ρ cA D p e R s m args below meth c cells slots Qw F H locs ls hP hS hl hk
  exact lv_icmp_ge F.1 F.2.1 hd ht (fun a => h1 a l ρ cA D p e R s m args below meth c cells slots Qw F H locs ls hP hS hl hk) (fun a => h2 a l ρ cA D p e R s m args below meth c cells slots Qw F H locs ls hP hS hl hk)
theorem q_if_gt {x : Int32} {off : Int} (tgt : Nat) (hd : decode (q_mB i) pc = .ok (.ifCond .gt off, 3)) (ht : (pc : Int) + off = (tgt : Int)) (h1 : 0 < x → q_Ex X d i tgt als st M Q) (h2 : ¬ 0 < x → q_Ex X d i (pc + 3) als st M Q) : q_Ex X d i pc als (.int x :: st) M Q := by
  intro l ρ cA D p e R s m args below meth c cells slots Qw F H locs ls hP hS hl hk
  exact lv_if_gt F.1 F.2.1 hd ht (fun a => h1 a l ρ cA D p e R s m args below meth c cells slots Qw F H locs ls hP hS hl hk) (fun a => h2 a l ρ cA D p e R s m args below meth c cells slots Qw F H locs ls hP hS hl hk)
theorem q_icmp_gt {x y : Int32} {off : Int} (tgt : Nat) (hd : decode (q_mB i) pc = .ok (.if_icmp .gt off, 3)) (ht : (pc : Int) + off = (tgt : Int)) (h1 : y < x → q_Ex X d i tgt als st M Q) (h2 : ¬ y < x → q_Ex X d i (pc + 3) als st M Q) : q_Ex X d i pc als (.int y :: .int x :: st) M Q := by
  intro l ρ cA D p e R s m args below meth c cells slots Qw F H locs ls hP hS hl hk
  exact lv_icmp_gt F.1 F.2.1 hd ht (fun a => h1 a l ρ cA D p e R s m args below meth c cells slots Qw F H locs ls hP hS hl hk) (fun a => h2 a l ρ cA D p e R s m args below meth c cells slots Qw F H locs ls hP hS hl hk)
theorem q_if_le {x : Int32} {off : Int} (tgt : Nat) (hd : decode (q_mB i) pc = .ok (.ifCond .le off, 3)) (ht : (pc : Int) + off = (tgt : Int)) (h1 : x ≤ 0 → q_Ex X d i tgt als st M Q) (h2 : ¬ x ≤ 0 → q_Ex X d i (pc + 3) als st M Q) : q_Ex X d i pc als (.int x :: st) M Q := by
  intro l ρ cA D p e R s m args below meth c cells slots Qw F H locs ls hP hS hl hk
  exact lv_if_le F.1 F.2.1 hd ht (fun a => h1 a l ρ cA D p e R s m args below meth c cells slots Qw F H locs ls hP hS hl hk) (fun a => h2 a l ρ cA D p e R s m args below meth c cells slots Qw F H locs ls hP hS hl hk)
theorem q_icmp_le {x y : Int32} {off : Int} (tgt : Nat) (hd : decode (q_mB i) pc = .ok (.if_icmp .le off, 3)) (ht : (pc : Int) + off = (tgt : Int)) (h1 : x ≤ y → q_Ex X d i tgt als st M Q) (h2 : ¬ x ≤ y → q_Ex X d i (pc + 3) als st M Q) : q_Ex X d i pc als (.int y :: .int x :: st) M Q := by
  intro l ρ cA D p e R s m args below meth c cells slots Qw F H locs ls hP hS hl hk
  exact lv_icmp_le F.1 F.2.1 hd ht (fun a => h1 a l ρ cA D p e R s m args below meth c cells slots Qw F H locs ls hP hS hl hk) (fun a => h2 a l ρ cA D p e R s m args below meth c cells slots Qw F H locs ls hP hS hl hk)
theorem q_goto {off : Int} (tgt : Nat) (hd : decode (q_mB i) pc = .ok (.goto off, 3)) (ht : (pc : Int) + off = (tgt : Int)) (h : q_Ex X d i tgt als st M Q) : q_Ex X d i pc als st M Q := by
  intro l ρ cA D p e R s m args below meth c cells slots Qw F H locs ls hP hS hl hk
  exact lv_goto F.1 F.2.1 hd ht (h l ρ cA D p e R s m args below meth c cells slots Qw F H locs ls hP hS hl hk)
theorem q_tsOut {dflt lo hi : Int} {offs : Array Int} {len : Nat} {x : Int32} (tgt : Nat) (hd : decode (q_mB i) pc = .ok (.tableswitch dflt lo hi offs, len)) (hx : x.toInt < lo ∨ hi < x.toInt) (ht : (pc : Int) + dflt = (tgt : Int)) (h : q_Ex X d i tgt als st M Q) : q_Ex X d i pc als (.int x :: st) M Q := by
  intro l ρ cA D p e R s m args below meth c cells slots Qw F H locs ls hP hS hl hk
  exact lv_tableOut F.1 F.2.1 hd hx ht (h l ρ cA D p e R s m args below meth c cells slots Qw F H locs ls hP hS hl hk)
theorem q_tsIn {dflt lo hi : Int} {offs : Array Int} {len : Nat} {x : Int32} {off : Int} (tgt : Nat) (hd : decode (q_mB i) pc = .ok (.tableswitch dflt lo hi offs, len)) (h1 : ¬ x.toInt < lo) (h2 : ¬ hi < x.toInt) (ho : offs[(x.toInt - lo).toNat]? = some off) (ht : (pc : Int) + off = (tgt : Int)) (h : q_Ex X d i tgt als st M Q) : q_Ex X d i pc als (.int x :: st) M Q := by
  intro l ρ cA D p e R s m args below meth c cells slots Qw F H locs ls hP hS hl hk
  exact lv_tableIn F.1 F.2.1 hd h1 h2 ho ht (h l ρ cA D p e R s m args below meth c cells slots Qw F H locs ls hP hS hl hk)
theorem q_forget (als2 : List (Option Value)) (ha : ∀ (k : Nat) (v : Value), als2[k]? = some (some v) → als[k]? = some (some v)) (h : q_Ex X d i pc als2 st M Q) : q_Ex X d i pc als st M Q := by
  intro l ρ cA D p e R s m args below meth c cells slots Qw F H locs ls hP hS hl hk
  refine h l ρ cA D p e R s m args below meth c cells slots Qw F H locs ls hP hS (q_lsub hl (fun q hq => ?_)) hk
  obtain ⟨k, v, h1, h2⟩ := (q_toL_mem ρ als2 0 q).mp hq
  exact (q_toL_mem ρ als 0 q).mpr ⟨k, v, ha k v h1, h2⟩
theorem q_mono {Q2 : Option Value → q_M → Prop} (h : q_Ex X d i pc als st M Q) (hq : ∀ v M, Q v M → Q2 v M) : q_Ex X d i pc als st M Q2 := by
  intro l ρ cA D p e R s m args below meth c cells slots Qw F H locs ls hP hS hl hk
  exact h l ρ cA D p e R s m args below meth c cells slots Qw F H locs ls hP hS hl (fun v M' H' locs' pc' ls' hQ => hk v M' H' locs' pc' ls' (hq v M' hQ))
theorem q_ireturn {x : Int32} (hd : decode (q_mB i) pc = .ok (.ireturn, 1)) (hr : q_mR i = some .int) (h : Q (some (.int x)) M) : q_Ex X d i pc als [.int x] M Q := by
  intro l ρ cA D p e R s m args below meth c cells slots Qw F H locs ls hP hS hl hk
  exact hk (some (.int x)) M H locs pc ls h hP hS (Or.inl ⟨x, rfl, hd, Or.inl hr⟩)
theorem q_zreturn {x : Int32} (hd : decode (q_mB i) pc = .ok (.ireturn, 1)) (hr : q_mR i = some .boolean) (hx : x = 0 ∨ x = 1) (h : Q (some (.int x)) M) : q_Ex X d i pc als [.int x] M Q := by
  intro l ρ cA D p e R s m args below meth c cells slots Qw F H locs ls hP hS hl hk
  exact hk (some (.int x)) M H locs pc ls h hP hS (Or.inl ⟨x, rfl, hd, Or.inr ⟨hr, hx⟩⟩)
theorem q_return (hd : decode (q_mB i) pc = .ok (.return_, 1)) (hr : q_mR i = none) (h : Q none M) : q_Ex X d i pc als [] M Q := by
  intro l ρ cA D p e R s m args below meth c cells slots Qw F H locs ls hP hS hl hk
  exact hk none M H locs pc ls h hP hS (Or.inr (Or.inl ⟨rfl, hd, hr⟩))
theorem q_areturn {k : Nat} {C : String} (hd : decode (q_mB i) pc = .ok (.areturn, 1)) (hr : q_mR i = some (.object C)) (h : Q (some (.ref k)) M) : q_Ex X d i pc als [.ref k] M Q := by
  intro l ρ cA D p e R s m args below meth c cells slots Qw F H locs ls hP hS hl hk
  exact hk (some (.ref k)) M H locs pc ls h hP hS (Or.inr (Or.inr ⟨k, C, rfl, hd, hr⟩))
/-! fields -/
def q_fok (i idx ci k : Nat) : Prop := ∃ (C : String) (T : u_T) (N : Nat), q_cl[ci]? = some (C, T, N) ∧ (∀ w ∈ u_ws C T N, w ∈ goodTbl) ∧ k < N ∧ (T k).1 = C ∧ Cond.fieldLink (q_mY i).cls idx C (T k).2.1 (T k).2.2.1 ∈ goodTbl
def q_pok (i idx ci k : Nat) (ty : FieldType) : Prop := ∃ (C : String) (T : u_T) (N : Nat) (ty0 : Nat → FieldType), q_cl[ci]? = some (C, T, N) ∧ (∀ w ∈ u_ws C T N, w ∈ goodTbl) ∧ k < N ∧ (T k).1 = C ∧ Cond.fieldLink (q_mY i).cls idx C (T k).2.1 (T k).2.2.1 ∈ goodTbl ∧ (∀ k, k < N → parseFieldDescriptor (T k).2.2.1 = some (ty0 k)) ∧ (∀ a, a < N → ∀ b, b < N → a ≠ b → (T a).2.1 ≠ (T b).2.1) ∧ (T k).2.2.2 = false ∧ ty0 k = ty
def q_vl (x : Int32) : Option Nat → Value
  | none => .int x
  | some t => .ref t
theorem q_get {idx ci k r : Nat} {fs : List (Option Nat)} {f : Option Nat} (hd : decode (q_mB i) pc = .ok (.getfield idx, 3)) (hf : q_fok i idx ci k) (hr : q_lay[r]? = some (.inl (ci, fs))) (hk' : fs[k]? = some f) (h : q_Ex X d i (pc + 3) als (q_vl (M r k) f :: st) M Q) : q_Ex X d i pc als (.ref r :: st) M Q := by
  intro l ρ cA D p e R s m args below meth c cells slots Qw F H locs ls hP hS hl hk
  have h := h l ρ cA D p e R s m args below meth c cells slots Qw F H locs ls hP hS hl hk
  obtain ⟨C, T, N, h1, h2, h3, h4, h5⟩ := hf
  refine va_get F.1 F.2.1 F.2.2.2.2.1 h2 F.2.2.2.1 F.2.2.2.2.2.2.1.1 hP r (q_wld_at hr) h1 k h3 (F.2.2.2.2.1 _ h5) (fun x hx => by rw [h4] at hx; exact hx) (v := q_rv ρ (q_vl (M r k) f)) ?_ hd h
  have := q_fv_get ρ (M r) fs 0 k f hk'
  rw [Nat.zero_add] at this
  rw [this]
  cases f <;> rfl
theorem q_getI {idx ci k r : Nat} {fs : List (Option Nat)} (hd : decode (q_mB i) pc = .ok (.getfield idx, 3)) (hf : q_fok i idx ci k) (hr : q_lay[r]? = some (.inl (ci, fs))) (hk' : fs[k]? = some none) (h : q_Ex X d i (pc + 3) als (.int (M r k) :: st) M Q) : q_Ex X d i pc als (.ref r :: st) M Q := q_get hd hf hr hk' h
theorem q_getR {idx ci k r t : Nat} {fs : List (Option Nat)} (hd : decode (q_mB i) pc = .ok (.getfield idx, 3)) (hf : q_fok i idx ci k) (hr : q_lay[r]? = some (.inl (ci, fs))) (hk' : fs[k]? = some (some t)) (h : q_Ex X d i (pc + 3) als (.ref t :: st) M Q) : q_Ex X d i pc als (.ref r :: st) M Q := q_get hd hf hr hk' h
theorem q_put {idx ci k r : Nat} {fs : List (Option Nat)} {x : Int32} {ty : FieldType} (hd : decode (q_mB i) pc = .ok (.putfield idx, 3)) (hf : q_pok i idx ci k ty) (hr : q_lay[r]? = some (.inl (ci, fs))) (hk' : fs[k]? = some none) (hn : narrow ty (.int x) = .int x) (hfit : fits ty (.int x) = true) (h : q_Ex X d i (pc + 3) als st (q_set M r k x) Q) : q_Ex X d i pc als (.int x :: .ref r :: st) M Q := by
  intro l ρ cA D p e R s m args below meth c cells slots Qw F H locs ls hP hS hl hk
  have h := h l ρ cA D p e R s m args below meth c cells slots Qw F
  obtain ⟨C, T, N, ty0, h1, h2, h3, h4, h5, h6, h7, h8, h9⟩ := hf
  refine va_put F.1 F.2.1 F.2.2.2.2.1 h2 ty0 h6 h7 F.2.2.2.1 F.2.2.2.2.2.2.1.1 hP (q_D F.2.2.2.2.2.2.2.2.2 cA M) hS r (q_wld_at hr) h1 k h3 (F.2.2.2.2.1 _ h5) (fun x hx => by rw [h4] at hx; exact hx) h8 (ty := ty) (by rw [h6 k h3, h9]) hn hfit (by rw [q_fv_len]; exact (List.getElem?_eq_some_iff.mp hk').1) hd (fun H1 locs1 hP1 _ hS1 => ?_)
  rw [q_wld_row (f := upd (M r) k x) hr (by
    show _ = Sum.inr (ci, q_fv ρ (q_row M r (upd (M r) k x) r) 0 fs)
    show Sum.inr (ci, (q_fv ρ (M r) 0 fs).set k (.int x)) = _
    rw [q_row_s, q_fv_set ρ (M r) x fs 0 k hk', Nat.zero_add])] at hP1
  exact h H1 locs1 ls hP1 hS1 hl hk
theorem q_putI {idx ci k r : Nat} {fs : List (Option Nat)} {x : Int32} (hd : decode (q_mB i) pc = .ok (.putfield idx, 3)) (hf : q_pok i idx ci k .int) (hr : q_lay[r]? = some (.inl (ci, fs))) (hk' : fs[k]? = some none) (h : q_Ex X d i (pc + 3) als st (q_set M r k x) Q) : q_Ex X d i pc als (.int x :: .ref r :: st) M Q := q_put hd hf hr hk' rfl rfl h
theorem q_putZ {idx ci k r : Nat} {fs : List (Option Nat)} {x : Int32} (hd : decode (q_mB i) pc = .ok (.putfield idx, 3)) (hf : q_pok i idx ci k .boolean) (hr : q_lay[r]? = some (.inl (ci, fs))) (hk' : fs[k]? = some none) (hx : x = 0 ∨ x = 1) (h : q_Ex X d i (pc + 3) als st (q_set M r k x) Q) : q_Ex X d i pc als (.int x :: .ref r :: st) M Q := q_put hd hf hr hk' (by rcases hx with rfl | rfl <;> decide) (by rcases hx with rfl | rfl <;> rfl) h
theorem q_gets {idx j : Nat} (hd : decode (q_mB i) pc = .ok (.getstatic idx, 3)) (hj : j < 3) (hw : Cond.fieldLink (q_mY i).cls idx "NeverCross" (q_sn j) "[I" ∈ goodTbl) (h : q_Ex X d i (pc + 3) als (.ref (1000 + j) :: st) M Q) : q_Ex X d i pc als st M Q := by
  intro l ρ cA D p e R s m args below meth c cells slots Qw F H locs ls hP hS hl hk
  exact va_gets F.1 F.2.1 (F.2.2.2.2.2.2.2.2.1.2 j hj) hS F.2.2.2.1 (F.2.2.2.2.1 _ hw) (fun x hx => hx) hd (h l ρ cA D p e R s m args below meth c cells slots Qw F H locs ls hP hS hl hk)
theorem q_getsN {idx j : Nat} (hd : decode (q_mB i) pc = .ok (.getstatic idx, 3)) (hj : j < 3) (hw : ∀ U, q_Nw U → va_Nw (.fieldLinkNest (q_mY i).cls idx "NeverCross" (q_sn j) "[I" "NeverCross") U) (h : q_Ex X d i (pc + 3) als (.ref (1000 + j) :: st) M Q) : q_Ex X d i pc als st M Q := by
  intro l ρ cA D p e R s m args below meth c cells slots Qw F H locs ls hP hS hl hk
  exact va_getsN F.1 F.2.1 (F.2.2.2.2.2.2.2.2.1.2 j hj) hS F.2.2.2.1 (va_Nw.use rfl (hw s F.2.2.2.2.2.2.2.1)) (fun x hx => hx) hd (h l ρ cA D p e R s m args below meth c cells slots Qw F H locs ls hP hS hl hk)
/-! arrays -/
theorem q_aty_i {r n : Nat} (hr : q_lay[r]? = some (.inr (.inl n))) : q_aty r = some .int := by unfold q_aty; rw [hr]
theorem q_iald {r n : Nat} {x : Int32} (hd : decode (q_mB i) pc = .ok (.iaload, 1)) (hr : q_lay[r]? = some (.inr (.inl n))) (hx : vp_in x n) (h : q_Ex X d i (pc + 1) als (.int (M r x.toNatClampNeg) :: st) M Q) : q_Ex X d i pc als (.int x :: .ref r :: st) M Q := by
  intro l ρ cA D p e R s m args below meth c cells slots Qw F H locs ls hP hS hl hk
  exact va_iald F.1 F.2.1 (F.2.2.2.2.2.2.1.2 r .int (q_aty_i hr)) hP r 0 (q_wld_at hr) rfl hx hd (h l ρ cA D p e R s m args below meth c cells slots Qw F H locs ls hP hS hl hk)
theorem q_iast {r n : Nat} {x y : Int32} (hd : decode (q_mB i) pc = .ok (.iastore, 1)) (hr : q_lay[r]? = some (.inr (.inl n))) (hx : vp_in x n) (h : q_Ex X d i (pc + 1) als st (q_set M r x.toNatClampNeg y) Q) : q_Ex X d i pc als (.int y :: .int x :: .ref r :: st) M Q := by
  intro l ρ cA D p e R s m args below meth c cells slots Qw F H locs ls hP hS hl hk
  have h := h l ρ cA D p e R s m args below meth c cells slots Qw F
  refine va_iast F.1 F.2.1 (F.2.2.2.2.2.2.1.2 r .int (q_aty_i hr)) hP (q_D F.2.2.2.2.2.2.2.2.2 cA M) hS r 0 (q_wld_at hr) rfl hx hd (fun H1 locs1 hP1 _ hS1 => ?_)
  rw [q_wld_row (f := upd (M r) x.toNatClampNeg y) hr (by
    show _ = Sum.inl (cA r, n, Sum.inl (q_row M r (upd (M r) x.toNatClampNeg y) r))
    rw [q_row_s])] at hP1
  exact h H1 locs1 ls hP1 hS1 hl hk
theorem q_alen {r n : Nat} {v : Int32} (hd : decode (q_mB i) pc = .ok (.arraylength, 1)) (hr : q_lay[r]? = some (.inr (.inl n))) (hv : Int32.ofNat n = v) (h : q_Ex X d i (pc + 1) als (.int v :: st) M Q) : q_Ex X d i pc als (.ref r :: st) M Q := by
  intro l ρ cA D p e R s m args below meth c cells slots Qw F H locs ls hP hS hl hk
  exact va_alen F.1 F.2.1 (F.2.2.2.2.2.2.1.2 r .int (q_aty_i hr)) hP r 0 (q_wld_at hr) rfl hv hd (h l ρ cA D p e R s m args below meth c cells slots Qw F H locs ls hP hS hl hk)
theorem q_alenR {r b n : Nat} {v : Int32} (hd : decode (q_mB i) pc = .ok (.arraylength, 1)) (hr : q_lay[r]? = some (.inr (.inr (b, n)))) (hv : Int32.ofNat n = v) (h : q_Ex X d i (pc + 1) als (.int v :: st) M Q) : q_Ex X d i pc als (.ref r :: st) M Q := by
  intro l ρ cA D p e R s m args below meth c cells slots Qw F H locs ls hP hS hl hk
  have ha : q_aty r = some (if b = 39 then .object "NeverCross$Law" else .array .int) := by unfold q_aty; rw [hr]
  exact va_alen F.1 F.2.1 (F.2.2.2.2.2.2.1.2 r _ ha) hP r 0 (q_wld_at hr) rfl hv hd (h l ρ cA D p e R s m args below meth c cells slots Qw F H locs ls hP hS hl hk)
theorem q_aald {r b n : Nat} {x : Int32} (hd : decode (q_mB i) pc = .ok (.aaload, 1)) (hr : q_lay[r]? = some (.inr (.inr (b, n)))) (hx : vp_in x n) (h : q_Ex X d i (pc + 1) als (.ref (b + x.toNatClampNeg) :: st) M Q) : q_Ex X d i pc als (.int x :: .ref r :: st) M Q := by
  intro l ρ cA D p e R s m args below meth c cells slots Qw F H locs ls hP hS hl hk
  have h := h l ρ cA D p e R s m args below meth c cells slots Qw F H locs ls hP hS hl hk
  have ha : q_aty r = some (if b = 39 then .object "NeverCross$Law" else .array .int) := by unfold q_aty; rw [hr]
  have hlt : x.toNatClampNeg < n := Nat.not_le.mp fun q => hx (Or.inr q)
  refine W.aald (v := .ref (ρ (b + x.toNatClampNeg))) F.1 F.2.1 (hP r _ (q_wld_at hr)) (((F.2.2.2.2.2.2.1.2 r _ ha).2 0 _ rfl).1 n (fun j => va_rf (some (ρ (b + j))))) (by split <;> rfl) (fun q => by cases q) (by show ¬ (x < 0 ∨ (arrV _ _ _).slots.size ≤ _); rw [arrV_size]; exact hx) (by show (arrV _ _ _).slots[_]? = _; rw [arrV_read _ _ hlt]; rfl) rfl rfl hd h
theorem q_rald {j : Nat} {x : Int32} (hd : decode (q_mB i) pc = .ok (.iaload, 1)) (hj : j < 4) (hx : vp_in x (q_rc X j).1) (h : q_Ex X d i (pc + 1) als (.int ((q_rc X j).2 x.toNatClampNeg) :: st) M Q) : q_Ex X d i pc als (.int x :: .ref (1000 + j) :: st) M Q := by
  intro l ρ cA D p e R s m args below meth c cells slots Qw F H locs ls hP hS hl hk
  exact va_ti F.1 F.2.1 (F.2.2.2.2.2.2.2.2.1.1 j hj) hS hx rfl hd (h l ρ cA D p e R s m args below meth c cells slots Qw F H locs ls hP hS hl hk)
theorem q_rlen {j : Nat} {v : Int32} (hd : decode (q_mB i) pc = .ok (.arraylength, 1)) (hj : j < 4) (hv : Int32.ofNat (q_rc X j).1 = v) (h : q_Ex X d i (pc + 1) als (.int v :: st) M Q) : q_Ex X d i pc als (.ref (1000 + j) :: st) M Q := by
  intro l ρ cA D p e R s m args below meth c cells slots Qw F H locs ls hP hS hl hk
  exact va_tlen F.1 F.2.1 (F.2.2.2.2.2.2.2.2.1.1 j hj) hS hv hd (h l ρ cA D p e R s m args below meth c cells slots Qw F H locs ls hP hS hl hk)
theorem q_copy {idx r t n0 n1 : Nat} {sp dp n : Int32} (hd : decode (q_mB i) pc = .ok (.invokestatic idx, 3)) (hw : Cond.methodLink (q_mY i).cls idx arraycopyName ∈ goodTbl) (hw2 : Cond.native arraycopyName ∈ goodTbl ∧ Cond.static arraycopyName ∈ goodTbl ∧ Cond.initialized "java/lang/System" ∈ goodTbl) (hr : q_lay[r]? = some (.inr (.inl n0))) (ht : q_lay[t]? = some (.inr (.inl n1))) (hsp : sp = 0) (hdp : dp = 0) (h3 : ¬ n < 0) (h4 : n.toNatClampNeg ≤ n0) (h5 : n.toNatClampNeg ≤ n1) (hst : (st.map fun v => v.category).sum ≤ 8) (h : q_Ex X d i (pc + 3) als st (q_row M t (va_cpy (M r) (M t) 0 0 n.toNatClampNeg)) Q) : q_Ex X d i pc als (.int n :: .int dp :: .ref t :: .int sp :: .ref r :: st) M Q := by
  intro l ρ cA D p e R s m args below meth c cells slots Qw F H locs ls hP hS hl hk
  have h := h l ρ cA D p e R s m args below meth c cells slots Qw F
  subst hsp
  subst hdp
  have hK2 : va_K D q_cl [(cA r, .int), (cA t, .int)] s := va_K.app (F.2.2.2.2.2.2.1.2 r .int (q_aty_i hr)) (F.2.2.2.2.2.2.1.2 t .int (q_aty_i ht))
  have hz : (0 : Int32).toNatClampNeg = 0 := rfl
  refine va_copyi F.1 F.2.1 (by rw [F.2.2.1, hl.1]) F.2.2.2.1 (F.2.2.2.2.1 _ hw) (F.2.2.2.2.1 _ hw2.1) (F.2.2.2.2.1 _ hw2.2.1) (F.2.2.2.2.1 _ hw2.2.2) hK2 hP (q_D F.2.2.2.2.2.2.2.2.2 cA M) hS r t 0 1 (q_wld_at hr) (q_wld_at ht) rfl rfl rfl (by decide) (by decide) h3 (by rw [hz]; omega) (by rw [hz]; omega) (fun _ _ => rfl) (by have := F.2.2.2.2.2.1.1; omega) (by
    rw [q_rv_sum]
    have h1 := F.2.2.2.2.2.1.2.1
    have h2 : nativeFrameWords "java/lang/System" "arraycopy" 5 ≤ 40 := by decide +kernel
    omega) hd (fun H1 locs1 hP1 _ hS1 => ?_)
  rw [hz, q_wld_row (f := va_cpy (M r) (M t) 0 0 n.toNatClampNeg) ht (by
    show _ = Sum.inl (cA t, n1, Sum.inl (q_row M t (va_cpy (M r) (M t) 0 0 n.toNatClampNeg) t))
    rw [q_row_s])] at hP1
  exact h H1 locs1 ls hP1 hS1 hl hk
end Rules
end
section

/-! calls -/
theorem q_good {w : Cond} (h : w ∈ goodTbl) : (w.onTables && w.keeps) = true ∨ ∃ ty, w = .arrayClass ty := good_of_word (List.mem_filter.mp h).2
theorem q_goodIn {ws : List Cond} (h : ∀ w ∈ ws, w ∈ goodTbl) : GoodIn goodTbl ws := fun w hw => ⟨h w hw, q_good (h w hw)⟩
def q_ent (n : Nat) (As : List Value) : List (Option Value) := As.map some ++ List.replicate (n - As.length) none
theorem q_toL_none (ρ : Nat → Nat) (n : Nat) : ∀ i, q_toL ρ i (List.replicate n none) = [] := by
  induction n with
  | zero => intro i; rfl
  | succ n ih => intro i; rw [List.replicate_succ]; exact ih (i + 1)
theorem q_toL_ent (ρ : Nat → Nat) (n : Nat) (As : List Value) (hc : ∀ v ∈ As, v.category = 1) : ∀ i, q_toL ρ i (As.map some ++ List.replicate n none) = lv_args i (As.map (q_rv ρ)) := by
  induction As with
  | nil => intro i; simpa [lv_args] using q_toL_none ρ n i
  | cons a r ih =>
    intro i
    have h1 : ¬ (q_rv ρ a).category = 2 := by rw [q_rv_cat, hc a List.mem_cons_self]; decide
    simp only [List.map_cons, List.cons_append, q_toL, lv_args, if_neg h1]
    rw [ih (fun v hv => hc v (List.mem_cons_of_mem _ hv))]
theorem q_sl_len (ρ : Nat → Nat) (As : List Value) (hc : ∀ v ∈ As, v.category = 1) : (lg_sl (As.map (q_rv ρ))).length = As.length := by
  induction As with
  | nil => rfl
  | cons a r ih =>
    have h1 : ¬ (q_rv ρ a).category = 2 := by rw [q_rv_cat, hc a List.mem_cons_self]; decide
    have h2 := ih (fun v hv => hc v (List.mem_cons_of_mem _ hv))
    unfold lg_sl at h2 ⊢
    simp only [List.map_cons, List.flatMap_cons, if_neg h1, List.length_append, h2, List.length_cons, List.length_nil]
    omega
theorem q_ent_lv (ρ : Nat → Nat) (n : Nat) (As : List Value) (hc : ∀ v ∈ As, v.category = 1) (hn : As.length ≤ n) : lv_has ((lg_sl (As.map (q_rv ρ)) ++ List.replicate (n - (lg_sl (As.map (q_rv ρ))).length) Slot.unset).toArray) n (q_toL ρ 0 (q_ent n As)) := by
  unfold q_ent
  rw [q_toL_ent ρ _ As hc]
  exact lv_entry (As.map (q_rv ρ)) (by rw [q_sl_len ρ As hc]; exact hn)
def q_Pc (X : Nat × (Nat → Int32)) (ρ : Nat → Nat) (cA : Nat → ClassId) (D : va_G) (As : List Value) (M : q_M) : Array Value → State → Prop := va_Pc (As.map (q_rv ρ)) (fun U => va_P D q_cl (q_wld ρ cA M) U.heap ∧ q_K cA D U ∧ q_Nw U ∧ q_Ro ρ X U U.heap)
def q_Qc (ρ : Nat → Nat) (cA : Nat → ClassId) (D : va_G) (Q : Option Value → q_M → Prop) : Array Value → State → Outcome → State → Prop := fun _ st oc t => (∃ v M', oc = .returned (v.map (q_rv ρ)) ∧ Q v M' ∧ va_P D q_cl (q_wld ρ cA M') t.heap) ∧ va_F (q_A ρ) st t
abbrev q_rm (d : Nat) : Room := { frames := d + 2, cells := 0, slots := 0, locals := 40 * (d + 2) }
abbrev q_ws (j : Nat) : List Cond := Cond.code (q_mY j) (q_mB j) (q_mL j) (q_mR j) :: goodTbl
theorem q_blind {X : Nat × (Nat → Int32)} {ρ : Nat → Nat} {cA : Nat → ClassId} {D : va_G} {As : List Value} {M : q_M} : FrameBlind (q_Pc X ρ cA D As M) := by
  intro a U g mk q
  obtain ⟨h1, h2, h3, h4, h5⟩ := q
  exact ⟨h1, h2, q_K.moved (u := U) (U := U.calling g mk a) (Vm.Alike.refl U.vm) h3, q_Nw.same (u := U) (U := U.calling g mk a) rfl h4, q_Ro.moved (u := U) (U := U.calling g mk a) (Vm.Alike.refl U.vm) h5⟩
theorem q_met {X : Nat × (Nat → Int32)} {d j : Nat} {As : List Value} {M : q_M} {Q : Option Value → q_M → Prop} (h : q_Ex X d j 0 (q_ent (q_mL j) As) [] M Q) (hcat : ∀ v ∈ As, v.category = 1) (hlen : As.length ≤ q_mL j) (hpn : plainName (q_mY j).cls = true) (l : Launch) (ρ : Nat → Nat) (cA : Nat → ClassId) (D : va_G) (hinj : q_inj ρ) :
    Met l (q_mY j) (q_ws j) (q_rm d) (q_Pc X ρ cA D As M) (q_Qc ρ cA D Q) 0 0 (q_A ρ) := by
  refine Met.ofW (cc := q_mB j) (maxL := q_mL j) (ret := q_mR j) hpn rfl ?_
  intro p e s m args below meth c s₁ B hml hv
  obtain ⟨rfl, hP, hK, hN, hRo⟩ := hv
  have hx := B.exec
  have hb := B.bytes
  have hr := B.returns
  have hts := atoms_spec (ws := q_ws j) B.pre
  have hown : s.vm.findClass (q_mY j).cls = some m.cls := findClass_of_methodNamed B.named
  have hlocks := B.notSynchronized
  rw [lg_entry_eq]
  refine h l ρ cA D p e _ s m _ below meth c 0 0 _ ⟨hx, hb, hml, hown, fun w hw => hts w (List.mem_cons_of_mem _ hw), ⟨Nat.le_refl _, Nat.le_refl _, Nat.le_refl _, Nat.le_refl _⟩, hK, hN, hRo, hinj⟩ s.heap [] _ hP va_S.rf (q_ent_lv ρ (q_mL j) As hcat hlen) ?_
  intro v M' H' locs' pc' ls' hQ hP' hS' hrt
  rcases hrt with ⟨x, rfl, hd, hr'⟩ | ⟨rfl, hd, hr'⟩ | ⟨k, C, rfl, hd, hr'⟩
  · rcases hr' with hr' | ⟨hr', h01⟩
    · exact W.iret hx hb (hr.trans hr') (fun t ht _ => ⟨⟨_, M', rfl, hQ, by rw [ht]; exact hP'⟩, hS'.F ht⟩) hS'.2.2 hd hlocks
    · exact W.zret hx hb (hr.trans hr') (by rcases h01 with rfl | rfl <;> decide) (fun t ht _ => ⟨⟨_, M', rfl, hQ, by rw [ht]; exact hP'⟩, hS'.F ht⟩) hS'.2.2 hd hlocks
  · exact W.vret hx hb (hr.trans hr') (fun t ht _ => ⟨⟨_, M', rfl, hQ, by rw [ht]; exact hP'⟩, hS'.F ht⟩) hS'.2.2 hd hlocks
  · exact W.aret hx hb (hr.trans hr') (Or.inl ⟨C, rfl⟩) (Or.inr ⟨ρ k, rfl⟩) (fun t ht _ => ⟨⟨_, M', rfl, hQ, by rw [ht]; exact hP'⟩, hS'.F ht⟩) hS'.2.2 hd hlocks
theorem q_fin {p : Program} {l : Launch} {e : Env} {R : Room} {s : State} {m : MethodId} {args : Array Value} {below : List Frame} {meth : Method} {c : Code} {H : Heap} {locs : List Loc} {cells slots : Nat} {Qw : State → Prop} {pc : Nat} {ls : Array Slot} {st0 rest : List Value} {a : Array Value} {ρ : Nat → Nat} {cA : Nat → ClassId} {D : va_G} {Q : Option Value → q_M → Prop}
    (hr : va_Run p l e R s m args below meth c H locs cells slots 0 0 (F0 m pc ls st0) rest (q_Qc ρ cA D Q a) (q_A ρ)) (hS : va_S (q_A ρ) s.heap H locs)
    (kk : ∀ (v : Option Value) (M' : q_M) (H1 : Heap) (locs1 : List Loc), Q v M' → va_P D q_cl (q_wld ρ cA M') H1 → va_S (q_A ρ) s.heap H1 locs1 → W p l e R s m args below meth c H1 locs1 cells slots Qw (F0 m (pc + 3) ls ((v.map (q_rv ρ)).toList ++ rest))) :
    W p l e R s m args below meth c H locs cells slots Qw (F0 m pc ls st0) := by
  intro T hT X
  obtain ⟨v, st₀, t, T', L, h0, X', hL, e1, e2, ⟨⟨w, M', hv, hq, hp⟩, hz, hk⟩, st⟩ := hr T hT X
  have hv' : v = w.map (q_rv ρ) := Outcome.returned.inj hv
  subst hv'
  rw [h0] at hz hk
  obtain ⟨t2, a1, b1⟩ := kk w M' T'.heap (locs ++ L) hq (by rw [e1]; exact hp)
    ⟨Nat.le_trans hS.1 (by rw [e1]; exact hz), fun q h1 h2 => by rw [e1, hk q (Nat.lt_of_lt_of_le h1 hS.1) h2]; exact hS.2.1 q h1 h2, fun q hq => by
      rcases List.mem_append.mp hq with h | h
      · exact hS.2.2 q h
      · exact hL q h⟩ T' rfl X'
  exact ⟨t2, st t2 a1, b1⟩
/-- what is known of a method as a callee -/
def q_okM (j np : Nat) : Prop := plainName (q_mY j).cls = true ∧ Cond.code (q_mY j) (q_mB j) (q_mL j) (q_mR j) ∈ goodTbl ∧ Cond.initialized (q_mY j).cls ∈ goodTbl ∧ ((q_mY j).cls ≠ "java/lang/invoke/MethodHandle" ∧ (q_mY j).cls ≠ "java/lang/invoke/VarHandle" ∧ (parseMethodDescriptor (q_mY j).desc).map (fun d => d.parameters.length) = some np) ∧ q_mL j ≤ 21
def q_okV (j np ci : Nat) : Prop := (∃ (T : u_T) (N : Nat), q_cl[ci]? = some ((q_mY j).cls, T, N)) ∧ q_okM j np ∧ Cond.instanceMethod (q_mY j) ∈ goodTbl ∧ Cond.selects (q_mY j).cls (q_mY j) (q_mY j) ∈ goodTbl ∧ np + 1 ≤ q_mL j
def q_okS (j np : Nat) : Prop := q_okM j np ∧ Cond.static (q_mY j) ∈ goodTbl ∧ np ≤ q_mL j
theorem q_wsIn {j np : Nat} (h : q_okM j np) : ∀ w ∈ q_ws j, w ∈ goodTbl := fun w hw => (List.mem_cons.mp hw).elim (fun e => by rw [e]; exact h.2.1) id
section Calls
variable {X : Nat × (Nat → Int32)} {d i pc : Nat} {als : List (Option Value)} {st : List Value} {M : q_M} {Q Q2 : Option Value → q_M → Prop}
theorem q_rvApp (ρ : Nat → Nat) (v : Option Value) (st : List Value) : (v.map (q_rv ρ)).toList ++ st.map (q_rv ρ) = (v.toList ++ st).map (q_rv ρ) := by cases v <;> simp
theorem q_invV {idx np j ci r : Nat} {As st0 : List Value} {fs : List (Option Nat)} (hd : decode (q_mB i) pc = .ok (.invokevirtual idx, 3)) (hlk : Cond.methodLink (q_mY i).cls idx (q_mY j) ∈ goodTbl) (hj : q_okV j np ci) (hr : q_lay[r]? = some (.inl (ci, fs))) (hn : As.length = np) (hst : st0 = As.reverse ++ .ref r :: st) (hcat : ∀ v ∈ As, v.category = 1) (hsum : (st.map fun v => v.category).sum ≤ 8) (hd0 : 0 < d)
    (h : q_Ex X (d - 1) j 0 (q_ent (q_mL j) (.ref r :: As)) [] M Q2) (kk : ∀ v M', Q2 v M' → q_Ex X d i (pc + 3) als (v.toList ++ st) M' Q) : q_Ex X d i pc als st0 M Q := by
  intro l ρ cA D p e R s m args below meth c cells slots Qw F H locs ls hP hS hl hk
  obtain ⟨hx, hb, hml, hown, hts, ⟨f1, f2, f3, f4⟩, hK, hN, hRo, hinj⟩ := id F
  obtain ⟨⟨T, N, hcl⟩, hjm, hin, hsel, hnL⟩ := hj
  subst hst
  have hcat' : ∀ v ∈ (Value.ref r :: As), v.category = 1 := fun v hv => (List.mem_cons.mp hv).elim (fun e => by rw [e]; rfl) (hcat v)
  have hM := q_met h hcat' (by simp [hn]; exact hnL) hjm.1 l ρ cA D hinj
  have hG : GoodIn goodTbl (wsV (q_mY i).cls idx (q_mY j).cls (q_mY j) (q_ws j)) := q_goodIn (fun w hw => by
    unfold wsV at hw
    rcases List.mem_append.mp hw with h1 | h1
    · simp only [List.mem_cons, List.not_mem_nil, or_false] at h1
      rcases h1 with rfl | rfl | rfl | rfl
      · exact hlk
      · exact hin
      · exact hsel
      · exact hjm.2.2.1
    · exact q_wsIn hjm w h1)
  have hL := hjm.2.2.2.2
  refine q_fin (va_runV (As := As.map (q_rv ρ)) (rest := st.map (q_rv ρ)) (b := ρ r) ⟨hx, hb, hml, hown, hts⟩ hM (cwV np hts hG rfl rfl rfl ⟨rfl, hjm.2.2.2.1⟩ ⟨by show d - 1 + 2 + 1 ≤ R.frames; omega, by show 8 + (q_mL j + 11) + 40 * (d - 1 + 2) ≤ R.locals; omega⟩) ⟨q_blind, va_recv hK.1 hP hcl (q_wld_at hr), fun U hU hW => ⟨rfl, by rw [hU]; exact hP, q_K.moved hW.alike hK, q_Nw.warm hW hN, by rw [hU]; exact q_Ro.moved hW.alike (q_Ro.kept hRo hS.2.1)⟩⟩ rfl (by rw [List.length_map]; exact hn) hl.1 (by simp [q_rv]) (lv_room (by rw [q_rv_sum]; exact hsum)) hd ⟨f3, f4⟩) hS (fun v M' H1 locs1 hQ hP1 hS1 => ?_)
  rw [q_rvApp]
  exact kk v M' hQ l ρ cA D p e R s m args below meth c cells slots Qw F H1 locs1 ls hP1 hS1 hl hk
theorem q_invS {idx np j : Nat} {As st0 : List Value} (hd : decode (q_mB i) pc = .ok (.invokestatic idx, 3)) (hlk : Cond.methodLink (q_mY i).cls idx (q_mY j) ∈ goodTbl) (hj : q_okS j np) (hn : As.length = np) (hst : st0 = As.reverse ++ st) (hcat : ∀ v ∈ As, v.category = 1) (hsum : (st.map fun v => v.category).sum ≤ 8) (hd0 : 0 < d)
    (h : q_Ex X (d - 1) j 0 (q_ent (q_mL j) As) [] M Q2) (kk : ∀ v M', Q2 v M' → q_Ex X d i (pc + 3) als (v.toList ++ st) M' Q) : q_Ex X d i pc als st0 M Q := by
  intro l ρ cA D p e R s m args below meth c cells slots Qw F H locs ls hP hS hl hk
  obtain ⟨hx, hb, hml, hown, hts, ⟨f1, f2, f3, f4⟩, hK, hN, hRo, hinj⟩ := id F
  obtain ⟨hjm, hstt, hnL⟩ := hj
  subst hst
  have hM := q_met h hcat (by rw [hn]; exact hnL) hjm.1 l ρ cA D hinj
  have hG : GoodIn goodTbl (va_wsS (q_mY i).cls idx (q_mY j) (q_ws j)) := q_goodIn (fun w hw => by
    unfold va_wsS at hw
    rcases List.mem_append.mp hw with h1 | h1
    · simp only [List.mem_cons, List.not_mem_nil, or_false] at h1
      rcases h1 with rfl | rfl | rfl
      · exact hlk
      · exact hstt
      · exact hjm.2.2.1
    · exact q_wsIn hjm w h1)
  have hL := hjm.2.2.2.2
  refine q_fin (va_runS (As := As.map (q_rv ρ)) (rest := st.map (q_rv ρ)) ⟨hx, hb, hml, hown, hts⟩ hM (va_cwS np hts hG rfl rfl rfl hjm.2.2.2.1 ⟨by show d - 1 + 2 + 1 ≤ R.frames; omega, by show 8 + (q_mL j + 11) + 40 * (d - 1 + 2) ≤ R.locals; omega⟩) ⟨q_blind, fun U hU hW => ⟨rfl, by rw [hU]; exact hP, q_K.moved hW.alike hK, q_Nw.warm hW hN, by rw [hU]; exact q_Ro.moved hW.alike (q_Ro.kept hRo hS.2.1)⟩⟩ rfl (by rw [List.length_map]; exact hn) hl.1 (by simp) (lv_room (by rw [q_rv_sum]; exact hsum)) hd ⟨f3, f4⟩) hS (fun v M' H1 locs1 hQ hP1 hS1 => ?_)
  rw [q_rvApp]
  exact kk v M' hQ l ρ cA D p e R s m args below meth c cells slots Qw F H1 locs1 ls hP1 hS1 hl hk
theorem q_invSN {idx np j : Nat} {As st0 : List Value} (hd : decode (q_mB i) pc = .ok (.invokestatic idx, 3)) (hlk : ∀ U, q_Nw U → va_Nw (.methodLinkNest (q_mY i).cls idx (q_mY j) "NeverCross") U) (hj : q_okS j np) (hn : As.length = np) (hst : st0 = As.reverse ++ st) (hcat : ∀ v ∈ As, v.category = 1) (hsum : (st.map fun v => v.category).sum ≤ 8) (hd0 : 0 < d)
    (h : q_Ex X (d - 1) j 0 (q_ent (q_mL j) As) [] M Q2) (kk : ∀ v M', Q2 v M' → q_Ex X d i (pc + 3) als (v.toList ++ st) M' Q) : q_Ex X d i pc als st0 M Q := by
  intro l ρ cA D p e R s m args below meth c cells slots Qw F H locs ls hP hS hl hk
  obtain ⟨hx, hb, hml, hown, hts, ⟨f1, f2, f3, f4⟩, hK, hN, hRo, hinj⟩ := id F
  obtain ⟨hjm, hstt, hnL⟩ := hj
  subst hst
  have hM := q_met h hcat (by rw [hn]; exact hnL) hjm.1 l ρ cA D hinj
  have hL := hjm.2.2.2.2
  refine q_fin (va_runSN (As := As.map (q_rv ρ)) (rest := st.map (q_rv ρ)) ⟨hx, hb, hml, hown, hts⟩ hM ⟨va_cnB np hts (q_goodIn (q_wsIn hjm)) rfl rfl rfl (hlk s hN) (hts _ hjm.2.2.1) hjm.2.2.2.1 ⟨by show d - 1 + 2 + 1 ≤ R.frames; omega, by show 8 + (q_mL j + 11) + 40 * (d - 1 + 2) ≤ R.locals; omega⟩, hts _ hstt, trivial⟩ ⟨q_blind, fun U hU hW => ⟨rfl, by rw [hU]; exact hP, q_K.moved hW.alike hK, q_Nw.warm hW hN, by rw [hU]; exact q_Ro.moved hW.alike (q_Ro.kept hRo hS.2.1)⟩⟩ rfl (by rw [List.length_map]; exact hn) hl.1 (by simp) (lv_room (by rw [q_rv_sum]; exact hsum)) hd ⟨f3, f4⟩) hS (fun v M' H1 locs1 hQ hP1 hS1 => ?_)
  rw [q_rvApp]
  exact kk v M' hQ l ρ cA D p e R s m args below meth c cells slots Qw F H1 locs1 ls hP1 hS1 hl hk
/-- a call by a name that another class's method answers -/
def q_okU (i idx j np ci : Nat) : Prop := ∃ (C owner : String) (T : u_T) (N : Nat) (x : MethodName), q_cl[ci]? = some (C, T, N) ∧ q_okM j np ∧ np + 1 ≤ q_mL j ∧ (owner ≠ "java/lang/invoke/MethodHandle" ∧ owner ≠ "java/lang/invoke/VarHandle" ∧ (parseMethodDescriptor x.desc).map (fun d => d.parameters.length) = some np) ∧ (∀ w ∈ ([.methodLink (q_mY i).cls idx x, .sameMethod x.cls owner x.name x.desc, .selects C x (q_mY j), .instanceMethod (q_mY j), .initialized (q_mY j).cls] : List Cond), w ∈ goodTbl) ∧
  ∀ s : State, ∀ args : Array Value, (∀ w ∈ goodTbl, w.before args s = true) → q_Nw s → va_Decl s ⟨owner, x.name, x.desc⟩
theorem q_invU {idx np j ci r : Nat} {As st0 : List Value} {fs : List (Option Nat)} (hd : decode (q_mB i) pc = .ok (.invokevirtual idx, 3)) (hj : q_okU i idx j np ci) (hr : q_lay[r]? = some (.inl (ci, fs))) (hn : As.length = np) (hst : st0 = As.reverse ++ .ref r :: st) (hcat : ∀ v ∈ As, v.category = 1) (hsum : (st.map fun v => v.category).sum ≤ 8) (hd0 : 0 < d)
    (h : q_Ex X (d - 1) j 0 (q_ent (q_mL j) (.ref r :: As)) [] M Q2) (kk : ∀ v M', Q2 v M' → q_Ex X d i (pc + 3) als (v.toList ++ st) M' Q) : q_Ex X d i pc als st0 M Q := by
  intro l ρ cA D p e R s m args below meth c cells slots Qw F H locs ls hP hS hl hk
  obtain ⟨hx, hb, hml, hown, hts, ⟨f1, f2, f3, f4⟩, hK, hN, hRo, hinj⟩ := id F
  obtain ⟨C, owner, T, N, x, hcl, hjm, hnL, hde, hw, hdecl⟩ := hj
  subst hst
  have hcat' : ∀ v ∈ (Value.ref r :: As), v.category = 1 := fun v hv => (List.mem_cons.mp hv).elim (fun e => by rw [e]; rfl) (hcat v)
  have hM := q_met h hcat' (by simp [hn]; exact hnL) hjm.1 l ρ cA D hinj
  have hL := hjm.2.2.2.2
  have ok : ∀ w ∈ ([.methodLink (q_mY i).cls idx x, .sameMethod x.cls owner x.name x.desc, .selects C x (q_mY j), .instanceMethod (q_mY j), .initialized (q_mY j).cls] : List Cond), w.before args s = true := fun w h => hts w (hw w h)
  have hcu : va_CU R s args (q_mY i).cls C owner idx x (q_mY j) (q_mB j) (q_mL j) (q_mR j) (q_ws j) (q_rm (d - 1)) 0 0 np := by
    refine ⟨⟨rfl, rfl, by show d - 1 + 2 + 1 ≤ R.frames; omega, by show 8 + (q_mL j + 11) + 40 * (d - 1 + 2) ≤ R.locals; omega, pay_in hts (q_goodIn (q_wsIn hjm)), List.mem_cons_self⟩, hts _ hjm.2.1, hts _ hjm.2.2.1, ⟨hde.1, hde.2.1⟩, fun sig h => ?_, ok _ (by simp), ok _ (by simp), hdecl s args hts hN, ok _ (by simp), ok _ (by simp)⟩
    have h2 := hde.2.2
    rw [h] at h2
    exact (Option.some.inj h2).symm
  refine q_fin (va_runU (As := As.map (q_rv ρ)) (rest := st.map (q_rv ρ)) (b := ρ r) ⟨hx, hb, hml, hown, hts⟩ hM hcu ⟨q_blind, va_recv hK.1 hP hcl (q_wld_at hr), fun U hU hW => ⟨rfl, by rw [hU]; exact hP, q_K.moved hW.alike hK, q_Nw.warm hW hN, by rw [hU]; exact q_Ro.moved hW.alike (q_Ro.kept hRo hS.2.1)⟩⟩ rfl (by rw [List.length_map]; exact hn) hl.1 (by simp [q_rv]) (lv_room (by rw [q_rv_sum]; exact hsum)) hd ⟨f3, f4⟩) hS (fun v M' H1 locs1 hQ hP1 hS1 => ?_)
  rw [q_rvApp]
  exact kk v M' hQ l ρ cA D p e R s m args below meth c cells slots Qw F H1 locs1 ls hP1 hS1 hl hk
end Calls
/-! judgements by the kind of answer -/
def q_ri (K : Int32 → q_M → Prop) : Option Value → q_M → Prop := fun v M => ∃ r, v = some (.int r) ∧ K r M
def q_rn (K : q_M → Prop) : Option Value → q_M → Prop := fun v M => v = none ∧ K M
def q_rr (K : Nat → q_M → Prop) : Option Value → q_M → Prop := fun v M => ∃ r, v = some (.ref r) ∧ K r M
def q_Ci (X : Nat × (Nat → Int32)) (d j : Nat) (As : List Value) (M : q_M) (K : Int32 → q_M → Prop) : Prop := q_Ex X d j 0 (q_ent (q_mL j) As) [] M (q_ri K)
def q_Cv (X : Nat × (Nat → Int32)) (d j : Nat) (As : List Value) (M : q_M) (K : q_M → Prop) : Prop := q_Ex X d j 0 (q_ent (q_mL j) As) [] M (q_rn K)
def q_Cr (X : Nat × (Nat → Int32)) (d j : Nat) (As : List Value) (M : q_M) (K : Nat → q_M → Prop) : Prop := q_Ex X d j 0 (q_ent (q_mL j) As) [] M (q_rr K)
theorem q_Ci.mono {X : Nat × (Nat → Int32)} {d j : Nat} {As : List Value} {M : q_M} {K K2 : Int32 → q_M → Prop} (h : q_Ci X d j As M K) (hk : ∀ r M, K r M → K2 r M) : q_Ci X d j As M K2 := q_mono h (fun _ _ ⟨r, e, h⟩ => ⟨r, e, hk _ _ h⟩)
theorem q_Cv.mono {X : Nat × (Nat → Int32)} {d j : Nat} {As : List Value} {M : q_M} {K K2 : q_M → Prop} (h : q_Cv X d j As M K) (hk : ∀ M, K M → K2 M) : q_Cv X d j As M K2 := q_mono h (fun _ _ ⟨e, h⟩ => ⟨e, hk _ h⟩)
theorem q_Cr.mono {X : Nat × (Nat → Int32)} {d j : Nat} {As : List Value} {M : q_M} {K K2 : Nat → q_M → Prop} (h : q_Cr X d j As M K) (hk : ∀ r M, K r M → K2 r M) : q_Cr X d j As M K2 := q_mono h (fun _ _ ⟨r, e, h⟩ => ⟨r, e, hk _ _ h⟩)
end
