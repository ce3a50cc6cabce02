section
-- ===== PART A: goes FIRST, ahead of the names: the tables' words, and 'selects' of the private methods out of them =====
/-- a private method of a class that the tables say can be made, by its rows of tables_1 -/
def lw_okq (q : MethodName × Nat) : Prop := (q.1.cls ≠ "java/lang/invoke/MethodHandle" ∧ q.1.cls ≠ "java/lang/invoke/VarHandle") ∧ Cond.instantiable q.1.cls q.2 ∈ tables_1 ∧ Cond.privateMethod q.1 ∈ tables_1 ∧ Cond.instanceMethod q.1 ∈ tables_1
theorem lw_p0 : lw_okq (⟨"NeverCross", "refuse", "(I)I"⟩, 17) := ⟨⟨by decide +kernel, by decide +kernel⟩, List.mem_of_getElem? (i := 19) (by decide +kernel), List.mem_of_getElem? (i := 322) (by decide +kernel), List.mem_of_getElem? (i := 323) (by decide +kernel)⟩
theorem lw_p1 : lw_okq (⟨"NeverCross$Slope", "wipe", "()V"⟩, 12) := ⟨⟨by decide +kernel, by decide +kernel⟩, List.mem_of_getElem? (i := 27) (by decide +kernel), List.mem_of_getElem? (i := 334) (by decide +kernel), List.mem_of_getElem? (i := 335) (by decide +kernel)⟩
theorem lw_p2 : lw_okq (⟨"NeverCross$Slope", "endRow", "()Z"⟩, 12) := ⟨⟨by decide +kernel, by decide +kernel⟩, List.mem_of_getElem? (i := 27) (by decide +kernel), List.mem_of_getElem? (i := 344) (by decide +kernel), List.mem_of_getElem? (i := 345) (by decide +kernel)⟩
theorem lw_p3 : lw_okq (⟨"NeverCross$Slope", "addCell", "(I)Z"⟩, 12) := ⟨⟨by decide +kernel, by decide +kernel⟩, List.mem_of_getElem? (i := 27) (by decide +kernel), List.mem_of_getElem? (i := 348) (by decide +kernel), List.mem_of_getElem? (i := 349) (by decide +kernel)⟩
theorem lw_p4 : lw_okq (⟨"NeverCross$Slope", "put", "(III)Z"⟩, 12) := ⟨⟨by decide +kernel, by decide +kernel⟩, List.mem_of_getElem? (i := 27) (by decide +kernel), List.mem_of_getElem? (i := 352) (by decide +kernel), List.mem_of_getElem? (i := 353) (by decide +kernel)⟩
theorem lw_p5 : lw_okq (⟨"NeverCross$Slope", "putOnce", "(II[I)Z"⟩, 12) := ⟨⟨by decide +kernel, by decide +kernel⟩, List.mem_of_getElem? (i := 27) (by decide +kernel), List.mem_of_getElem? (i := 356) (by decide +kernel), List.mem_of_getElem? (i := 357) (by decide +kernel)⟩
theorem lw_p6 : lw_okq (⟨"NeverCross$Slope", "pairDoors", "()Z"⟩, 12) := ⟨⟨by decide +kernel, by decide +kernel⟩, List.mem_of_getElem? (i := 27) (by decide +kernel), List.mem_of_getElem? (i := 360) (by decide +kernel), List.mem_of_getElem? (i := 361) (by decide +kernel)⟩
theorem lw_p7 : lw_okq (⟨"NeverCross", "hasSlope", "()Z"⟩, 17) := ⟨⟨by decide +kernel, by decide +kernel⟩, List.mem_of_getElem? (i := 19) (by decide +kernel), List.mem_of_getElem? (i := 404) (by decide +kernel), List.mem_of_getElem? (i := 405) (by decide +kernel)⟩
theorem lw_p8 : lw_okq (⟨"NeverCross", "familiesByLaw", "()I"⟩, 17) := ⟨⟨by decide +kernel, by decide +kernel⟩, List.mem_of_getElem? (i := 19) (by decide +kernel), List.mem_of_getElem? (i := 444) (by decide +kernel), List.mem_of_getElem? (i := 445) (by decide +kernel)⟩
theorem lw_p9 : lw_okq (⟨"NeverCross", "studyNow", "()LNeverCross$Study;"⟩, 17) := ⟨⟨by decide +kernel, by decide +kernel⟩, List.mem_of_getElem? (i := 19) (by decide +kernel), List.mem_of_getElem? (i := 448) (by decide +kernel), List.mem_of_getElem? (i := 449) (by decide +kernel)⟩
theorem lw_p10 : lw_okq (⟨"NeverCross$Ways", "goOn", "(IIII)V"⟩, 5) := ⟨⟨by decide +kernel, by decide +kernel⟩, List.mem_of_getElem? (i := 170) (by decide +kernel), List.mem_of_getElem? (i := 458) (by decide +kernel), List.mem_of_getElem? (i := 459) (by decide +kernel)⟩
theorem lw_p11 : lw_okq (⟨"NeverCross$Ways", "note", "(III)V"⟩, 5) := ⟨⟨by decide +kernel, by decide +kernel⟩, List.mem_of_getElem? (i := 170) (by decide +kernel), List.mem_of_getElem? (i := 463) (by decide +kernel), List.mem_of_getElem? (i := 464) (by decide +kernel)⟩
theorem lw_p12 : lw_okq (⟨"NeverCross$Study", "choose", "(IIII)V"⟩, 9) := ⟨⟨by decide +kernel, by decide +kernel⟩, List.mem_of_getElem? (i := 201) (by decide +kernel), List.mem_of_getElem? (i := 472) (by decide +kernel), List.mem_of_getElem? (i := 473) (by decide +kernel)⟩
theorem lw_p13 : lw_okq (⟨"NeverCross$Study", "meet", "(III)V"⟩, 9) := ⟨⟨by decide +kernel, by decide +kernel⟩, List.mem_of_getElem? (i := 201) (by decide +kernel), List.mem_of_getElem? (i := 476) (by decide +kernel), List.mem_of_getElem? (i := 477) (by decide +kernel)⟩
theorem lw_p14 : lw_okq (⟨"NeverCross$Study", "note", "(II)V"⟩, 9) := ⟨⟨by decide +kernel, by decide +kernel⟩, List.mem_of_getElem? (i := 201) (by decide +kernel), List.mem_of_getElem? (i := 481) (by decide +kernel), List.mem_of_getElem? (i := 482) (by decide +kernel)⟩
theorem lw_p15 : lw_okq (⟨"NeverCross$Study", "doorsPickedThrough", "(I)I"⟩, 9) := ⟨⟨by decide +kernel, by decide +kernel⟩, List.mem_of_getElem? (i := 201) (by decide +kernel), List.mem_of_getElem? (i := 488) (by decide +kernel), List.mem_of_getElem? (i := 489) (by decide +kernel)⟩
def lw_privs_1 : List (MethodName × Nat) := [(⟨"NeverCross", "refuse", "(I)I"⟩, 17), (⟨"NeverCross$Slope", "wipe", "()V"⟩, 12), (⟨"NeverCross$Slope", "endRow", "()Z"⟩, 12), (⟨"NeverCross$Slope", "addCell", "(I)Z"⟩, 12), (⟨"NeverCross$Slope", "put", "(III)Z"⟩, 12), (⟨"NeverCross$Slope", "putOnce", "(II[I)Z"⟩, 12), (⟨"NeverCross$Slope", "pairDoors", "()Z"⟩, 12), (⟨"NeverCross", "hasSlope", "()Z"⟩, 17), (⟨"NeverCross", "familiesByLaw", "()I"⟩, 17), (⟨"NeverCross", "studyNow", "()LNeverCross$Study;"⟩, 17), (⟨"NeverCross$Ways", "goOn", "(IIII)V"⟩, 5), (⟨"NeverCross$Ways", "note", "(III)V"⟩, 5), (⟨"NeverCross$Study", "choose", "(IIII)V"⟩, 9), (⟨"NeverCross$Study", "meet", "(III)V"⟩, 9), (⟨"NeverCross$Study", "note", "(II)V"⟩, 9), (⟨"NeverCross$Study", "doorsPickedThrough", "(I)I"⟩, 9)]
theorem lw_r1 : ∀ q ∈ lw_privs_1, lw_okq q := List.forall_mem_cons.mpr ⟨lw_p0, List.forall_mem_cons.mpr ⟨lw_p1, List.forall_mem_cons.mpr ⟨lw_p2, List.forall_mem_cons.mpr ⟨lw_p3, List.forall_mem_cons.mpr ⟨lw_p4, List.forall_mem_cons.mpr ⟨lw_p5, List.forall_mem_cons.mpr ⟨lw_p6, List.forall_mem_cons.mpr ⟨lw_p7, List.forall_mem_cons.mpr ⟨lw_p8, List.forall_mem_cons.mpr ⟨lw_p9, List.forall_mem_cons.mpr ⟨lw_p10, List.forall_mem_cons.mpr ⟨lw_p11, List.forall_mem_cons.mpr ⟨lw_p12, List.forall_mem_cons.mpr ⟨lw_p13, List.forall_mem_cons.mpr ⟨lw_p14, List.forall_mem_cons.mpr ⟨lw_p15, fun _ h => absurd h List.not_mem_nil⟩⟩⟩⟩⟩⟩⟩⟩⟩⟩⟩⟩⟩⟩⟩⟩
theorem lw_p16 : lw_okq (⟨"NeverCross", "ordersByLaw", "()I"⟩, 17) := ⟨⟨by decide +kernel, by decide +kernel⟩, List.mem_of_getElem? (i := 19) (by decide +kernel), List.mem_of_getElem? (i := 496) (by decide +kernel), List.mem_of_getElem? (i := 497) (by decide +kernel)⟩
theorem lw_p17 : lw_okq (⟨"NeverCross", "lawNow", "()LNeverCross$Law;"⟩, 17) := ⟨⟨by decide +kernel, by decide +kernel⟩, List.mem_of_getElem? (i := 19) (by decide +kernel), List.mem_of_getElem? (i := 500) (by decide +kernel), List.mem_of_getElem? (i := 501) (by decide +kernel)⟩
theorem lw_p18 : lw_okq (⟨"NeverCross", "strikeOut", "(II)I"⟩, 17) := ⟨⟨by decide +kernel, by decide +kernel⟩, List.mem_of_getElem? (i := 19) (by decide +kernel), List.mem_of_getElem? (i := 553) (by decide +kernel), List.mem_of_getElem? (i := 554) (by decide +kernel)⟩
theorem lw_p19 : lw_okq (⟨"NeverCross", "familiesThrough", "(I)I"⟩, 17) := ⟨⟨by decide +kernel, by decide +kernel⟩, List.mem_of_getElem? (i := 19) (by decide +kernel), List.mem_of_getElem? (i := 583) (by decide +kernel), List.mem_of_getElem? (i := 584) (by decide +kernel)⟩
theorem lw_p20 : lw_okq (⟨"NeverCross", "stepOfRanked", "(III)I"⟩, 17) := ⟨⟨by decide +kernel, by decide +kernel⟩, List.mem_of_getElem? (i := 19) (by decide +kernel), List.mem_of_getElem? (i := 602) (by decide +kernel), List.mem_of_getElem? (i := 603) (by decide +kernel)⟩
theorem lw_p21 : lw_okq (⟨"NeverCross$Finder", "pick", "(II)V"⟩, 6) := ⟨⟨by decide +kernel, by decide +kernel⟩, List.mem_of_getElem? (i := 240) (by decide +kernel), List.mem_of_getElem? (i := 611) (by decide +kernel), List.mem_of_getElem? (i := 612) (by decide +kernel)⟩
theorem lw_p22 : lw_okq (⟨"NeverCross", "firstAstray", "()I"⟩, 17) := ⟨⟨by decide +kernel, by decide +kernel⟩, List.mem_of_getElem? (i := 19) (by decide +kernel), List.mem_of_getElem? (i := 688) (by decide +kernel), List.mem_of_getElem? (i := 689) (by decide +kernel)⟩
theorem lw_p23 : lw_okq (⟨"NeverCross$Held", "cellsOfTold", "(I)I"⟩, 8) := ⟨⟨by decide +kernel, by decide +kernel⟩, List.mem_of_getElem? (i := 87) (by decide +kernel), List.mem_of_getElem? (i := 701) (by decide +kernel), List.mem_of_getElem? (i := 702) (by decide +kernel)⟩
theorem lw_p24 : lw_okq (⟨"NeverCrossModel", "refuse", "(I)I"⟩, 28) := ⟨⟨by decide +kernel, by decide +kernel⟩, List.mem_of_getElem? (i := 728) (by decide +kernel), List.mem_of_getElem? (i := 826) (by decide +kernel), List.mem_of_getElem? (i := 827) (by decide +kernel)⟩
theorem lw_p25 : lw_okq (⟨"NeverCrossModel", "reads", "()I"⟩, 28) := ⟨⟨by decide +kernel, by decide +kernel⟩, List.mem_of_getElem? (i := 728) (by decide +kernel), List.mem_of_getElem? (i := 834) (by decide +kernel), List.mem_of_getElem? (i := 835) (by decide +kernel)⟩
theorem lw_p26 : lw_okq (⟨"NeverCrossModel", "tells", "(II)Z"⟩, 28) := ⟨⟨by decide +kernel, by decide +kernel⟩, List.mem_of_getElem? (i := 728) (by decide +kernel), List.mem_of_getElem? (i := 838) (by decide +kernel), List.mem_of_getElem? (i := 839) (by decide +kernel)⟩
theorem lw_p27 : lw_okq (⟨"NeverCrossModel", "isCell", "(I)Z"⟩, 28) := ⟨⟨by decide +kernel, by decide +kernel⟩, List.mem_of_getElem? (i := 728) (by decide +kernel), List.mem_of_getElem? (i := 846) (by decide +kernel), List.mem_of_getElem? (i := 847) (by decide +kernel)⟩
theorem lw_p28 : lw_okq (⟨"NeverCrossModel", "cells", "()I"⟩, 28) := ⟨⟨by decide +kernel, by decide +kernel⟩, List.mem_of_getElem? (i := 728) (by decide +kernel), List.mem_of_getElem? (i := 850) (by decide +kernel), List.mem_of_getElem? (i := 851) (by decide +kernel)⟩
theorem lw_p29 : lw_okq (⟨"NeverCrossModel", "isOrder", "(I)Z"⟩, 28) := ⟨⟨by decide +kernel, by decide +kernel⟩, List.mem_of_getElem? (i := 728) (by decide +kernel), List.mem_of_getElem? (i := 865) (by decide +kernel), List.mem_of_getElem? (i := 866) (by decide +kernel)⟩
theorem lw_p30 : lw_okq (⟨"NeverCrossModel", "digits", "()I"⟩, 28) := ⟨⟨by decide +kernel, by decide +kernel⟩, List.mem_of_getElem? (i := 728) (by decide +kernel), List.mem_of_getElem? (i := 869) (by decide +kernel), List.mem_of_getElem? (i := 870) (by decide +kernel)⟩
theorem lw_p31 : lw_okq (⟨"NeverCrossModel", "isDoor", "(I)Z"⟩, 28) := ⟨⟨by decide +kernel, by decide +kernel⟩, List.mem_of_getElem? (i := 728) (by decide +kernel), List.mem_of_getElem? (i := 877) (by decide +kernel), List.mem_of_getElem? (i := 878) (by decide +kernel)⟩
def lw_privs_2 : List (MethodName × Nat) := [(⟨"NeverCross", "ordersByLaw", "()I"⟩, 17), (⟨"NeverCross", "lawNow", "()LNeverCross$Law;"⟩, 17), (⟨"NeverCross", "strikeOut", "(II)I"⟩, 17), (⟨"NeverCross", "familiesThrough", "(I)I"⟩, 17), (⟨"NeverCross", "stepOfRanked", "(III)I"⟩, 17), (⟨"NeverCross$Finder", "pick", "(II)V"⟩, 6), (⟨"NeverCross", "firstAstray", "()I"⟩, 17), (⟨"NeverCross$Held", "cellsOfTold", "(I)I"⟩, 8), (⟨"NeverCrossModel", "refuse", "(I)I"⟩, 28), (⟨"NeverCrossModel", "reads", "()I"⟩, 28), (⟨"NeverCrossModel", "tells", "(II)Z"⟩, 28), (⟨"NeverCrossModel", "isCell", "(I)Z"⟩, 28), (⟨"NeverCrossModel", "cells", "()I"⟩, 28), (⟨"NeverCrossModel", "isOrder", "(I)Z"⟩, 28), (⟨"NeverCrossModel", "digits", "()I"⟩, 28), (⟨"NeverCrossModel", "isDoor", "(I)Z"⟩, 28)]
theorem lw_r2 : ∀ q ∈ lw_privs_2, lw_okq q := List.forall_mem_cons.mpr ⟨lw_p16, List.forall_mem_cons.mpr ⟨lw_p17, List.forall_mem_cons.mpr ⟨lw_p18, List.forall_mem_cons.mpr ⟨lw_p19, List.forall_mem_cons.mpr ⟨lw_p20, List.forall_mem_cons.mpr ⟨lw_p21, List.forall_mem_cons.mpr ⟨lw_p22, List.forall_mem_cons.mpr ⟨lw_p23, List.forall_mem_cons.mpr ⟨lw_p24, List.forall_mem_cons.mpr ⟨lw_p25, List.forall_mem_cons.mpr ⟨lw_p26, List.forall_mem_cons.mpr ⟨lw_p27, List.forall_mem_cons.mpr ⟨lw_p28, List.forall_mem_cons.mpr ⟨lw_p29, List.forall_mem_cons.mpr ⟨lw_p30, List.forall_mem_cons.mpr ⟨lw_p31, fun _ h => absurd h List.not_mem_nil⟩⟩⟩⟩⟩⟩⟩⟩⟩⟩⟩⟩⟩⟩⟩⟩
theorem lw_p32 : lw_okq (⟨"NeverCrossModel", "aloneOf", "(II)I"⟩, 28) := ⟨⟨by decide +kernel, by decide +kernel⟩, List.mem_of_getElem? (i := 728) (by decide +kernel), List.mem_of_getElem? (i := 881) (by decide +kernel), List.mem_of_getElem? (i := 882) (by decide +kernel)⟩
theorem lw_p33 : lw_okq (⟨"NeverCrossModel", "cellOf", "(II)I"⟩, 28) := ⟨⟨by decide +kernel, by decide +kernel⟩, List.mem_of_getElem? (i := 728) (by decide +kernel), List.mem_of_getElem? (i := 885) (by decide +kernel), List.mem_of_getElem? (i := 886) (by decide +kernel)⟩
theorem lw_p34 : lw_okq (⟨"NeverCrossModel", "what", "(I)I"⟩, 28) := ⟨⟨by decide +kernel, by decide +kernel⟩, List.mem_of_getElem? (i := 728) (by decide +kernel), List.mem_of_getElem? (i := 889) (by decide +kernel), List.mem_of_getElem? (i := 890) (by decide +kernel)⟩
theorem lw_p35 : lw_okq (⟨"NeverCrossModel", "number", "(I)I"⟩, 28) := ⟨⟨by decide +kernel, by decide +kernel⟩, List.mem_of_getElem? (i := 728) (by decide +kernel), List.mem_of_getElem? (i := 893) (by decide +kernel), List.mem_of_getElem? (i := 894) (by decide +kernel)⟩
theorem lw_p36 : lw_okq (⟨"NeverCrossModel", "aloneFrom", "(II)I"⟩, 28) := ⟨⟨by decide +kernel, by decide +kernel⟩, List.mem_of_getElem? (i := 728) (by decide +kernel), List.mem_of_getElem? (i := 897) (by decide +kernel), List.mem_of_getElem? (i := 898) (by decide +kernel)⟩
theorem lw_p37 : lw_okq (⟨"NeverCrossModel", "next", "(II)I"⟩, 28) := ⟨⟨by decide +kernel, by decide +kernel⟩, List.mem_of_getElem? (i := 728) (by decide +kernel), List.mem_of_getElem? (i := 901) (by decide +kernel), List.mem_of_getElem? (i := 902) (by decide +kernel)⟩
theorem lw_p38 : lw_okq (⟨"NeverCrossModel", "isSlope", "()Z"⟩, 28) := ⟨⟨by decide +kernel, by decide +kernel⟩, List.mem_of_getElem? (i := 728) (by decide +kernel), List.mem_of_getElem? (i := 909) (by decide +kernel), List.mem_of_getElem? (i := 910) (by decide +kernel)⟩
theorem lw_p39 : lw_okq (⟨"NeverCrossModel", "allNow", "()I"⟩, 28) := ⟨⟨by decide +kernel, by decide +kernel⟩, List.mem_of_getElem? (i := 728) (by decide +kernel), List.mem_of_getElem? (i := 913) (by decide +kernel), List.mem_of_getElem? (i := 914) (by decide +kernel)⟩
theorem lw_p40 : lw_okq (⟨"NeverCrossModel", "findsByLaw", "(I)V"⟩, 28) := ⟨⟨by decide +kernel, by decide +kernel⟩, List.mem_of_getElem? (i := 728) (by decide +kernel), List.mem_of_getElem? (i := 917) (by decide +kernel), List.mem_of_getElem? (i := 918) (by decide +kernel)⟩
theorem lw_p41 : lw_okq (⟨"NeverCrossModel", "wellBy", "(II)I"⟩, 28) := ⟨⟨by decide +kernel, by decide +kernel⟩, List.mem_of_getElem? (i := 728) (by decide +kernel), List.mem_of_getElem? (i := 921) (by decide +kernel), List.mem_of_getElem? (i := 922) (by decide +kernel)⟩
theorem lw_p42 : lw_okq (⟨"NeverCrossModel", "findsFamilies", "(I)V"⟩, 28) := ⟨⟨by decide +kernel, by decide +kernel⟩, List.mem_of_getElem? (i := 728) (by decide +kernel), List.mem_of_getElem? (i := 925) (by decide +kernel), List.mem_of_getElem? (i := 926) (by decide +kernel)⟩
theorem lw_p43 : lw_okq (⟨"NeverCrossModel", "findsWays", "()V"⟩, 28) := ⟨⟨by decide +kernel, by decide +kernel⟩, List.mem_of_getElem? (i := 728) (by decide +kernel), List.mem_of_getElem? (i := 929) (by decide +kernel), List.mem_of_getElem? (i := 930) (by decide +kernel)⟩
theorem lw_p44 : lw_okq (⟨"NeverCrossModel", "waysFrom", "(IIIII)V"⟩, 28) := ⟨⟨by decide +kernel, by decide +kernel⟩, List.mem_of_getElem? (i := 728) (by decide +kernel), List.mem_of_getElem? (i := 933) (by decide +kernel), List.mem_of_getElem? (i := 934) (by decide +kernel)⟩
theorem lw_p45 : lw_okq (⟨"NeverCrossModel", "familiesFrom", "(III)V"⟩, 28) := ⟨⟨by decide +kernel, by decide +kernel⟩, List.mem_of_getElem? (i := 728) (by decide +kernel), List.mem_of_getElem? (i := 937) (by decide +kernel), List.mem_of_getElem? (i := 938) (by decide +kernel)⟩
theorem lw_p46 : lw_okq (⟨"NeverCrossModel", "gathers", "(I)V"⟩, 28) := ⟨⟨by decide +kernel, by decide +kernel⟩, List.mem_of_getElem? (i := 728) (by decide +kernel), List.mem_of_getElem? (i := 941) (by decide +kernel), List.mem_of_getElem? (i := 942) (by decide +kernel)⟩
theorem lw_p47 : lw_okq (⟨"NeverCrossModel", "costOf", "(I)I"⟩, 28) := ⟨⟨by decide +kernel, by decide +kernel⟩, List.mem_of_getElem? (i := 728) (by decide +kernel), List.mem_of_getElem? (i := 945) (by decide +kernel), List.mem_of_getElem? (i := 946) (by decide +kernel)⟩
def lw_privs_3 : List (MethodName × Nat) := [(⟨"NeverCrossModel", "aloneOf", "(II)I"⟩, 28), (⟨"NeverCrossModel", "cellOf", "(II)I"⟩, 28), (⟨"NeverCrossModel", "what", "(I)I"⟩, 28), (⟨"NeverCrossModel", "number", "(I)I"⟩, 28), (⟨"NeverCrossModel", "aloneFrom", "(II)I"⟩, 28), (⟨"NeverCrossModel", "next", "(II)I"⟩, 28), (⟨"NeverCrossModel", "isSlope", "()Z"⟩, 28), (⟨"NeverCrossModel", "allNow", "()I"⟩, 28), (⟨"NeverCrossModel", "findsByLaw", "(I)V"⟩, 28), (⟨"NeverCrossModel", "wellBy", "(II)I"⟩, 28), (⟨"NeverCrossModel", "findsFamilies", "(I)V"⟩, 28), (⟨"NeverCrossModel", "findsWays", "()V"⟩, 28), (⟨"NeverCrossModel", "waysFrom", "(IIIII)V"⟩, 28), (⟨"NeverCrossModel", "familiesFrom", "(III)V"⟩, 28), (⟨"NeverCrossModel", "gathers", "(I)V"⟩, 28), (⟨"NeverCrossModel", "costOf", "(I)I"⟩, 28)]
theorem lw_r3 : ∀ q ∈ lw_privs_3, lw_okq q := List.forall_mem_cons.mpr ⟨lw_p32, List.forall_mem_cons.mpr ⟨lw_p33, List.forall_mem_cons.mpr ⟨lw_p34, List.forall_mem_cons.mpr ⟨lw_p35, List.forall_mem_cons.mpr ⟨lw_p36, List.forall_mem_cons.mpr ⟨lw_p37, List.forall_mem_cons.mpr ⟨lw_p38, List.forall_mem_cons.mpr ⟨lw_p39, List.forall_mem_cons.mpr ⟨lw_p40, List.forall_mem_cons.mpr ⟨lw_p41, List.forall_mem_cons.mpr ⟨lw_p42, List.forall_mem_cons.mpr ⟨lw_p43, List.forall_mem_cons.mpr ⟨lw_p44, List.forall_mem_cons.mpr ⟨lw_p45, List.forall_mem_cons.mpr ⟨lw_p46, List.forall_mem_cons.mpr ⟨lw_p47, fun _ h => absurd h List.not_mem_nil⟩⟩⟩⟩⟩⟩⟩⟩⟩⟩⟩⟩⟩⟩⟩⟩
theorem lw_p48 : lw_okq (⟨"NeverCrossModel", "cost", "(I)I"⟩, 28) := ⟨⟨by decide +kernel, by decide +kernel⟩, List.mem_of_getElem? (i := 728) (by decide +kernel), List.mem_of_getElem? (i := 949) (by decide +kernel), List.mem_of_getElem? (i := 950) (by decide +kernel)⟩
theorem lw_p49 : lw_okq (⟨"NeverCrossModel", "signedFrom", "(II)I"⟩, 28) := ⟨⟨by decide +kernel, by decide +kernel⟩, List.mem_of_getElem? (i := 728) (by decide +kernel), List.mem_of_getElem? (i := 957) (by decide +kernel), List.mem_of_getElem? (i := 958) (by decide +kernel)⟩
theorem lw_p50 : lw_okq (⟨"NeverCrossModel", "familiesBy", "()I"⟩, 28) := ⟨⟨by decide +kernel, by decide +kernel⟩, List.mem_of_getElem? (i := 728) (by decide +kernel), List.mem_of_getElem? (i := 966) (by decide +kernel), List.mem_of_getElem? (i := 967) (by decide +kernel)⟩
theorem lw_p51 : lw_okq (⟨"NeverCrossModel", "stepOf", "(III)I"⟩, 28) := ⟨⟨by decide +kernel, by decide +kernel⟩, List.mem_of_getElem? (i := 728) (by decide +kernel), List.mem_of_getElem? (i := 989) (by decide +kernel), List.mem_of_getElem? (i := 990) (by decide +kernel)⟩
theorem lw_p52 : lw_okq (⟨"NeverCrossModel", "mostNow", "()I"⟩, 28) := ⟨⟨by decide +kernel, by decide +kernel⟩, List.mem_of_getElem? (i := 728) (by decide +kernel), List.mem_of_getElem? (i := 1004) (by decide +kernel), List.mem_of_getElem? (i := 1005) (by decide +kernel)⟩
theorem lw_p53 : lw_okq (⟨"NeverCrossModel", "mostFrom", "(II)I"⟩, 28) := ⟨⟨by decide +kernel, by decide +kernel⟩, List.mem_of_getElem? (i := 728) (by decide +kernel), List.mem_of_getElem? (i := 1008) (by decide +kernel), List.mem_of_getElem? (i := 1009) (by decide +kernel)⟩
theorem lw_p54 : lw_okq (⟨"NeverCrossModel", "walks", "(I)I"⟩, 28) := ⟨⟨by decide +kernel, by decide +kernel⟩, List.mem_of_getElem? (i := 728) (by decide +kernel), List.mem_of_getElem? (i := 1054) (by decide +kernel), List.mem_of_getElem? (i := 1055) (by decide +kernel)⟩
def lw_privs_4 : List (MethodName × Nat) := [(⟨"NeverCrossModel", "cost", "(I)I"⟩, 28), (⟨"NeverCrossModel", "signedFrom", "(II)I"⟩, 28), (⟨"NeverCrossModel", "familiesBy", "()I"⟩, 28), (⟨"NeverCrossModel", "stepOf", "(III)I"⟩, 28), (⟨"NeverCrossModel", "mostNow", "()I"⟩, 28), (⟨"NeverCrossModel", "mostFrom", "(II)I"⟩, 28), (⟨"NeverCrossModel", "walks", "(I)I"⟩, 28)]
theorem lw_r4 : ∀ q ∈ lw_privs_4, lw_okq q := List.forall_mem_cons.mpr ⟨lw_p48, List.forall_mem_cons.mpr ⟨lw_p49, List.forall_mem_cons.mpr ⟨lw_p50, List.forall_mem_cons.mpr ⟨lw_p51, List.forall_mem_cons.mpr ⟨lw_p52, List.forall_mem_cons.mpr ⟨lw_p53, List.forall_mem_cons.mpr ⟨lw_p54, fun _ h => absurd h List.not_mem_nil⟩⟩⟩⟩⟩⟩⟩
def lw_privs : List (MethodName × Nat) := lw_privs_1 ++ (lw_privs_2 ++ (lw_privs_3 ++ (lw_privs_4)))
def lw_tbl : List Cond := k2_sels lw_privs ++ tables_1
theorem lw_privs_ok : ∀ q ∈ lw_privs, lw_okq q := by
  show ∀ q ∈ lw_privs_1 ++ (lw_privs_2 ++ (lw_privs_3 ++ (lw_privs_4))), lw_okq q
  exact List.forall_mem_append.mpr ⟨lw_r1, List.forall_mem_append.mpr ⟨lw_r2, List.forall_mem_append.mpr ⟨lw_r3, lw_r4⟩⟩⟩

def goodTbl : List Cond := lw_tbl.filter goodWord
def RX0 : String := "NeverCross$Any"
def RX1 : String := "NeverCross$Finder"
def RX2 : String := "NeverCross$Held"
def RX3 : String := "NeverCross$Law"
def RX4 : String := "NeverCross$Next"
def RX5 : String := "NeverCross$Own"
def RX6 : String := "NeverCross$Slope"
def RX7 : String := "NeverCross$Study"
def RX8 : String := "NeverCross$Told"
def RX9 : String := "NeverCross$Turned"
def RX10 : String := "NeverCross$Ways"
def RX11 : String := "NeverCross"
def RX12 : String := "NeverCrossModel"
def RJ6 : String := "java/lang/Integer"
def RJ9 : String := "java/lang/Math"
def RJ10 : String := "java/lang/System"
def RJ7 : String := "java/util/Arrays"
def RL : String := "NeverCrossLaw"
def TX0 : u_T := fun k => match k with
  | _ => ("", "", "", false)
def tyX0 : Nat → FieldType := fun k => match k with
  | _ => .int
theorem nmX0 : ∀ a, a < 0 → ∀ b, b < 0 → a ≠ b → (TX0 a).2.1 ≠ (TX0 b).2.1 := by decide +kernel
theorem tyX0_ok : ∀ k, k < 0 → parseFieldDescriptor (TX0 k).2.2.1 = some (tyX0 k) := by decide +kernel
theorem inX0 : ∀ w ∈ u_ws RX0 TX0 0, w ∈ lw_tbl := by decide +kernel
def TX1 : u_T := fun k => match k with
  | 0 => ("NeverCross$Finder", "picked", "[I", true)
  | 1 => ("NeverCross$Finder", "ways", "LNeverCross$Ways;", true)
  | 2 => ("NeverCross$Finder", "open", "[I", true)
  | 3 => ("NeverCross$Finder", "needed", "I", false)
  | 4 => ("NeverCross$Finder", "stop", "I", false)
  | _ => ("NeverCross$Finder", "met", "I", false)
def tyX1 : Nat → FieldType := fun k => match k with
  | 0 => .array .int
  | 1 => .object "NeverCross$Ways"
  | 2 => .array .int
  | 3 => .int
  | 4 => .int
  | _ => .int
theorem nmX1 : ∀ a, a < 6 → ∀ b, b < 6 → a ≠ b → (TX1 a).2.1 ≠ (TX1 b).2.1 := by decide +kernel
theorem tyX1_ok : ∀ k, k < 6 → parseFieldDescriptor (TX1 k).2.2.1 = some (tyX1 k) := by decide +kernel
theorem inX1 : ∀ w ∈ u_ws RX1 TX1 6, w ∈ lw_tbl := by decide +kernel
def TX2 : u_T := fun k => match k with
  | 0 => ("NeverCross$Held", "slope", "LNeverCross$Slope;", true)
  | 1 => ("NeverCross$Held", "slopeNumber", "I", false)
  | 2 => ("NeverCross$Held", "law", "I", false)
  | 3 => ("NeverCross$Held", "told", "I", false)
  | 4 => ("NeverCross$Held", "seenCells", "I", false)
  | 5 => ("NeverCross$Held", "seen", "[I", true)
  | 6 => ("NeverCross$Held", "lengths", "[I", true)
  | _ => ("NeverCross$Held", "steps", "[[I", true)
def tyX2 : Nat → FieldType := fun k => match k with
  | 0 => .object "NeverCross$Slope"
  | 1 => .int
  | 2 => .int
  | 3 => .int
  | 4 => .int
  | 5 => .array .int
  | 6 => .array .int
  | _ => .array (.array .int)
theorem nmX2 : ∀ a, a < 8 → ∀ b, b < 8 → a ≠ b → (TX2 a).2.1 ≠ (TX2 b).2.1 := by decide +kernel
theorem tyX2_ok : ∀ k, k < 8 → parseFieldDescriptor (TX2 k).2.2.1 = some (tyX2 k) := by decide +kernel
theorem inX2 : ∀ w ∈ u_ws RX2 TX2 8, w ∈ lw_tbl := by decide +kernel
def TX4 : u_T := fun k => match k with
  | _ => ("", "", "", false)
def tyX4 : Nat → FieldType := fun k => match k with
  | _ => .int
theorem nmX4 : ∀ a, a < 0 → ∀ b, b < 0 → a ≠ b → (TX4 a).2.1 ≠ (TX4 b).2.1 := by decide +kernel
theorem tyX4_ok : ∀ k, k < 0 → parseFieldDescriptor (TX4 k).2.2.1 = some (tyX4 k) := by decide +kernel
theorem inX4 : ∀ w ∈ u_ws RX4 TX4 0, w ∈ lw_tbl := by decide +kernel
def TX5 : u_T := fun k => match k with
  | _ => ("", "", "", false)
def tyX5 : Nat → FieldType := fun k => match k with
  | _ => .int
theorem nmX5 : ∀ a, a < 0 → ∀ b, b < 0 → a ≠ b → (TX5 a).2.1 ≠ (TX5 b).2.1 := by decide +kernel
theorem tyX5_ok : ∀ k, k < 0 → parseFieldDescriptor (TX5 k).2.2.1 = some (tyX5 k) := by decide +kernel
theorem inX5 : ∀ w ∈ u_ws RX5 TX5 0, w ∈ lw_tbl := by decide +kernel
def TX6 : u_T := fun k => match k with
  | 0 => ("NeverCross$Slope", "rows", "I", false)
  | 1 => ("NeverCross$Slope", "columns", "I", false)
  | 2 => ("NeverCross$Slope", "cells", "I", false)
  | 3 => ("NeverCross$Slope", "stones", "I", false)
  | 4 => ("NeverCross$Slope", "doors", "I", false)
  | 5 => ("NeverCross$Slope", "kind", "[I", true)
  | 6 => ("NeverCross$Slope", "cost", "[I", true)
  | 7 => ("NeverCross$Slope", "number", "[I", true)
  | 8 => ("NeverCross$Slope", "doorAt", "[I", true)
  | 9 => ("NeverCross$Slope", "wellAt", "[I", true)
  | 10 => ("NeverCross$Slope", "reached", "[I", true)
  | _ => ("NeverCross$Slope", "inRow", "I", false)
def tyX6 : Nat → FieldType := fun k => match k with
  | 0 => .int
  | 1 => .int
  | 2 => .int
  | 3 => .int
  | 4 => .int
  | 5 => .array .int
  | 6 => .array .int
  | 7 => .array .int
  | 8 => .array .int
  | 9 => .array .int
  | 10 => .array .int
  | _ => .int
theorem nmX6 : ∀ a, a < 12 → ∀ b, b < 12 → a ≠ b → (TX6 a).2.1 ≠ (TX6 b).2.1 := by decide +kernel
theorem tyX6_ok : ∀ k, k < 12 → parseFieldDescriptor (TX6 k).2.2.1 = some (tyX6 k) := by decide +kernel
theorem inX6 : ∀ w ∈ u_ws RX6 TX6 12, w ∈ lw_tbl := by decide +kernel
def TX7 : u_T := fun k => match k with
  | 0 => ("NeverCross$Study", "most", "I", false)
  | 1 => ("NeverCross$Study", "shut", "I", false)
  | 2 => ("NeverCross$Study", "slope", "LNeverCross$Slope;", true)
  | 3 => ("NeverCross$Study", "ways", "LNeverCross$Ways;", true)
  | 4 => ("NeverCross$Study", "picked", "[I", true)
  | 5 => ("NeverCross$Study", "families", "[I", true)
  | 6 => ("NeverCross$Study", "leastCost", "[I", true)
  | 7 => ("NeverCross$Study", "through", "[[I", true)
  | _ => ("NeverCross$Study", "who", "[[I", true)
def tyX7 : Nat → FieldType := fun k => match k with
  | 0 => .int
  | 1 => .int
  | 2 => .object "NeverCross$Slope"
  | 3 => .object "NeverCross$Ways"
  | 4 => .array .int
  | 5 => .array .int
  | 6 => .array .int
  | 7 => .array (.array .int)
  | _ => .array (.array .int)
theorem nmX7 : ∀ a, a < 9 → ∀ b, b < 9 → a ≠ b → (TX7 a).2.1 ≠ (TX7 b).2.1 := by decide +kernel
theorem tyX7_ok : ∀ k, k < 9 → parseFieldDescriptor (TX7 k).2.2.1 = some (tyX7 k) := by decide +kernel
theorem inX7 : ∀ w ∈ u_ws RX7 TX7 9, w ∈ lw_tbl := by decide +kernel
def TX8 : u_T := fun k => match k with
  | _ => ("", "", "", false)
def tyX8 : Nat → FieldType := fun k => match k with
  | _ => .int
theorem nmX8 : ∀ a, a < 0 → ∀ b, b < 0 → a ≠ b → (TX8 a).2.1 ≠ (TX8 b).2.1 := by decide +kernel
theorem tyX8_ok : ∀ k, k < 0 → parseFieldDescriptor (TX8 k).2.2.1 = some (tyX8 k) := by decide +kernel
theorem inX8 : ∀ w ∈ u_ws RX8 TX8 0, w ∈ lw_tbl := by decide +kernel
def TX9 : u_T := fun k => match k with
  | _ => ("", "", "", false)
def tyX9 : Nat → FieldType := fun k => match k with
  | _ => .int
theorem nmX9 : ∀ a, a < 0 → ∀ b, b < 0 → a ≠ b → (TX9 a).2.1 ≠ (TX9 b).2.1 := by decide +kernel
theorem tyX9_ok : ∀ k, k < 0 → parseFieldDescriptor (TX9 k).2.2.1 = some (tyX9 k) := by decide +kernel
theorem inX9 : ∀ w ∈ u_ws RX9 TX9 0, w ∈ lw_tbl := by decide +kernel
def TX10 : u_T := fun k => match k with
  | 0 => ("NeverCross$Ways", "slope", "LNeverCross$Slope;", true)
  | 1 => ("NeverCross$Ways", "doors", "I", false)
  | 2 => ("NeverCross$Ways", "sizes", "[I", true)
  | 3 => ("NeverCross$Ways", "cells", "[[I", true)
  | _ => ("NeverCross$Ways", "wells", "[[I", true)
def tyX10 : Nat → FieldType := fun k => match k with
  | 0 => .object "NeverCross$Slope"
  | 1 => .int
  | 2 => .array .int
  | 3 => .array (.array .int)
  | _ => .array (.array .int)
theorem nmX10 : ∀ a, a < 5 → ∀ b, b < 5 → a ≠ b → (TX10 a).2.1 ≠ (TX10 b).2.1 := by decide +kernel
theorem tyX10_ok : ∀ k, k < 5 → parseFieldDescriptor (TX10 k).2.2.1 = some (tyX10 k) := by decide +kernel
theorem inX10 : ∀ w ∈ u_ws RX10 TX10 5, w ∈ lw_tbl := by decide +kernel
def TX11 : u_T := fun k => match k with
  | 0 => ("NeverCross", "letters", "[I", true)
  | 1 => ("NeverCross", "lettersTold", "I", false)
  | 2 => ("NeverCross", "refusals", "[I", true)
  | 3 => ("NeverCross", "draft", "LNeverCross$Slope;", true)
  | 4 => ("NeverCross", "now", "LNeverCross$Held;", true)
  | 5 => ("NeverCross", "kept", "LNeverCross$Held;", true)
  | 6 => ("NeverCross", "imageTaken", "Z", false)
  | 7 => ("NeverCross", "laws", "[LNeverCross$Law;", true)
  | 8 => ("NeverCross", "ways", "LNeverCross$Ways;", true)
  | 9 => ("NeverCross", "fewWays", "LNeverCross$Ways;", true)
  | 10 => ("NeverCross", "study", "LNeverCross$Study;", true)
  | 11 => ("NeverCross", "ranked", "LNeverCross$Finder;", true)
  | 12 => ("NeverCross", "fitting", "LNeverCross$Finder;", true)
  | 13 => ("NeverCross", "fewFound", "LNeverCross$Finder;", true)
  | 14 => ("NeverCross", "slopesRead", "I", false)
  | 15 => ("NeverCross", "slopeStudied", "I", false)
  | _ => ("NeverCross", "rankHeld", "I", false)
def tyX11 : Nat → FieldType := fun k => match k with
  | 0 => .array .int
  | 1 => .int
  | 2 => .array .int
  | 3 => .object "NeverCross$Slope"
  | 4 => .object "NeverCross$Held"
  | 5 => .object "NeverCross$Held"
  | 6 => .boolean
  | 7 => .array (.object "NeverCross$Law")
  | 8 => .object "NeverCross$Ways"
  | 9 => .object "NeverCross$Ways"
  | 10 => .object "NeverCross$Study"
  | 11 => .object "NeverCross$Finder"
  | 12 => .object "NeverCross$Finder"
  | 13 => .object "NeverCross$Finder"
  | 14 => .int
  | 15 => .int
  | _ => .int
theorem nmX11 : ∀ a, a < 17 → ∀ b, b < 17 → a ≠ b → (TX11 a).2.1 ≠ (TX11 b).2.1 := by decide +kernel
theorem tyX11_ok : ∀ k, k < 17 → parseFieldDescriptor (TX11 k).2.2.1 = some (tyX11 k) := by decide +kernel
theorem inX11 : ∀ w ∈ u_ws RX11 TX11 17, w ∈ lw_tbl := by decide +kernel
def TX12 : u_T := fun k => match k with
  | 0 => ("NeverCrossModel", "refusals", "[I", true)
  | 1 => ("NeverCrossModel", "s", "[I", true)
  | 2 => ("NeverCrossModel", "image", "[I", true)
  | 3 => ("NeverCrossModel", "read", "[I", true)
  | 4 => ("NeverCrossModel", "isImage", "Z", false)
  | 5 => ("NeverCrossModel", "tape", "[I", true)
  | 6 => ("NeverCrossModel", "taped", "I", false)
  | 7 => ("NeverCrossModel", "doorsTold", "I", false)
  | 8 => ("NeverCrossModel", "wellsTold", "I", false)
  | 9 => ("NeverCrossModel", "order", "[I", true)
  | 10 => ("NeverCrossModel", "way", "[I", true)
  | 11 => ("NeverCrossModel", "steps", "[I", true)
  | 12 => ("NeverCrossModel", "length", "[I", true)
  | 13 => ("NeverCrossModel", "well", "[I", true)
  | 14 => ("NeverCrossModel", "wayed", "[I", true)
  | 15 => ("NeverCrossModel", "wants", "[I", true)
  | 16 => ("NeverCrossModel", "picked", "[I", true)
  | 17 => ("NeverCrossModel", "foundPick", "[I", true)
  | 18 => ("NeverCrossModel", "usedBy", "[I", true)
  | 19 => ("NeverCrossModel", "whoIn", "[I", true)
  | 20 => ("NeverCrossModel", "families", "I", false)
  | 21 => ("NeverCrossModel", "least", "I", false)
  | 22 => ("NeverCrossModel", "fitting", "I", false)
  | 23 => ("NeverCrossModel", "wanted", "I", false)
  | 24 => ("NeverCrossModel", "seenSet", "I", false)
  | 25 => ("NeverCrossModel", "keptRow", "[I", true)
  | 26 => ("NeverCrossModel", "toldEnd", "[I", true)
  | _ => ("NeverCrossModel", "walked", "I", false)
def tyX12 : Nat → FieldType := fun k => match k with
  | 0 => .array .int
  | 1 => .array .int
  | 2 => .array .int
  | 3 => .array .int
  | 4 => .boolean
  | 5 => .array .int
  | 6 => .int
  | 7 => .int
  | 8 => .int
  | 9 => .array .int
  | 10 => .array .int
  | 11 => .array .int
  | 12 => .array .int
  | 13 => .array .int
  | 14 => .array .int
  | 15 => .array .int
  | 16 => .array .int
  | 17 => .array .int
  | 18 => .array .int
  | 19 => .array .int
  | 20 => .int
  | 21 => .int
  | 22 => .int
  | 23 => .int
  | 24 => .int
  | 25 => .array .int
  | 26 => .array .int
  | _ => .int
theorem nmX12 : ∀ a, a < 28 → ∀ b, b < 28 → a ≠ b → (TX12 a).2.1 ≠ (TX12 b).2.1 := by decide +kernel
theorem tyX12_ok : ∀ k, k < 28 → parseFieldDescriptor (TX12 k).2.2.1 = some (tyX12 k) := by decide +kernel
theorem inX12 : ∀ w ∈ u_ws RX12 TX12 28, w ∈ lw_tbl := by decide +kernel
abbrev q_cl : List vw_C := [(RX0, TX0, 0), (RX1, TX1, 6), (RX2, TX2, 8), (RX4, TX4, 0), (RX5, TX5, 0), (RX6, TX6, 12), (RX7, TX7, 9), (RX8, TX8, 0), (RX9, TX9, 0), (RX10, TX10, 5), (RX11, TX11, 17), (RX12, TX12, 28)]
def q_y0 : MethodName := ⟨"NeverCross$Any", "wellsFor", "(III)I"⟩
def q_y1 : MethodName := ⟨"NeverCross$Finder", "seek", "(LNeverCross$Law;III)I"⟩
def q_y2 : MethodName := ⟨"NeverCross$Finder", "pick", "(II)V"⟩
def q_y3 : MethodName := ⟨"NeverCross$Held", "copyFrom", "(LNeverCross$Held;)V"⟩
def q_y4 : MethodName := ⟨"NeverCross$Held", "begin", "(LNeverCross$Slope;I)V"⟩
def q_y5 : MethodName := ⟨"NeverCross$Held", "forgetTold", "()I"⟩
def q_y6 : MethodName := ⟨"NeverCross$Held", "seenBits", "()I"⟩
def q_y7 : MethodName := ⟨"NeverCross$Held", "firstStepOff", "()I"⟩
def q_y8 : MethodName := ⟨"NeverCross$Held", "endOfTold", "(I)I"⟩
def q_y9 : MethodName := ⟨"NeverCross$Held", "cellsOfTold", "(I)I"⟩
def q_y10 : MethodName := ⟨"NeverCross$Held", "leastShared", "()I"⟩
def q_y11 : MethodName := ⟨"NeverCross$Law", "takes", "(III)Z"⟩
def q_y12 : MethodName := ⟨"NeverCross$Next", "wellOf", "(III)I"⟩
def q_y13 : MethodName := ⟨"NeverCross$Own", "wellOf", "(III)I"⟩
def q_y14 : MethodName := ⟨"NeverCross$Own", "wellsFor", "(III)I"⟩
def q_y15 : MethodName := ⟨"NeverCross$Slope", "copyFrom", "(LNeverCross$Slope;)V"⟩
def q_y16 : MethodName := ⟨"NeverCross$Slope", "read", "([II)I"⟩
def q_y17 : MethodName := ⟨"NeverCross$Slope", "wipe", "()V"⟩
def q_y18 : MethodName := ⟨"NeverCross$Slope", "endRow", "()Z"⟩
def q_y19 : MethodName := ⟨"NeverCross$Slope", "addCell", "(I)Z"⟩
def q_y20 : MethodName := ⟨"NeverCross$Slope", "putOnce", "(II[I)Z"⟩
def q_y21 : MethodName := ⟨"NeverCross$Slope", "put", "(III)Z"⟩
def q_y22 : MethodName := ⟨"NeverCross$Slope", "pairDoors", "()Z"⟩
def q_y23 : MethodName := ⟨"NeverCross$Slope", "hasCell", "(I)Z"⟩
def q_y24 : MethodName := ⟨"NeverCross$Slope", "hasDoor", "(I)Z"⟩
def q_y25 : MethodName := ⟨"NeverCross$Slope", "cellOfDoor", "(I)I"⟩
def q_y26 : MethodName := ⟨"NeverCross$Slope", "cellOfWell", "(I)I"⟩
def q_y27 : MethodName := ⟨"NeverCross$Slope", "onward", "(II)I"⟩
def q_y28 : MethodName := ⟨"NeverCross$Slope", "waysAlone", "(II)I"⟩
def q_y29 : MethodName := ⟨"NeverCross$Slope", "stepOfWay", "(III)I"⟩
def q_y30 : MethodName := ⟨"NeverCross$Study", "make", "()V"⟩
def q_y31 : MethodName := ⟨"NeverCross$Study", "choose", "(IIII)V"⟩
def q_y32 : MethodName := ⟨"NeverCross$Study", "meet", "(III)V"⟩
def q_y33 : MethodName := ⟨"NeverCross$Study", "note", "(II)V"⟩
def q_y34 : MethodName := ⟨"NeverCross$Study", "doorsPickedThrough", "(I)I"⟩
def q_y35 : MethodName := ⟨"NeverCross$Study", "familiesBy", "(I)I"⟩
def q_y36 : MethodName := ⟨"NeverCross$Study", "leastCostBy", "(I)I"⟩
def q_y37 : MethodName := ⟨"NeverCross$Study", "familiesThrough", "(II)I"⟩
def q_y38 : MethodName := ⟨"NeverCross$Study", "doorsThrough", "(II)I"⟩
def q_y39 : MethodName := ⟨"NeverCross$Told", "wellOf", "(III)I"⟩
def q_y40 : MethodName := ⟨"NeverCross$Turned", "wellOf", "(III)I"⟩
def q_y41 : MethodName := ⟨"NeverCross$Ways", "fill", "(I)V"⟩
def q_y42 : MethodName := ⟨"NeverCross$Ways", "goOn", "(IIII)V"⟩
def q_y43 : MethodName := ⟨"NeverCross$Ways", "note", "(III)V"⟩
def q_y44 : MethodName := ⟨"NeverCross", "letter", "(I)I"⟩
def q_y45 : MethodName := ⟨"NeverCross", "slope", "()I"⟩
def q_y46 : MethodName := ⟨"NeverCross", "cell", "(II)I"⟩
def q_y47 : MethodName := ⟨"NeverCross", "law", "(I)I"⟩
def q_y48 : MethodName := ⟨"NeverCross", "set", "(I)I"⟩
def q_y49 : MethodName := ⟨"NeverCross", "alone", "(II)I"⟩
def q_y50 : MethodName := ⟨"NeverCross", "all", "()I"⟩
def q_y51 : MethodName := ⟨"NeverCross", "signed", "()I"⟩
def q_y52 : MethodName := ⟨"NeverCross", "holds", "()I"⟩
def q_y53 : MethodName := ⟨"NeverCross", "by", "(I)I"⟩
def q_y54 : MethodName := ⟨"NeverCross", "cheap", "()I"⟩
def q_y55 : MethodName := ⟨"NeverCross", "used", "(II)I"⟩
def q_y56 : MethodName := ⟨"NeverCross", "rank", "(III)I"⟩
def q_y57 : MethodName := ⟨"NeverCross", "drawn", "(III)I"⟩
def q_y58 : MethodName := ⟨"NeverCross", "most", "()I"⟩
def q_y59 : MethodName := ⟨"NeverCross", "shuts", "()I"⟩
def q_y60 : MethodName := ⟨"NeverCross", "seen", "(I)I"⟩
def q_y61 : MethodName := ⟨"NeverCross", "fits", "()I"⟩
def q_y62 : MethodName := ⟨"NeverCross", "who", "(I)I"⟩
def q_y63 : MethodName := ⟨"NeverCross", "lost", "(I)I"⟩
def q_y64 : MethodName := ⟨"NeverCross", "few", "()I"⟩
def q_y65 : MethodName := ⟨"NeverCross", "boxes", "(III)I"⟩
def q_y66 : MethodName := ⟨"NeverCross", "step", "(II)I"⟩
def q_y67 : MethodName := ⟨"NeverCross", "judge", "()I"⟩
def q_y68 : MethodName := ⟨"NeverCross", "clear", "()I"⟩
def q_y69 : MethodName := ⟨"NeverCross", "image", "()I"⟩
def q_y70 : MethodName := ⟨"NeverCross", "on", "()I"⟩
def q_y71 : MethodName := ⟨"NeverCross", "count", "(I)I"⟩
def q_y72 : MethodName := ⟨"NeverCross", "refuse", "(I)I"⟩
def q_y73 : MethodName := ⟨"NeverCross", "hasSlope", "()Z"⟩
def q_y74 : MethodName := ⟨"NeverCross", "studyNow", "()LNeverCross$Study;"⟩
def q_y75 : MethodName := ⟨"NeverCross", "lawNow", "()LNeverCross$Law;"⟩
def q_y76 : MethodName := ⟨"NeverCross", "ordersByLaw", "()I"⟩
def q_y77 : MethodName := ⟨"NeverCross", "familiesByLaw", "()I"⟩
def q_y78 : MethodName := ⟨"NeverCross", "familiesThrough", "(I)I"⟩
def q_y79 : MethodName := ⟨"NeverCross", "strikeOut", "(II)I"⟩
def q_y80 : MethodName := ⟨"NeverCross", "stepOfRanked", "(III)I"⟩
def q_y81 : MethodName := ⟨"NeverCross", "firstAstray", "()I"⟩
def q_y82 : MethodName := ⟨"NeverCross", "drawBelow", "(II)I"⟩
def q_y83 : MethodName := ⟨"NeverCross", "greatestDivisor", "(II)I"⟩
def q_y84 : MethodName := ⟨"NeverCross", "pilesInCorner", "(III)I"⟩
def q_y85 : MethodName := ⟨"NeverCross", "firstOrder", "(I)I"⟩
def q_y86 : MethodName := ⟨"NeverCross", "endOfOrders", "(I)I"⟩
def q_y87 : MethodName := ⟨"NeverCross", "placeOfOrder", "(II)I"⟩
def q_y88 : MethodName := ⟨"NeverCross", "ownOrder", "(I)I"⟩
def q_y89 : MethodName := ⟨"NeverCross", "wellInOrder", "(II)I"⟩
def q_y90 : MethodName := ⟨"NeverCross", "isIn", "(II)Z"⟩
def q_y91 : MethodName := ⟨"NeverCrossModel", "refuse", "(I)I"⟩
def q_y92 : MethodName := ⟨"NeverCrossModel", "isIn", "(II)Z"⟩
def q_y93 : MethodName := ⟨"NeverCrossModel", "within", "(III)I"⟩
def q_y94 : MethodName := ⟨"NeverCrossModel", "copies", "([I[I)V"⟩
def q_y95 : MethodName := ⟨"NeverCrossModel", "cells", "()I"⟩
def q_y96 : MethodName := ⟨"NeverCrossModel", "isCell", "(I)Z"⟩
def q_y97 : MethodName := ⟨"NeverCrossModel", "isDoor", "(I)Z"⟩
def q_y98 : MethodName := ⟨"NeverCrossModel", "what", "(I)I"⟩
def q_y99 : MethodName := ⟨"NeverCrossModel", "cost", "(I)I"⟩
def q_y100 : MethodName := ⟨"NeverCrossModel", "number", "(I)I"⟩
def q_y101 : MethodName := ⟨"NeverCrossModel", "letter", "(I)I"⟩
def q_y102 : MethodName := ⟨"NeverCrossModel", "tells", "(II)Z"⟩
def q_y103 : MethodName := ⟨"NeverCrossModel", "reads", "()I"⟩
def q_y104 : MethodName := ⟨"NeverCrossModel", "slope", "()I"⟩
def q_y105 : MethodName := ⟨"NeverCrossModel", "cell", "(II)I"⟩
def q_y106 : MethodName := ⟨"NeverCrossModel", "law", "(I)I"⟩
def q_y107 : MethodName := ⟨"NeverCrossModel", "digits", "()I"⟩
def q_y108 : MethodName := ⟨"NeverCrossModel", "isOrder", "(I)Z"⟩
def q_y109 : MethodName := ⟨"NeverCrossModel", "set", "(I)I"⟩
def q_y110 : MethodName := ⟨"NeverCrossModel", "cellOf", "(II)I"⟩
def q_y111 : MethodName := ⟨"NeverCrossModel", "next", "(II)I"⟩
def q_y112 : MethodName := ⟨"NeverCrossModel", "waysFrom", "(IIIII)V"⟩
def q_y113 : MethodName := ⟨"NeverCrossModel", "findsWays", "()V"⟩
def q_y114 : MethodName := ⟨"NeverCrossModel", "aloneFrom", "(II)I"⟩
def q_y115 : MethodName := ⟨"NeverCrossModel", "aloneOf", "(II)I"⟩
def q_y116 : MethodName := ⟨"NeverCrossModel", "alone", "(II)I"⟩
def q_y117 : MethodName := ⟨"NeverCrossModel", "costOf", "(I)I"⟩
def q_y118 : MethodName := ⟨"NeverCrossModel", "gathers", "(I)V"⟩
def q_y119 : MethodName := ⟨"NeverCrossModel", "familiesFrom", "(III)V"⟩
def q_y120 : MethodName := ⟨"NeverCrossModel", "findsFamilies", "(I)V"⟩
def q_y121 : MethodName := ⟨"NeverCrossModel", "wellBy", "(II)I"⟩
def q_y122 : MethodName := ⟨"NeverCrossModel", "findsByLaw", "(I)V"⟩
def q_y123 : MethodName := ⟨"NeverCrossModel", "familiesBy", "()I"⟩
def q_y124 : MethodName := ⟨"NeverCrossModel", "isSlope", "()Z"⟩
def q_y125 : MethodName := ⟨"NeverCrossModel", "allNow", "()I"⟩
def q_y126 : MethodName := ⟨"NeverCrossModel", "all", "()I"⟩
def q_y127 : MethodName := ⟨"NeverCrossModel", "signedFrom", "(II)I"⟩
def q_y128 : MethodName := ⟨"NeverCrossModel", "signed", "()I"⟩
def q_y129 : MethodName := ⟨"NeverCrossModel", "holds", "()I"⟩
def q_y130 : MethodName := ⟨"NeverCrossModel", "by", "(I)I"⟩
def q_y131 : MethodName := ⟨"NeverCrossModel", "cheap", "()I"⟩
def q_y132 : MethodName := ⟨"NeverCrossModel", "common", "(II)I"⟩
def q_y133 : MethodName := ⟨"NeverCrossModel", "used", "(II)I"⟩
def q_y134 : MethodName := ⟨"NeverCrossModel", "stepOf", "(III)I"⟩
def q_y135 : MethodName := ⟨"NeverCrossModel", "rank", "(III)I"⟩
def q_y136 : MethodName := ⟨"NeverCrossModel", "drawn", "(III)I"⟩
def q_y137 : MethodName := ⟨"NeverCrossModel", "mostFrom", "(II)I"⟩
def q_y138 : MethodName := ⟨"NeverCrossModel", "mostNow", "()I"⟩
def q_y139 : MethodName := ⟨"NeverCrossModel", "most", "()I"⟩
def q_y140 : MethodName := ⟨"NeverCrossModel", "shuts", "()I"⟩
def q_y141 : MethodName := ⟨"NeverCrossModel", "seen", "(I)I"⟩
def q_y142 : MethodName := ⟨"NeverCrossModel", "fits", "()I"⟩
def q_y143 : MethodName := ⟨"NeverCrossModel", "who", "(I)I"⟩
def q_y144 : MethodName := ⟨"NeverCrossModel", "lost", "(I)I"⟩
def q_y145 : MethodName := ⟨"NeverCrossModel", "few", "()I"⟩
def q_y146 : MethodName := ⟨"NeverCrossModel", "boxesBy", "(III)I"⟩
def q_y147 : MethodName := ⟨"NeverCrossModel", "boxes", "(III)I"⟩
def q_y148 : MethodName := ⟨"NeverCrossModel", "step", "(II)I"⟩
def q_y149 : MethodName := ⟨"NeverCrossModel", "walks", "(I)I"⟩
def q_y150 : MethodName := ⟨"NeverCrossModel", "judge", "()I"⟩
def q_y151 : MethodName := ⟨"NeverCrossModel", "clear", "()I"⟩
def q_y152 : MethodName := ⟨"NeverCrossModel", "image", "()I"⟩
def q_y153 : MethodName := ⟨"NeverCrossModel", "on", "()I"⟩
def q_y154 : MethodName := ⟨"NeverCrossModel", "count", "(I)I"⟩
def q_y155 : MethodName := ⟨"java/lang/Integer", "bitCount", "(I)I"⟩
def q_y156 : MethodName := ⟨"java/lang/Math", "max", "(II)I"⟩
def q_y157 : MethodName := ⟨"java/lang/Math", "min", "(II)I"⟩
def q_y158 : MethodName := ⟨"java/util/Arrays", "fill", "([II)V"⟩
def q_y159 : MethodName := ⟨"NeverCrossLaw", "law", "([I)Z"⟩
def q_mt : List (MethodName × ByteArray × Nat × Option FieldType) := [(q_y0, prog_2_method_2_code, 4, (some .int)),
  (q_y1, prog_3_method_2_code, 6, (some .int)),
  (q_y2, prog_3_method_3_code, 5, none),
  (q_y3, prog_4_method_2_code, 3, none),
  (q_y4, prog_4_method_3_code, 3, none),
  (q_y5, prog_4_method_4_code, 3, (some .int)),
  (q_y6, prog_4_method_5_code, 3, (some .int)),
  (q_y7, prog_4_method_6_code, 4, (some .int)),
  (q_y8, prog_4_method_7_code, 4, (some .int)),
  (q_y9, prog_4_method_8_code, 5, (some .int)),
  (q_y10, prog_4_method_9_code, 5, (some .int)),
  (q_y11, prog_5_method_3_code, 5, (some .boolean)),
  (q_y12, prog_6_method_2_code, 4, (some .int)),
  (q_y13, prog_7_method_2_code, 4, (some .int)),
  (q_y14, prog_7_method_3_code, 4, (some .int)),
  (q_y15, prog_8_method_2_code, 2, none),
  (q_y16, prog_8_method_3_code, 6, (some .int)),
  (q_y17, prog_8_method_4_code, 1, none),
  (q_y18, prog_8_method_5_code, 2, (some .boolean)),
  (q_y19, prog_8_method_6_code, 3, (some .boolean)),
  (q_y20, prog_8_method_7_code, 4, (some .boolean)),
  (q_y21, prog_8_method_8_code, 4, (some .boolean)),
  (q_y22, prog_8_method_9_code, 4, (some .boolean)),
  (q_y23, prog_8_method_10_code, 2, (some .boolean)),
  (q_y24, prog_8_method_11_code, 2, (some .boolean)),
  (q_y25, prog_8_method_12_code, 2, (some .int)),
  (q_y26, prog_8_method_13_code, 2, (some .int)),
  (q_y27, prog_8_method_14_code, 4, (some .int)),
  (q_y28, prog_8_method_15_code, 8, (some .int)),
  (q_y29, prog_8_method_16_code, 6, (some .int)),
  (q_y30, prog_9_method_2_code, 2, none),
  (q_y31, prog_9_method_3_code, 7, none),
  (q_y32, prog_9_method_4_code, 4, none),
  (q_y33, prog_9_method_5_code, 5, none),
  (q_y34, prog_9_method_6_code, 4, (some .int)),
  (q_y35, prog_9_method_7_code, 4, (some .int)),
  (q_y36, prog_9_method_8_code, 5, (some .int)),
  (q_y37, prog_9_method_9_code, 5, (some .int)),
  (q_y38, prog_9_method_10_code, 5, (some .int)),
  (q_y39, prog_10_method_2_code, 4, (some .int)),
  (q_y40, prog_11_method_2_code, 4, (some .int)),
  (q_y41, prog_12_method_2_code, 3, none),
  (q_y42, prog_12_method_3_code, 9, none),
  (q_y43, prog_12_method_4_code, 5, none),
  (q_y44, prog_1_method_2_code, 2, (some .int)),
  (q_y45, prog_1_method_3_code, 2, (some .int)),
  (q_y46, prog_1_method_4_code, 3, (some .int)),
  (q_y47, prog_1_method_5_code, 3, (some .int)),
  (q_y48, prog_1_method_6_code, 3, (some .int)),
  (q_y49, prog_1_method_7_code, 3, (some .int)),
  (q_y50, prog_1_method_8_code, 1, (some .int)),
  (q_y51, prog_1_method_9_code, 1, (some .int)),
  (q_y52, prog_1_method_10_code, 4, (some .int)),
  (q_y53, prog_1_method_11_code, 3, (some .int)),
  (q_y54, prog_1_method_12_code, 1, (some .int)),
  (q_y55, prog_1_method_13_code, 6, (some .int)),
  (q_y56, prog_1_method_14_code, 4, (some .int)),
  (q_y57, prog_1_method_15_code, 5, (some .int)),
  (q_y58, prog_1_method_16_code, 1, (some .int)),
  (q_y59, prog_1_method_17_code, 1, (some .int)),
  (q_y60, prog_1_method_18_code, 2, (some .int)),
  (q_y61, prog_1_method_19_code, 2, (some .int)),
  (q_y62, prog_1_method_20_code, 2, (some .int)),
  (q_y63, prog_1_method_21_code, 2, (some .int)),
  (q_y64, prog_1_method_22_code, 2, (some .int)),
  (q_y65, prog_1_method_23_code, 4, (some .int)),
  (q_y66, prog_1_method_24_code, 4, (some .int)),
  (q_y67, prog_1_method_25_code, 3, (some .int)),
  (q_y68, prog_1_method_26_code, 1, (some .int)),
  (q_y69, prog_1_method_27_code, 1, (some .int)),
  (q_y70, prog_1_method_28_code, 1, (some .int)),
  (q_y71, prog_1_method_29_code, 2, (some .int)),
  (q_y72, prog_1_method_30_code, 3, (some .int)),
  (q_y73, prog_1_method_31_code, 1, (some .boolean)),
  (q_y74, prog_1_method_32_code, 1, (some (.object "NeverCross$Study"))),
  (q_y75, prog_1_method_33_code, 1, (some (.object "NeverCross$Law"))),
  (q_y76, prog_1_method_34_code, 5, (some .int)),
  (q_y77, prog_1_method_35_code, 1, (some .int)),
  (q_y78, prog_1_method_36_code, 2, (some .int)),
  (q_y79, prog_1_method_37_code, 7, (some .int)),
  (q_y80, prog_1_method_38_code, 4, (some .int)),
  (q_y81, prog_1_method_39_code, 5, (some .int)),
  (q_y82, prog_1_method_40_code, 3, (some .int)),
  (q_y83, prog_1_method_41_code, 6, (some .int)),
  (q_y84, prog_1_method_42_code, 9, (some .int)),
  (q_y85, prog_1_method_43_code, 1, (some .int)),
  (q_y86, prog_1_method_44_code, 1, (some .int)),
  (q_y87, prog_1_method_45_code, 3, (some .int)),
  (q_y88, prog_1_method_46_code, 1, (some .int)),
  (q_y89, prog_1_method_47_code, 2, (some .int)),
  (q_y90, prog_1_method_48_code, 2, (some .boolean)),
  (q_y91, prog_14_method_2_code, 2, (some .int)),
  (q_y92, prog_14_method_3_code, 2, (some .boolean)),
  (q_y93, prog_14_method_4_code, 3, (some .int)),
  (q_y94, prog_14_method_5_code, 3, none),
  (q_y95, prog_14_method_6_code, 1, (some .int)),
  (q_y96, prog_14_method_7_code, 2, (some .boolean)),
  (q_y97, prog_14_method_8_code, 2, (some .boolean)),
  (q_y98, prog_14_method_9_code, 2, (some .int)),
  (q_y99, prog_14_method_10_code, 2, (some .int)),
  (q_y100, prog_14_method_11_code, 2, (some .int)),
  (q_y101, prog_14_method_12_code, 3, (some .int)),
  (q_y102, prog_14_method_13_code, 6, (some .boolean)),
  (q_y103, prog_14_method_14_code, 7, (some .int)),
  (q_y104, prog_14_method_15_code, 2, (some .int)),
  (q_y105, prog_14_method_16_code, 3, (some .int)),
  (q_y106, prog_14_method_17_code, 3, (some .int)),
  (q_y107, prog_14_method_18_code, 3, (some .int)),
  (q_y108, prog_14_method_19_code, 5, (some .boolean)),
  (q_y109, prog_14_method_20_code, 5, (some .int)),
  (q_y110, prog_14_method_21_code, 4, (some .int)),
  (q_y111, prog_14_method_22_code, 5, (some .int)),
  (q_y112, prog_14_method_23_code, 8, none),
  (q_y113, prog_14_method_24_code, 3, none),
  (q_y114, prog_14_method_25_code, 6, (some .int)),
  (q_y115, prog_14_method_26_code, 3, (some .int)),
  (q_y116, prog_14_method_27_code, 3, (some .int)),
  (q_y117, prog_14_method_28_code, 4, (some .int)),
  (q_y118, prog_14_method_29_code, 5, none),
  (q_y119, prog_14_method_30_code, 7, none),
  (q_y120, prog_14_method_31_code, 3, none),
  (q_y121, prog_14_method_32_code, 4, (some .int)),
  (q_y122, prog_14_method_33_code, 3, none),
  (q_y123, prog_14_method_34_code, 2, (some .int)),
  (q_y124, prog_14_method_35_code, 1, (some .boolean)),
  (q_y125, prog_14_method_36_code, 1, (some .int)),
  (q_y126, prog_14_method_37_code, 1, (some .int)),
  (q_y127, prog_14_method_38_code, 8, (some .int)),
  (q_y128, prog_14_method_39_code, 1, (some .int)),
  (q_y129, prog_14_method_40_code, 4, (some .int)),
  (q_y130, prog_14_method_41_code, 3, (some .int)),
  (q_y131, prog_14_method_42_code, 1, (some .int)),
  (q_y132, prog_14_method_43_code, 2, (some .int)),
  (q_y133, prog_14_method_44_code, 4, (some .int)),
  (q_y134, prog_14_method_45_code, 5, (some .int)),
  (q_y135, prog_14_method_46_code, 5, (some .int)),
  (q_y136, prog_14_method_47_code, 7, (some .int)),
  (q_y137, prog_14_method_48_code, 7, (some .int)),
  (q_y138, prog_14_method_49_code, 1, (some .int)),
  (q_y139, prog_14_method_50_code, 1, (some .int)),
  (q_y140, prog_14_method_51_code, 4, (some .int)),
  (q_y141, prog_14_method_52_code, 3, (some .int)),
  (q_y142, prog_14_method_53_code, 1, (some .int)),
  (q_y143, prog_14_method_54_code, 2, (some .int)),
  (q_y144, prog_14_method_55_code, 5, (some .int)),
  (q_y145, prog_14_method_56_code, 4, (some .int)),
  (q_y146, prog_14_method_57_code, 8, (some .int)),
  (q_y147, prog_14_method_58_code, 5, (some .int)),
  (q_y148, prog_14_method_59_code, 4, (some .int)),
  (q_y149, prog_14_method_60_code, 5, (some .int)),
  (q_y150, prog_14_method_61_code, 6, (some .int)),
  (q_y151, prog_14_method_62_code, 3, (some .int)),
  (q_y152, prog_14_method_63_code, 1, (some .int)),
  (q_y153, prog_14_method_64_code, 1, (some .int)),
  (q_y154, prog_14_method_65_code, 4, (some .int)),
  (q_y155, prog_15_method_49_code, 1, (some .int)),
  (q_y156, prog_16_method_65_code, 2, (some .int)),
  (q_y157, prog_16_method_69_code, 2, (some .int)),
  (q_y158, prog_18_method_103_code, 4, none),
  (q_y159, code, 4, (some .boolean))]
def q_mY (i : Nat) : MethodName := (q_mt.getD i (q_y0, code, 0, none)).1
def q_mB (i : Nat) : ByteArray := (q_mt.getD i (q_y0, code, 0, none)).2.1
def q_mL (i : Nat) : Nat := (q_mt.getD i (q_y0, code, 0, none)).2.2.1
def q_mR (i : Nat) : Option FieldType := (q_mt.getD i (q_y0, code, 0, none)).2.2.2
end
section
theorem k0_0 : decode (q_mB 0) 0 = .ok (.iconst 1, 1) := by decide +kernel
theorem k0_1 : decode (q_mB 0) 1 = .ok (.iload_n 2, 1) := by decide +kernel
theorem k0_2 : decode (q_mB 0) 2 = .ok (.ishl, 1) := by decide +kernel
theorem k0_3 : decode (q_mB 0) 3 = .ok (.iconst 1, 1) := by decide +kernel
theorem k0_4 : decode (q_mB 0) 4 = .ok (.isub, 1) := by decide +kernel
theorem k0_5 : decode (q_mB 0) 5 = .ok (.ireturn, 1) := by decide +kernel
theorem k1_0 : decode (q_mB 1) 0 = .ok (.iconst 0, 1) := by decide +kernel
theorem k1_1 : decode (q_mB 1) 1 = .ok (.istore 5, 2) := by decide +kernel
theorem k1_3 : decode (q_mB 1) 3 = .ok (.iload 5, 2) := by decide +kernel
theorem k1_5 : decode (q_mB 1) 5 = .ok (.aload_n 0, 1) := by decide +kernel
theorem k1_6 : decode (q_mB 1) 6 = .ok (.getfield 18, 3) := by decide +kernel
theorem k1_9 : decode (q_mB 1) 9 = .ok (.getfield 22, 3) := by decide +kernel
theorem k1_12 : decode (q_mB 1) 12 = .ok (.if_icmp .ge 30, 3) := by decide +kernel
theorem k1_15 : decode (q_mB 1) 15 = .ok (.aload_n 0, 1) := by decide +kernel
theorem k1_16 : decode (q_mB 1) 16 = .ok (.getfield 15, 3) := by decide +kernel
theorem k1_19 : decode (q_mB 1) 19 = .ok (.iload 5, 2) := by decide +kernel
theorem k1_21 : decode (q_mB 1) 21 = .ok (.aload_n 1, 1) := by decide +kernel
theorem k1_22 : decode (q_mB 1) 22 = .ok (.iload 5, 2) := by decide +kernel
theorem k1_24 : decode (q_mB 1) 24 = .ok (.aload_n 0, 1) := by decide +kernel
theorem k1_25 : decode (q_mB 1) 25 = .ok (.getfield 18, 3) := by decide +kernel
theorem k1_28 : decode (q_mB 1) 28 = .ok (.getfield 22, 3) := by decide +kernel
theorem k1_31 : decode (q_mB 1) 31 = .ok (.iload_n 2, 1) := by decide +kernel
theorem k1_32 : decode (q_mB 1) 32 = .ok (.invokevirtual 28, 3) := by decide +kernel
theorem k1_35 : decode (q_mB 1) 35 = .ok (.iastore, 1) := by decide +kernel
theorem k1_36 : decode (q_mB 1) 36 = .ok (.iinc 5 1, 3) := by decide +kernel
theorem k1_39 : decode (q_mB 1) 39 = .ok (.goto (-36), 3) := by decide +kernel
theorem k1_42 : decode (q_mB 1) 42 = .ok (.aload_n 0, 1) := by decide +kernel
theorem k1_43 : decode (q_mB 1) 43 = .ok (.iload_n 3, 1) := by decide +kernel
theorem k1_44 : decode (q_mB 1) 44 = .ok (.putfield 34, 3) := by decide +kernel
theorem k1_47 : decode (q_mB 1) 47 = .ok (.aload_n 0, 1) := by decide +kernel
theorem k1_48 : decode (q_mB 1) 48 = .ok (.iload 4, 2) := by decide +kernel
theorem k1_50 : decode (q_mB 1) 50 = .ok (.putfield 37, 3) := by decide +kernel
theorem k1_53 : decode (q_mB 1) 53 = .ok (.aload_n 0, 1) := by decide +kernel
theorem k1_54 : decode (q_mB 1) 54 = .ok (.iconst 0, 1) := by decide +kernel
theorem k1_55 : decode (q_mB 1) 55 = .ok (.putfield 40, 3) := by decide +kernel
theorem k1_58 : decode (q_mB 1) 58 = .ok (.aload_n 0, 1) := by decide +kernel
theorem k1_59 : decode (q_mB 1) 59 = .ok (.iconst 0, 1) := by decide +kernel
theorem k1_60 : decode (q_mB 1) 60 = .ok (.iconst 0, 1) := by decide +kernel
theorem k1_61 : decode (q_mB 1) 61 = .ok (.invokevirtual 43, 3) := by decide +kernel
theorem k1_64 : decode (q_mB 1) 64 = .ok (.aload_n 0, 1) := by decide +kernel
theorem k1_65 : decode (q_mB 1) 65 = .ok (.getfield 40, 3) := by decide +kernel
theorem k1_68 : decode (q_mB 1) 68 = .ok (.ireturn, 1) := by decide +kernel
theorem k2_0 : decode (q_mB 2) 0 = .ok (.iload_n 1, 1) := by decide +kernel
theorem k2_1 : decode (q_mB 2) 1 = .ok (.aload_n 0, 1) := by decide +kernel
theorem k2_2 : decode (q_mB 2) 2 = .ok (.getfield 18, 3) := by decide +kernel
theorem k2_5 : decode (q_mB 2) 5 = .ok (.getfield 22, 3) := by decide +kernel
theorem k2_8 : decode (q_mB 2) 8 = .ok (.if_icmp .lt 27, 3) := by decide +kernel
theorem k2_11 : decode (q_mB 2) 11 = .ok (.iload_n 2, 1) := by decide +kernel
theorem k2_12 : decode (q_mB 2) 12 = .ok (.aload_n 0, 1) := by decide +kernel
theorem k2_13 : decode (q_mB 2) 13 = .ok (.getfield 34, 3) := by decide +kernel
theorem k2_16 : decode (q_mB 2) 16 = .ok (.iand, 1) := by decide +kernel
theorem k2_17 : decode (q_mB 2) 17 = .ok (.aload_n 0, 1) := by decide +kernel
theorem k2_18 : decode (q_mB 2) 18 = .ok (.getfield 34, 3) := by decide +kernel
theorem k2_21 : decode (q_mB 2) 21 = .ok (.if_icmp .ne 13, 3) := by decide +kernel
theorem k2_24 : decode (q_mB 2) 24 = .ok (.aload_n 0, 1) := by decide +kernel
theorem k2_25 : decode (q_mB 2) 25 = .ok (.dup, 1) := by decide +kernel
theorem k2_26 : decode (q_mB 2) 26 = .ok (.getfield 40, 3) := by decide +kernel
theorem k2_29 : decode (q_mB 2) 29 = .ok (.iconst 1, 1) := by decide +kernel
theorem k2_30 : decode (q_mB 2) 30 = .ok (.iadd, 1) := by decide +kernel
theorem k2_31 : decode (q_mB 2) 31 = .ok (.putfield 40, 3) := by decide +kernel
theorem k2_34 : decode (q_mB 2) 34 = .ok (.return_, 1) := by decide +kernel
theorem k2_35 : decode (q_mB 2) 35 = .ok (.iconst 0, 1) := by decide +kernel
theorem k2_36 : decode (q_mB 2) 36 = .ok (.istore_n 3, 1) := by decide +kernel
theorem k2_37 : decode (q_mB 2) 37 = .ok (.iload_n 3, 1) := by decide +kernel
theorem k2_38 : decode (q_mB 2) 38 = .ok (.aload_n 0, 1) := by decide +kernel
theorem k2_39 : decode (q_mB 2) 39 = .ok (.getfield 18, 3) := by decide +kernel
theorem k2_42 : decode (q_mB 2) 42 = .ok (.getfield 47, 3) := by decide +kernel
theorem k2_45 : decode (q_mB 2) 45 = .ok (.iload_n 1, 1) := by decide +kernel
theorem k2_46 : decode (q_mB 2) 46 = .ok (.iaload, 1) := by decide +kernel
theorem k2_47 : decode (q_mB 2) 47 = .ok (.if_icmp .ge 82, 3) := by decide +kernel
theorem k2_50 : decode (q_mB 2) 50 = .ok (.aload_n 0, 1) := by decide +kernel
theorem k2_51 : decode (q_mB 2) 51 = .ok (.getfield 40, 3) := by decide +kernel
theorem k2_54 : decode (q_mB 2) 54 = .ok (.aload_n 0, 1) := by decide +kernel
theorem k2_55 : decode (q_mB 2) 55 = .ok (.getfield 37, 3) := by decide +kernel
theorem k2_58 : decode (q_mB 2) 58 = .ok (.if_icmp .ge 71, 3) := by decide +kernel
theorem k2_61 : decode (q_mB 2) 61 = .ok (.aload_n 0, 1) := by decide +kernel
theorem k2_62 : decode (q_mB 2) 62 = .ok (.getfield 18, 3) := by decide +kernel
theorem k2_65 : decode (q_mB 2) 65 = .ok (.getfield 50, 3) := by decide +kernel
theorem k2_68 : decode (q_mB 2) 68 = .ok (.iload_n 1, 1) := by decide +kernel
theorem k2_69 : decode (q_mB 2) 69 = .ok (.aaload, 1) := by decide +kernel
theorem k2_70 : decode (q_mB 2) 70 = .ok (.iload_n 3, 1) := by decide +kernel
theorem k2_71 : decode (q_mB 2) 71 = .ok (.iaload, 1) := by decide +kernel
theorem k2_72 : decode (q_mB 2) 72 = .ok (.istore 4, 2) := by decide +kernel
theorem k2_74 : decode (q_mB 2) 74 = .ok (.iload 4, 2) := by decide +kernel
theorem k2_76 : decode (q_mB 2) 76 = .ok (.iload_n 2, 1) := by decide +kernel
theorem k2_77 : decode (q_mB 2) 77 = .ok (.iand, 1) := by decide +kernel
theorem k2_78 : decode (q_mB 2) 78 = .ok (.ifCond .ne 45, 3) := by decide +kernel
theorem k2_81 : decode (q_mB 2) 81 = .ok (.aload_n 0, 1) := by decide +kernel
theorem k2_82 : decode (q_mB 2) 82 = .ok (.getfield 15, 3) := by decide +kernel
theorem k2_85 : decode (q_mB 2) 85 = .ok (.iload_n 1, 1) := by decide +kernel
theorem k2_86 : decode (q_mB 2) 86 = .ok (.iaload, 1) := by decide +kernel
theorem k2_87 : decode (q_mB 2) 87 = .ok (.aload_n 0, 1) := by decide +kernel
theorem k2_88 : decode (q_mB 2) 88 = .ok (.getfield 18, 3) := by decide +kernel
theorem k2_91 : decode (q_mB 2) 91 = .ok (.getfield 54, 3) := by decide +kernel
theorem k2_94 : decode (q_mB 2) 94 = .ok (.iload_n 1, 1) := by decide +kernel
theorem k2_95 : decode (q_mB 2) 95 = .ok (.aaload, 1) := by decide +kernel
theorem k2_96 : decode (q_mB 2) 96 = .ok (.iload_n 3, 1) := by decide +kernel
theorem k2_97 : decode (q_mB 2) 97 = .ok (.iaload, 1) := by decide +kernel
theorem k2_98 : decode (q_mB 2) 98 = .ok (.ishr, 1) := by decide +kernel
theorem k2_99 : decode (q_mB 2) 99 = .ok (.iconst 1, 1) := by decide +kernel
theorem k2_100 : decode (q_mB 2) 100 = .ok (.iand, 1) := by decide +kernel
theorem k2_101 : decode (q_mB 2) 101 = .ok (.ifCond .eq 22, 3) := by decide +kernel
theorem k2_104 : decode (q_mB 2) 104 = .ok (.aload_n 0, 1) := by decide +kernel
theorem k2_105 : decode (q_mB 2) 105 = .ok (.getfield 9, 3) := by decide +kernel
theorem k2_108 : decode (q_mB 2) 108 = .ok (.iload_n 1, 1) := by decide +kernel
theorem k2_109 : decode (q_mB 2) 109 = .ok (.iload 4, 2) := by decide +kernel
theorem k2_111 : decode (q_mB 2) 111 = .ok (.iastore, 1) := by decide +kernel
theorem k2_112 : decode (q_mB 2) 112 = .ok (.aload_n 0, 1) := by decide +kernel
theorem k2_113 : decode (q_mB 2) 113 = .ok (.iload_n 1, 1) := by decide +kernel
theorem k2_114 : decode (q_mB 2) 114 = .ok (.iconst 1, 1) := by decide +kernel
theorem k2_115 : decode (q_mB 2) 115 = .ok (.iadd, 1) := by decide +kernel
theorem k2_116 : decode (q_mB 2) 116 = .ok (.iload_n 2, 1) := by decide +kernel
theorem k2_117 : decode (q_mB 2) 117 = .ok (.iload 4, 2) := by decide +kernel
theorem k2_119 : decode (q_mB 2) 119 = .ok (.ior, 1) := by decide +kernel
theorem k2_120 : decode (q_mB 2) 120 = .ok (.invokevirtual 43, 3) := by decide +kernel
theorem k2_123 : decode (q_mB 2) 123 = .ok (.iinc 3 1, 3) := by decide +kernel
theorem k2_126 : decode (q_mB 2) 126 = .ok (.goto (-89), 3) := by decide +kernel
theorem k2_129 : decode (q_mB 2) 129 = .ok (.return_, 1) := by decide +kernel
theorem k3_0 : decode (q_mB 3) 0 = .ok (.aload_n 0, 1) := by decide +kernel
theorem k3_1 : decode (q_mB 3) 1 = .ok (.getfield 12, 3) := by decide +kernel
theorem k3_4 : decode (q_mB 3) 4 = .ok (.aload_n 1, 1) := by decide +kernel
theorem k3_5 : decode (q_mB 3) 5 = .ok (.getfield 12, 3) := by decide +kernel
theorem k3_8 : decode (q_mB 3) 8 = .ok (.invokevirtual 34, 3) := by decide +kernel
theorem k3_11 : decode (q_mB 3) 11 = .ok (.aload_n 0, 1) := by decide +kernel
theorem k3_12 : decode (q_mB 3) 12 = .ok (.aload_n 1, 1) := by decide +kernel
theorem k3_13 : decode (q_mB 3) 13 = .ok (.getfield 38, 3) := by decide +kernel
theorem k3_16 : decode (q_mB 3) 16 = .ok (.putfield 38, 3) := by decide +kernel
theorem k3_19 : decode (q_mB 3) 19 = .ok (.aload_n 0, 1) := by decide +kernel
theorem k3_20 : decode (q_mB 3) 20 = .ok (.aload_n 1, 1) := by decide +kernel
theorem k3_21 : decode (q_mB 3) 21 = .ok (.getfield 18, 3) := by decide +kernel
theorem k3_24 : decode (q_mB 3) 24 = .ok (.putfield 18, 3) := by decide +kernel
theorem k3_27 : decode (q_mB 3) 27 = .ok (.aload_n 0, 1) := by decide +kernel
theorem k3_28 : decode (q_mB 3) 28 = .ok (.aload_n 1, 1) := by decide +kernel
theorem k3_29 : decode (q_mB 3) 29 = .ok (.getfield 41, 3) := by decide +kernel
theorem k3_32 : decode (q_mB 3) 32 = .ok (.putfield 41, 3) := by decide +kernel
theorem k3_35 : decode (q_mB 3) 35 = .ok (.aload_n 0, 1) := by decide +kernel
theorem k3_36 : decode (q_mB 3) 36 = .ok (.aload_n 1, 1) := by decide +kernel
theorem k3_37 : decode (q_mB 3) 37 = .ok (.getfield 44, 3) := by decide +kernel
theorem k3_40 : decode (q_mB 3) 40 = .ok (.putfield 44, 3) := by decide +kernel
theorem k3_43 : decode (q_mB 3) 43 = .ok (.aload_n 1, 1) := by decide +kernel
theorem k3_44 : decode (q_mB 3) 44 = .ok (.getfield 22, 3) := by decide +kernel
theorem k3_47 : decode (q_mB 3) 47 = .ok (.iconst 0, 1) := by decide +kernel
theorem k3_48 : decode (q_mB 3) 48 = .ok (.aload_n 0, 1) := by decide +kernel
theorem k3_49 : decode (q_mB 3) 49 = .ok (.getfield 22, 3) := by decide +kernel
theorem k3_52 : decode (q_mB 3) 52 = .ok (.iconst 0, 1) := by decide +kernel
theorem k3_53 : decode (q_mB 3) 53 = .ok (.iconst 4, 1) := by decide +kernel
theorem k3_54 : decode (q_mB 3) 54 = .ok (.invokestatic 47, 3) := by decide +kernel
theorem k3_57 : decode (q_mB 3) 57 = .ok (.aload_n 1, 1) := by decide +kernel
theorem k3_58 : decode (q_mB 3) 58 = .ok (.getfield 26, 3) := by decide +kernel
theorem k3_61 : decode (q_mB 3) 61 = .ok (.iconst 0, 1) := by decide +kernel
theorem k3_62 : decode (q_mB 3) 62 = .ok (.aload_n 0, 1) := by decide +kernel
theorem k3_63 : decode (q_mB 3) 63 = .ok (.getfield 26, 3) := by decide +kernel
theorem k3_66 : decode (q_mB 3) 66 = .ok (.iconst 0, 1) := by decide +kernel
theorem k3_67 : decode (q_mB 3) 67 = .ok (.iconst 3, 1) := by decide +kernel
theorem k3_68 : decode (q_mB 3) 68 = .ok (.invokestatic 47, 3) := by decide +kernel
theorem k3_71 : decode (q_mB 3) 71 = .ok (.iconst 0, 1) := by decide +kernel
theorem k3_72 : decode (q_mB 3) 72 = .ok (.istore_n 2, 1) := by decide +kernel
theorem k3_73 : decode (q_mB 3) 73 = .ok (.iload_n 2, 1) := by decide +kernel
theorem k3_74 : decode (q_mB 3) 74 = .ok (.iconst 3, 1) := by decide +kernel
theorem k3_75 : decode (q_mB 3) 75 = .ok (.if_icmp .ge 28, 3) := by decide +kernel
theorem k3_78 : decode (q_mB 3) 78 = .ok (.aload_n 1, 1) := by decide +kernel
theorem k3_79 : decode (q_mB 3) 79 = .ok (.getfield 31, 3) := by decide +kernel
theorem k3_82 : decode (q_mB 3) 82 = .ok (.iload_n 2, 1) := by decide +kernel
theorem k3_83 : decode (q_mB 3) 83 = .ok (.aaload, 1) := by decide +kernel
theorem k3_84 : decode (q_mB 3) 84 = .ok (.iconst 0, 1) := by decide +kernel
theorem k3_85 : decode (q_mB 3) 85 = .ok (.aload_n 0, 1) := by decide +kernel
theorem k3_86 : decode (q_mB 3) 86 = .ok (.getfield 31, 3) := by decide +kernel
theorem k3_89 : decode (q_mB 3) 89 = .ok (.iload_n 2, 1) := by decide +kernel
theorem k3_90 : decode (q_mB 3) 90 = .ok (.aaload, 1) := by decide +kernel
theorem k3_91 : decode (q_mB 3) 91 = .ok (.iconst 0, 1) := by decide +kernel
theorem k3_92 : decode (q_mB 3) 92 = .ok (.bipush 10, 2) := by decide +kernel
theorem k3_94 : decode (q_mB 3) 94 = .ok (.invokestatic 47, 3) := by decide +kernel
theorem k3_97 : decode (q_mB 3) 97 = .ok (.iinc 2 1, 3) := by decide +kernel
theorem k3_100 : decode (q_mB 3) 100 = .ok (.goto (-27), 3) := by decide +kernel
theorem k3_103 : decode (q_mB 3) 103 = .ok (.return_, 1) := by decide +kernel
theorem k4_0 : decode (q_mB 4) 0 = .ok (.aload_n 0, 1) := by decide +kernel
theorem k4_1 : decode (q_mB 4) 1 = .ok (.getfield 12, 3) := by decide +kernel
theorem k4_4 : decode (q_mB 4) 4 = .ok (.aload_n 1, 1) := by decide +kernel
theorem k4_5 : decode (q_mB 4) 5 = .ok (.invokevirtual 34, 3) := by decide +kernel
theorem k4_8 : decode (q_mB 4) 8 = .ok (.aload_n 0, 1) := by decide +kernel
theorem k4_9 : decode (q_mB 4) 9 = .ok (.iload_n 2, 1) := by decide +kernel
theorem k4_10 : decode (q_mB 4) 10 = .ok (.putfield 38, 3) := by decide +kernel
theorem k4_13 : decode (q_mB 4) 13 = .ok (.aload_n 0, 1) := by decide +kernel
theorem k4_14 : decode (q_mB 4) 14 = .ok (.aload_n 0, 1) := by decide +kernel
theorem k4_15 : decode (q_mB 4) 15 = .ok (.getfield 12, 3) := by decide +kernel
theorem k4_18 : decode (q_mB 4) 18 = .ok (.getfield 53, 3) := by decide +kernel
theorem k4_21 : decode (q_mB 4) 21 = .ok (.invokestatic 56, 3) := by decide +kernel
theorem k4_24 : decode (q_mB 4) 24 = .ok (.putfield 41, 3) := by decide +kernel
theorem k4_27 : decode (q_mB 4) 27 = .ok (.aload_n 0, 1) := by decide +kernel
theorem k4_28 : decode (q_mB 4) 28 = .ok (.invokevirtual 60, 3) := by decide +kernel
theorem k4_31 : decode (q_mB 4) 31 = .ok (.pop, 1) := by decide +kernel
theorem k4_32 : decode (q_mB 4) 32 = .ok (.return_, 1) := by decide +kernel
theorem k5_0 : decode (q_mB 5) 0 = .ok (.iconst 0, 1) := by decide +kernel
theorem k5_1 : decode (q_mB 5) 1 = .ok (.istore_n 1, 1) := by decide +kernel
theorem k5_2 : decode (q_mB 5) 2 = .ok (.iconst 0, 1) := by decide +kernel
theorem k5_3 : decode (q_mB 5) 3 = .ok (.istore_n 2, 1) := by decide +kernel
theorem k5_4 : decode (q_mB 5) 4 = .ok (.iload_n 2, 1) := by decide +kernel
theorem k5_5 : decode (q_mB 5) 5 = .ok (.iconst 3, 1) := by decide +kernel
theorem k5_6 : decode (q_mB 5) 6 = .ok (.if_icmp .ge 25, 3) := by decide +kernel
theorem k5_9 : decode (q_mB 5) 9 = .ok (.iload_n 1, 1) := by decide +kernel
theorem k5_10 : decode (q_mB 5) 10 = .ok (.aload_n 0, 1) := by decide +kernel
theorem k5_11 : decode (q_mB 5) 11 = .ok (.getfield 26, 3) := by decide +kernel
theorem k5_14 : decode (q_mB 5) 14 = .ok (.iload_n 2, 1) := by decide +kernel
theorem k5_15 : decode (q_mB 5) 15 = .ok (.iaload, 1) := by decide +kernel
theorem k5_16 : decode (q_mB 5) 16 = .ok (.iadd, 1) := by decide +kernel
theorem k5_17 : decode (q_mB 5) 17 = .ok (.istore_n 1, 1) := by decide +kernel
theorem k5_18 : decode (q_mB 5) 18 = .ok (.aload_n 0, 1) := by decide +kernel
theorem k5_19 : decode (q_mB 5) 19 = .ok (.getfield 26, 3) := by decide +kernel
theorem k5_22 : decode (q_mB 5) 22 = .ok (.iload_n 2, 1) := by decide +kernel
theorem k5_23 : decode (q_mB 5) 23 = .ok (.iconst 0, 1) := by decide +kernel
theorem k5_24 : decode (q_mB 5) 24 = .ok (.iastore, 1) := by decide +kernel
theorem k5_25 : decode (q_mB 5) 25 = .ok (.iinc 2 1, 3) := by decide +kernel
theorem k5_28 : decode (q_mB 5) 28 = .ok (.goto (-24), 3) := by decide +kernel
theorem k5_31 : decode (q_mB 5) 31 = .ok (.aload_n 0, 1) := by decide +kernel
theorem k5_32 : decode (q_mB 5) 32 = .ok (.iconst 0, 1) := by decide +kernel
theorem k5_33 : decode (q_mB 5) 33 = .ok (.putfield 44, 3) := by decide +kernel
theorem k5_36 : decode (q_mB 5) 36 = .ok (.iload_n 1, 1) := by decide +kernel
theorem k5_37 : decode (q_mB 5) 37 = .ok (.ireturn, 1) := by decide +kernel
theorem k6_0 : decode (q_mB 6) 0 = .ok (.iconst 0, 1) := by decide +kernel
theorem k6_1 : decode (q_mB 6) 1 = .ok (.istore_n 1, 1) := by decide +kernel
theorem k6_2 : decode (q_mB 6) 2 = .ok (.iconst 0, 1) := by decide +kernel
theorem k6_3 : decode (q_mB 6) 3 = .ok (.istore_n 2, 1) := by decide +kernel
theorem k6_4 : decode (q_mB 6) 4 = .ok (.iload_n 2, 1) := by decide +kernel
theorem k6_5 : decode (q_mB 6) 5 = .ok (.aload_n 0, 1) := by decide +kernel
theorem k6_6 : decode (q_mB 6) 6 = .ok (.getfield 44, 3) := by decide +kernel
theorem k6_9 : decode (q_mB 6) 9 = .ok (.if_icmp .ge 20, 3) := by decide +kernel
theorem k6_12 : decode (q_mB 6) 12 = .ok (.iload_n 1, 1) := by decide +kernel
theorem k6_13 : decode (q_mB 6) 13 = .ok (.iconst 1, 1) := by decide +kernel
theorem k6_14 : decode (q_mB 6) 14 = .ok (.aload_n 0, 1) := by decide +kernel
theorem k6_15 : decode (q_mB 6) 15 = .ok (.getfield 22, 3) := by decide +kernel
theorem k6_18 : decode (q_mB 6) 18 = .ok (.iload_n 2, 1) := by decide +kernel
theorem k6_19 : decode (q_mB 6) 19 = .ok (.iaload, 1) := by decide +kernel
theorem k6_20 : decode (q_mB 6) 20 = .ok (.ishl, 1) := by decide +kernel
theorem k6_21 : decode (q_mB 6) 21 = .ok (.ior, 1) := by decide +kernel
theorem k6_22 : decode (q_mB 6) 22 = .ok (.istore_n 1, 1) := by decide +kernel
theorem k6_23 : decode (q_mB 6) 23 = .ok (.iinc 2 1, 3) := by decide +kernel
theorem k6_26 : decode (q_mB 6) 26 = .ok (.goto (-22), 3) := by decide +kernel
theorem k6_29 : decode (q_mB 6) 29 = .ok (.iload_n 1, 1) := by decide +kernel
theorem k6_30 : decode (q_mB 6) 30 = .ok (.ireturn, 1) := by decide +kernel
theorem k7_0 : decode (q_mB 7) 0 = .ok (.iconst 0, 1) := by decide +kernel
theorem k7_1 : decode (q_mB 7) 1 = .ok (.istore_n 1, 1) := by decide +kernel
theorem k7_2 : decode (q_mB 7) 2 = .ok (.iload_n 1, 1) := by decide +kernel
theorem k7_3 : decode (q_mB 7) 3 = .ok (.aload_n 0, 1) := by decide +kernel
theorem k7_4 : decode (q_mB 7) 4 = .ok (.getfield 12, 3) := by decide +kernel
theorem k7_7 : decode (q_mB 7) 7 = .ok (.getfield 53, 3) := by decide +kernel
theorem k7_10 : decode (q_mB 7) 10 = .ok (.if_icmp .ge 64, 3) := by decide +kernel
theorem k7_13 : decode (q_mB 7) 13 = .ok (.aload_n 0, 1) := by decide +kernel
theorem k7_14 : decode (q_mB 7) 14 = .ok (.getfield 12, 3) := by decide +kernel
theorem k7_17 : decode (q_mB 7) 17 = .ok (.iload_n 1, 1) := by decide +kernel
theorem k7_18 : decode (q_mB 7) 18 = .ok (.invokevirtual 64, 3) := by decide +kernel
theorem k7_21 : decode (q_mB 7) 21 = .ok (.istore_n 2, 1) := by decide +kernel
theorem k7_22 : decode (q_mB 7) 22 = .ok (.iconst 0, 1) := by decide +kernel
theorem k7_23 : decode (q_mB 7) 23 = .ok (.istore_n 3, 1) := by decide +kernel
theorem k7_24 : decode (q_mB 7) 24 = .ok (.iload_n 3, 1) := by decide +kernel
theorem k7_25 : decode (q_mB 7) 25 = .ok (.aload_n 0, 1) := by decide +kernel
theorem k7_26 : decode (q_mB 7) 26 = .ok (.getfield 26, 3) := by decide +kernel
theorem k7_29 : decode (q_mB 7) 29 = .ok (.iload_n 1, 1) := by decide +kernel
theorem k7_30 : decode (q_mB 7) 30 = .ok (.iaload, 1) := by decide +kernel
theorem k7_31 : decode (q_mB 7) 31 = .ok (.if_icmp .ge 37, 3) := by decide +kernel
theorem k7_34 : decode (q_mB 7) 34 = .ok (.aload_n 0, 1) := by decide +kernel
theorem k7_35 : decode (q_mB 7) 35 = .ok (.getfield 12, 3) := by decide +kernel
theorem k7_38 : decode (q_mB 7) 38 = .ok (.iload_n 2, 1) := by decide +kernel
theorem k7_39 : decode (q_mB 7) 39 = .ok (.aload_n 0, 1) := by decide +kernel
theorem k7_40 : decode (q_mB 7) 40 = .ok (.getfield 31, 3) := by decide +kernel
theorem k7_43 : decode (q_mB 7) 43 = .ok (.iload_n 1, 1) := by decide +kernel
theorem k7_44 : decode (q_mB 7) 44 = .ok (.aaload, 1) := by decide +kernel
theorem k7_45 : decode (q_mB 7) 45 = .ok (.iload_n 3, 1) := by decide +kernel
theorem k7_46 : decode (q_mB 7) 46 = .ok (.iaload, 1) := by decide +kernel
theorem k7_47 : decode (q_mB 7) 47 = .ok (.invokevirtual 67, 3) := by decide +kernel
theorem k7_50 : decode (q_mB 7) 50 = .ok (.istore_n 2, 1) := by decide +kernel
theorem k7_51 : decode (q_mB 7) 51 = .ok (.iload_n 2, 1) := by decide +kernel
theorem k7_52 : decode (q_mB 7) 52 = .ok (.ifCond .ge 10, 3) := by decide +kernel
theorem k7_55 : decode (q_mB 7) 55 = .ok (.bipush 20, 2) := by decide +kernel
theorem k7_57 : decode (q_mB 7) 57 = .ok (.iload_n 1, 1) := by decide +kernel
theorem k7_58 : decode (q_mB 7) 58 = .ok (.imul, 1) := by decide +kernel
theorem k7_59 : decode (q_mB 7) 59 = .ok (.iload_n 3, 1) := by decide +kernel
theorem k7_60 : decode (q_mB 7) 60 = .ok (.iadd, 1) := by decide +kernel
theorem k7_61 : decode (q_mB 7) 61 = .ok (.ireturn, 1) := by decide +kernel
theorem k7_62 : decode (q_mB 7) 62 = .ok (.iinc 3 1, 3) := by decide +kernel
theorem k7_65 : decode (q_mB 7) 65 = .ok (.goto (-41), 3) := by decide +kernel
theorem k7_68 : decode (q_mB 7) 68 = .ok (.iinc 1 1, 3) := by decide +kernel
theorem k7_71 : decode (q_mB 7) 71 = .ok (.goto (-69), 3) := by decide +kernel
theorem k7_74 : decode (q_mB 7) 74 = .ok (.iconst (-1), 1) := by decide +kernel
theorem k7_75 : decode (q_mB 7) 75 = .ok (.ireturn, 1) := by decide +kernel
theorem k8_0 : decode (q_mB 8) 0 = .ok (.aload_n 0, 1) := by decide +kernel
theorem k8_1 : decode (q_mB 8) 1 = .ok (.getfield 12, 3) := by decide +kernel
theorem k8_4 : decode (q_mB 8) 4 = .ok (.iload_n 1, 1) := by decide +kernel
theorem k8_5 : decode (q_mB 8) 5 = .ok (.invokevirtual 64, 3) := by decide +kernel
theorem k8_8 : decode (q_mB 8) 8 = .ok (.istore_n 2, 1) := by decide +kernel
theorem k8_9 : decode (q_mB 8) 9 = .ok (.iconst 0, 1) := by decide +kernel
theorem k8_10 : decode (q_mB 8) 10 = .ok (.istore_n 3, 1) := by decide +kernel
theorem k8_11 : decode (q_mB 8) 11 = .ok (.iload_n 3, 1) := by decide +kernel
theorem k8_12 : decode (q_mB 8) 12 = .ok (.aload_n 0, 1) := by decide +kernel
theorem k8_13 : decode (q_mB 8) 13 = .ok (.getfield 26, 3) := by decide +kernel
theorem k8_16 : decode (q_mB 8) 16 = .ok (.iload_n 1, 1) := by decide +kernel
theorem k8_17 : decode (q_mB 8) 17 = .ok (.iaload, 1) := by decide +kernel
theorem k8_18 : decode (q_mB 8) 18 = .ok (.if_icmp .ge 26, 3) := by decide +kernel
theorem k8_21 : decode (q_mB 8) 21 = .ok (.aload_n 0, 1) := by decide +kernel
theorem k8_22 : decode (q_mB 8) 22 = .ok (.getfield 12, 3) := by decide +kernel
theorem k8_25 : decode (q_mB 8) 25 = .ok (.iload_n 2, 1) := by decide +kernel
theorem k8_26 : decode (q_mB 8) 26 = .ok (.aload_n 0, 1) := by decide +kernel
theorem k8_27 : decode (q_mB 8) 27 = .ok (.getfield 31, 3) := by decide +kernel
theorem k8_30 : decode (q_mB 8) 30 = .ok (.iload_n 1, 1) := by decide +kernel
theorem k8_31 : decode (q_mB 8) 31 = .ok (.aaload, 1) := by decide +kernel
theorem k8_32 : decode (q_mB 8) 32 = .ok (.iload_n 3, 1) := by decide +kernel
theorem k8_33 : decode (q_mB 8) 33 = .ok (.iaload, 1) := by decide +kernel
theorem k8_34 : decode (q_mB 8) 34 = .ok (.invokevirtual 67, 3) := by decide +kernel
theorem k8_37 : decode (q_mB 8) 37 = .ok (.istore_n 2, 1) := by decide +kernel
theorem k8_38 : decode (q_mB 8) 38 = .ok (.iinc 3 1, 3) := by decide +kernel
theorem k8_41 : decode (q_mB 8) 41 = .ok (.goto (-30), 3) := by decide +kernel
theorem k8_44 : decode (q_mB 8) 44 = .ok (.iload_n 2, 1) := by decide +kernel
theorem k8_45 : decode (q_mB 8) 45 = .ok (.ireturn, 1) := by decide +kernel
theorem k9_0 : decode (q_mB 9) 0 = .ok (.aload_n 0, 1) := by decide +kernel
theorem k9_1 : decode (q_mB 9) 1 = .ok (.getfield 12, 3) := by decide +kernel
theorem k9_4 : decode (q_mB 9) 4 = .ok (.iload_n 1, 1) := by decide +kernel
theorem k9_5 : decode (q_mB 9) 5 = .ok (.invokevirtual 64, 3) := by decide +kernel
theorem k9_8 : decode (q_mB 9) 8 = .ok (.istore_n 2, 1) := by decide +kernel
theorem k9_9 : decode (q_mB 9) 9 = .ok (.iconst 1, 1) := by decide +kernel
theorem k9_10 : decode (q_mB 9) 10 = .ok (.iload_n 2, 1) := by decide +kernel
theorem k9_11 : decode (q_mB 9) 11 = .ok (.ishl, 1) := by decide +kernel
theorem k9_12 : decode (q_mB 9) 12 = .ok (.istore_n 3, 1) := by decide +kernel
theorem k9_13 : decode (q_mB 9) 13 = .ok (.iconst 0, 1) := by decide +kernel
theorem k9_14 : decode (q_mB 9) 14 = .ok (.istore 4, 2) := by decide +kernel
theorem k9_16 : decode (q_mB 9) 16 = .ok (.iload 4, 2) := by decide +kernel
theorem k9_18 : decode (q_mB 9) 18 = .ok (.aload_n 0, 1) := by decide +kernel
theorem k9_19 : decode (q_mB 9) 19 = .ok (.getfield 26, 3) := by decide +kernel
theorem k9_22 : decode (q_mB 9) 22 = .ok (.iload_n 1, 1) := by decide +kernel
theorem k9_23 : decode (q_mB 9) 23 = .ok (.iaload, 1) := by decide +kernel
theorem k9_24 : decode (q_mB 9) 24 = .ok (.if_icmp .ge 41, 3) := by decide +kernel
theorem k9_27 : decode (q_mB 9) 27 = .ok (.iload_n 2, 1) := by decide +kernel
theorem k9_28 : decode (q_mB 9) 28 = .ok (.ifCond .lt 37, 3) := by decide +kernel
theorem k9_31 : decode (q_mB 9) 31 = .ok (.aload_n 0, 1) := by decide +kernel
theorem k9_32 : decode (q_mB 9) 32 = .ok (.getfield 12, 3) := by decide +kernel
theorem k9_35 : decode (q_mB 9) 35 = .ok (.iload_n 2, 1) := by decide +kernel
theorem k9_36 : decode (q_mB 9) 36 = .ok (.aload_n 0, 1) := by decide +kernel
theorem k9_37 : decode (q_mB 9) 37 = .ok (.getfield 31, 3) := by decide +kernel
theorem k9_40 : decode (q_mB 9) 40 = .ok (.iload_n 1, 1) := by decide +kernel
theorem k9_41 : decode (q_mB 9) 41 = .ok (.aaload, 1) := by decide +kernel
theorem k9_42 : decode (q_mB 9) 42 = .ok (.iload 4, 2) := by decide +kernel
theorem k9_44 : decode (q_mB 9) 44 = .ok (.iaload, 1) := by decide +kernel
theorem k9_45 : decode (q_mB 9) 45 = .ok (.invokevirtual 67, 3) := by decide +kernel
theorem k9_48 : decode (q_mB 9) 48 = .ok (.istore_n 2, 1) := by decide +kernel
theorem k9_49 : decode (q_mB 9) 49 = .ok (.iload_n 2, 1) := by decide +kernel
theorem k9_50 : decode (q_mB 9) 50 = .ok (.ifCond .lt 9, 3) := by decide +kernel
theorem k9_53 : decode (q_mB 9) 53 = .ok (.iload_n 3, 1) := by decide +kernel
theorem k9_54 : decode (q_mB 9) 54 = .ok (.iconst 1, 1) := by decide +kernel
theorem k9_55 : decode (q_mB 9) 55 = .ok (.iload_n 2, 1) := by decide +kernel
theorem k9_56 : decode (q_mB 9) 56 = .ok (.ishl, 1) := by decide +kernel
theorem k9_57 : decode (q_mB 9) 57 = .ok (.ior, 1) := by decide +kernel
theorem k9_58 : decode (q_mB 9) 58 = .ok (.istore_n 3, 1) := by decide +kernel
theorem k9_59 : decode (q_mB 9) 59 = .ok (.iinc 4 1, 3) := by decide +kernel
theorem k9_62 : decode (q_mB 9) 62 = .ok (.goto (-46), 3) := by decide +kernel
theorem k9_65 : decode (q_mB 9) 65 = .ok (.iload_n 3, 1) := by decide +kernel
theorem k9_66 : decode (q_mB 9) 66 = .ok (.ireturn, 1) := by decide +kernel
theorem k10_0 : decode (q_mB 10) 0 = .ok (.iconst 0, 1) := by decide +kernel
theorem k10_1 : decode (q_mB 10) 1 = .ok (.istore_n 1, 1) := by decide +kernel
theorem k10_2 : decode (q_mB 10) 2 = .ok (.iconst 0, 1) := by decide +kernel
theorem k10_3 : decode (q_mB 10) 3 = .ok (.istore_n 2, 1) := by decide +kernel
theorem k10_4 : decode (q_mB 10) 4 = .ok (.iconst 0, 1) := by decide +kernel
theorem k10_5 : decode (q_mB 10) 5 = .ok (.istore_n 3, 1) := by decide +kernel
theorem k10_6 : decode (q_mB 10) 6 = .ok (.iload_n 3, 1) := by decide +kernel
theorem k10_7 : decode (q_mB 10) 7 = .ok (.aload_n 0, 1) := by decide +kernel
theorem k10_8 : decode (q_mB 10) 8 = .ok (.getfield 12, 3) := by decide +kernel
theorem k10_11 : decode (q_mB 10) 11 = .ok (.getfield 53, 3) := by decide +kernel
theorem k10_14 : decode (q_mB 10) 14 = .ok (.if_icmp .ge 28, 3) := by decide +kernel
theorem k10_17 : decode (q_mB 10) 17 = .ok (.aload_n 0, 1) := by decide +kernel
theorem k10_18 : decode (q_mB 10) 18 = .ok (.iload_n 3, 1) := by decide +kernel
theorem k10_19 : decode (q_mB 10) 19 = .ok (.invokevirtual 71, 3) := by decide +kernel
theorem k10_22 : decode (q_mB 10) 22 = .ok (.istore 4, 2) := by decide +kernel
theorem k10_24 : decode (q_mB 10) 24 = .ok (.iload_n 2, 1) := by decide +kernel
theorem k10_25 : decode (q_mB 10) 25 = .ok (.iload_n 1, 1) := by decide +kernel
theorem k10_26 : decode (q_mB 10) 26 = .ok (.iload 4, 2) := by decide +kernel
theorem k10_28 : decode (q_mB 10) 28 = .ok (.iand, 1) := by decide +kernel
theorem k10_29 : decode (q_mB 10) 29 = .ok (.ior, 1) := by decide +kernel
theorem k10_30 : decode (q_mB 10) 30 = .ok (.istore_n 2, 1) := by decide +kernel
theorem k10_31 : decode (q_mB 10) 31 = .ok (.iload_n 1, 1) := by decide +kernel
theorem k10_32 : decode (q_mB 10) 32 = .ok (.iload 4, 2) := by decide +kernel
theorem k10_34 : decode (q_mB 10) 34 = .ok (.ior, 1) := by decide +kernel
theorem k10_35 : decode (q_mB 10) 35 = .ok (.istore_n 1, 1) := by decide +kernel
theorem k10_36 : decode (q_mB 10) 36 = .ok (.iinc 3 1, 3) := by decide +kernel
theorem k10_39 : decode (q_mB 10) 39 = .ok (.goto (-33), 3) := by decide +kernel
theorem k10_42 : decode (q_mB 10) 42 = .ok (.iconst 0, 1) := by decide +kernel
theorem k10_43 : decode (q_mB 10) 43 = .ok (.istore_n 3, 1) := by decide +kernel
theorem k10_44 : decode (q_mB 10) 44 = .ok (.iload_n 3, 1) := by decide +kernel
theorem k10_45 : decode (q_mB 10) 45 = .ok (.aload_n 0, 1) := by decide +kernel
theorem k10_46 : decode (q_mB 10) 46 = .ok (.getfield 12, 3) := by decide +kernel
theorem k10_49 : decode (q_mB 10) 49 = .ok (.getfield 74, 3) := by decide +kernel
theorem k10_52 : decode (q_mB 10) 52 = .ok (.if_icmp .ge 19, 3) := by decide +kernel
theorem k10_55 : decode (q_mB 10) 55 = .ok (.iload_n 2, 1) := by decide +kernel
theorem k10_56 : decode (q_mB 10) 56 = .ok (.iload_n 3, 1) := by decide +kernel
theorem k10_57 : decode (q_mB 10) 57 = .ok (.invokestatic 77, 3) := by decide +kernel
theorem k10_60 : decode (q_mB 10) 60 = .ok (.ifCond .eq 5, 3) := by decide +kernel
theorem k10_63 : decode (q_mB 10) 63 = .ok (.iload_n 3, 1) := by decide +kernel
theorem k10_64 : decode (q_mB 10) 64 = .ok (.ireturn, 1) := by decide +kernel
theorem k10_65 : decode (q_mB 10) 65 = .ok (.iinc 3 1, 3) := by decide +kernel
theorem k10_68 : decode (q_mB 10) 68 = .ok (.goto (-24), 3) := by decide +kernel
theorem k10_71 : decode (q_mB 10) 71 = .ok (.bipush (-9), 2) := by decide +kernel
theorem k10_73 : decode (q_mB 10) 73 = .ok (.ireturn, 1) := by decide +kernel
theorem k11_0 : decode (q_mB 11) 0 = .ok (.iconst 0, 1) := by decide +kernel
theorem k11_1 : decode (q_mB 11) 1 = .ok (.istore 4, 2) := by decide +kernel
theorem k11_3 : decode (q_mB 11) 3 = .ok (.iload 4, 2) := by decide +kernel
theorem k11_5 : decode (q_mB 11) 5 = .ok (.iload_n 2, 1) := by decide +kernel
theorem k11_6 : decode (q_mB 11) 6 = .ok (.if_icmp .ge 31, 3) := by decide +kernel
theorem k11_9 : decode (q_mB 11) 9 = .ok (.aload_n 0, 1) := by decide +kernel
theorem k11_10 : decode (q_mB 11) 10 = .ok (.iload 4, 2) := by decide +kernel
theorem k11_12 : decode (q_mB 11) 12 = .ok (.iload_n 2, 1) := by decide +kernel
theorem k11_13 : decode (q_mB 11) 13 = .ok (.iload_n 3, 1) := by decide +kernel
theorem k11_14 : decode (q_mB 11) 14 = .ok (.invokevirtual 7, 3) := by decide +kernel
theorem k11_17 : decode (q_mB 11) 17 = .ok (.iload_n 1, 1) := by decide +kernel
theorem k11_18 : decode (q_mB 11) 18 = .ok (.iload 4, 2) := by decide +kernel
theorem k11_20 : decode (q_mB 11) 20 = .ok (.invokestatic 13, 3) := by decide +kernel
theorem k11_23 : decode (q_mB 11) 23 = .ok (.ishr, 1) := by decide +kernel
theorem k11_24 : decode (q_mB 11) 24 = .ok (.iconst 1, 1) := by decide +kernel
theorem k11_25 : decode (q_mB 11) 25 = .ok (.iand, 1) := by decide +kernel
theorem k11_26 : decode (q_mB 11) 26 = .ok (.ifCond .ne 5, 3) := by decide +kernel
theorem k11_29 : decode (q_mB 11) 29 = .ok (.iconst 0, 1) := by decide +kernel
theorem k11_30 : decode (q_mB 11) 30 = .ok (.ireturn, 1) := by decide +kernel
theorem k11_31 : decode (q_mB 11) 31 = .ok (.iinc 4 1, 3) := by decide +kernel
theorem k11_34 : decode (q_mB 11) 34 = .ok (.goto (-31), 3) := by decide +kernel
theorem k11_37 : decode (q_mB 11) 37 = .ok (.iconst 1, 1) := by decide +kernel
theorem k11_38 : decode (q_mB 11) 38 = .ok (.ireturn, 1) := by decide +kernel
theorem k12_0 : decode (q_mB 12) 0 = .ok (.iload_n 1, 1) := by decide +kernel
theorem k12_1 : decode (q_mB 12) 1 = .ok (.iconst 1, 1) := by decide +kernel
theorem k12_2 : decode (q_mB 12) 2 = .ok (.iadd, 1) := by decide +kernel
theorem k12_3 : decode (q_mB 12) 3 = .ok (.iload_n 2, 1) := by decide +kernel
theorem k12_4 : decode (q_mB 12) 4 = .ok (.if_icmp .ge 9, 3) := by decide +kernel
theorem k12_7 : decode (q_mB 12) 7 = .ok (.iload_n 1, 1) := by decide +kernel
theorem k12_8 : decode (q_mB 12) 8 = .ok (.iconst 1, 1) := by decide +kernel
theorem k12_9 : decode (q_mB 12) 9 = .ok (.iadd, 1) := by decide +kernel
theorem k12_10 : decode (q_mB 12) 10 = .ok (.goto 4, 3) := by decide +kernel
theorem k12_13 : decode (q_mB 12) 13 = .ok (.iconst 0, 1) := by decide +kernel
theorem k12_14 : decode (q_mB 12) 14 = .ok (.ireturn, 1) := by decide +kernel
theorem k13_0 : decode (q_mB 13) 0 = .ok (.iload_n 1, 1) := by decide +kernel
theorem k13_1 : decode (q_mB 13) 1 = .ok (.ireturn, 1) := by decide +kernel
theorem k14_0 : decode (q_mB 14) 0 = .ok (.iconst 1, 1) := by decide +kernel
theorem k14_1 : decode (q_mB 14) 1 = .ok (.aload_n 0, 1) := by decide +kernel
theorem k14_2 : decode (q_mB 14) 2 = .ok (.iload_n 1, 1) := by decide +kernel
theorem k14_3 : decode (q_mB 14) 3 = .ok (.iload_n 2, 1) := by decide +kernel
theorem k14_4 : decode (q_mB 14) 4 = .ok (.iload_n 3, 1) := by decide +kernel
theorem k14_5 : decode (q_mB 14) 5 = .ok (.invokevirtual 7, 3) := by decide +kernel
theorem k14_8 : decode (q_mB 14) 8 = .ok (.ishl, 1) := by decide +kernel
theorem k14_9 : decode (q_mB 14) 9 = .ok (.ireturn, 1) := by decide +kernel
theorem k15_0 : decode (q_mB 15) 0 = .ok (.aload_n 0, 1) := by decide +kernel
theorem k15_1 : decode (q_mB 15) 1 = .ok (.aload_n 1, 1) := by decide +kernel
theorem k15_2 : decode (q_mB 15) 2 = .ok (.getfield 30, 3) := by decide +kernel
theorem k15_5 : decode (q_mB 15) 5 = .ok (.putfield 30, 3) := by decide +kernel
theorem k15_8 : decode (q_mB 15) 8 = .ok (.aload_n 0, 1) := by decide +kernel
theorem k15_9 : decode (q_mB 15) 9 = .ok (.aload_n 1, 1) := by decide +kernel
theorem k15_10 : decode (q_mB 15) 10 = .ok (.getfield 34, 3) := by decide +kernel
theorem k15_13 : decode (q_mB 15) 13 = .ok (.putfield 34, 3) := by decide +kernel
theorem k15_16 : decode (q_mB 15) 16 = .ok (.aload_n 0, 1) := by decide +kernel
theorem k15_17 : decode (q_mB 15) 17 = .ok (.aload_n 1, 1) := by decide +kernel
theorem k15_18 : decode (q_mB 15) 18 = .ok (.getfield 37, 3) := by decide +kernel
theorem k15_21 : decode (q_mB 15) 21 = .ok (.putfield 37, 3) := by decide +kernel
theorem k15_24 : decode (q_mB 15) 24 = .ok (.aload_n 0, 1) := by decide +kernel
theorem k15_25 : decode (q_mB 15) 25 = .ok (.aload_n 1, 1) := by decide +kernel
theorem k15_26 : decode (q_mB 15) 26 = .ok (.getfield 40, 3) := by decide +kernel
theorem k15_29 : decode (q_mB 15) 29 = .ok (.putfield 40, 3) := by decide +kernel
theorem k15_32 : decode (q_mB 15) 32 = .ok (.aload_n 0, 1) := by decide +kernel
theorem k15_33 : decode (q_mB 15) 33 = .ok (.aload_n 1, 1) := by decide +kernel
theorem k15_34 : decode (q_mB 15) 34 = .ok (.getfield 43, 3) := by decide +kernel
theorem k15_37 : decode (q_mB 15) 37 = .ok (.putfield 43, 3) := by decide +kernel
theorem k15_40 : decode (q_mB 15) 40 = .ok (.aload_n 1, 1) := by decide +kernel
theorem k15_41 : decode (q_mB 15) 41 = .ok (.getfield 9, 3) := by decide +kernel
theorem k15_44 : decode (q_mB 15) 44 = .ok (.iconst 0, 1) := by decide +kernel
theorem k15_45 : decode (q_mB 15) 45 = .ok (.aload_n 0, 1) := by decide +kernel
theorem k15_46 : decode (q_mB 15) 46 = .ok (.getfield 9, 3) := by decide +kernel
theorem k15_49 : decode (q_mB 15) 49 = .ok (.iconst 0, 1) := by decide +kernel
theorem k15_50 : decode (q_mB 15) 50 = .ok (.bipush 30, 2) := by decide +kernel
theorem k15_52 : decode (q_mB 15) 52 = .ok (.invokestatic 46, 3) := by decide +kernel
theorem k15_55 : decode (q_mB 15) 55 = .ok (.aload_n 1, 1) := by decide +kernel
theorem k15_56 : decode (q_mB 15) 56 = .ok (.getfield 15, 3) := by decide +kernel
theorem k15_59 : decode (q_mB 15) 59 = .ok (.iconst 0, 1) := by decide +kernel
theorem k15_60 : decode (q_mB 15) 60 = .ok (.aload_n 0, 1) := by decide +kernel
theorem k15_61 : decode (q_mB 15) 61 = .ok (.getfield 15, 3) := by decide +kernel
theorem k15_64 : decode (q_mB 15) 64 = .ok (.iconst 0, 1) := by decide +kernel
theorem k15_65 : decode (q_mB 15) 65 = .ok (.bipush 30, 2) := by decide +kernel
theorem k15_67 : decode (q_mB 15) 67 = .ok (.invokestatic 46, 3) := by decide +kernel
theorem k15_70 : decode (q_mB 15) 70 = .ok (.aload_n 1, 1) := by decide +kernel
theorem k15_71 : decode (q_mB 15) 71 = .ok (.getfield 18, 3) := by decide +kernel
theorem k15_74 : decode (q_mB 15) 74 = .ok (.iconst 0, 1) := by decide +kernel
theorem k15_75 : decode (q_mB 15) 75 = .ok (.aload_n 0, 1) := by decide +kernel
theorem k15_76 : decode (q_mB 15) 76 = .ok (.getfield 18, 3) := by decide +kernel
theorem k15_79 : decode (q_mB 15) 79 = .ok (.iconst 0, 1) := by decide +kernel
theorem k15_80 : decode (q_mB 15) 80 = .ok (.bipush 30, 2) := by decide +kernel
theorem k15_82 : decode (q_mB 15) 82 = .ok (.invokestatic 46, 3) := by decide +kernel
theorem k15_85 : decode (q_mB 15) 85 = .ok (.aload_n 1, 1) := by decide +kernel
theorem k15_86 : decode (q_mB 15) 86 = .ok (.getfield 21, 3) := by decide +kernel
theorem k15_89 : decode (q_mB 15) 89 = .ok (.iconst 0, 1) := by decide +kernel
theorem k15_90 : decode (q_mB 15) 90 = .ok (.aload_n 0, 1) := by decide +kernel
theorem k15_91 : decode (q_mB 15) 91 = .ok (.getfield 21, 3) := by decide +kernel
theorem k15_94 : decode (q_mB 15) 94 = .ok (.iconst 0, 1) := by decide +kernel
theorem k15_95 : decode (q_mB 15) 95 = .ok (.iconst 3, 1) := by decide +kernel
theorem k15_96 : decode (q_mB 15) 96 = .ok (.invokestatic 46, 3) := by decide +kernel
theorem k15_99 : decode (q_mB 15) 99 = .ok (.aload_n 1, 1) := by decide +kernel
theorem k15_100 : decode (q_mB 15) 100 = .ok (.getfield 24, 3) := by decide +kernel
theorem k15_103 : decode (q_mB 15) 103 = .ok (.iconst 0, 1) := by decide +kernel
theorem k15_104 : decode (q_mB 15) 104 = .ok (.aload_n 0, 1) := by decide +kernel
theorem k15_105 : decode (q_mB 15) 105 = .ok (.getfield 24, 3) := by decide +kernel
theorem k15_108 : decode (q_mB 15) 108 = .ok (.iconst 0, 1) := by decide +kernel
theorem k15_109 : decode (q_mB 15) 109 = .ok (.iconst 3, 1) := by decide +kernel
theorem k15_110 : decode (q_mB 15) 110 = .ok (.invokestatic 46, 3) := by decide +kernel
theorem k15_113 : decode (q_mB 15) 113 = .ok (.return_, 1) := by decide +kernel
theorem k16_0 : decode (q_mB 16) 0 = .ok (.aload_n 0, 1) := by decide +kernel
theorem k16_1 : decode (q_mB 16) 1 = .ok (.invokevirtual 52, 3) := by decide +kernel
theorem k16_4 : decode (q_mB 16) 4 = .ok (.iload_n 2, 1) := by decide +kernel
theorem k16_5 : decode (q_mB 16) 5 = .ok (.aload_n 1, 1) := by decide +kernel
theorem k16_6 : decode (q_mB 16) 6 = .ok (.arraylength, 1) := by decide +kernel
theorem k16_7 : decode (q_mB 16) 7 = .ok (.invokestatic 55, 3) := by decide +kernel
theorem k16_10 : decode (q_mB 16) 10 = .ok (.istore_n 3, 1) := by decide +kernel
theorem k16_11 : decode (q_mB 16) 11 = .ok (.iconst 0, 1) := by decide +kernel
theorem k16_12 : decode (q_mB 16) 12 = .ok (.istore 4, 2) := by decide +kernel
theorem k16_14 : decode (q_mB 16) 14 = .ok (.iload 4, 2) := by decide +kernel
theorem k16_16 : decode (q_mB 16) 16 = .ok (.iload_n 3, 1) := by decide +kernel
theorem k16_17 : decode (q_mB 16) 17 = .ok (.if_icmp .ge 47, 3) := by decide +kernel
theorem k16_20 : decode (q_mB 16) 20 = .ok (.aload_n 1, 1) := by decide +kernel
theorem k16_21 : decode (q_mB 16) 21 = .ok (.iload 4, 2) := by decide +kernel
theorem k16_23 : decode (q_mB 16) 23 = .ok (.iaload, 1) := by decide +kernel
theorem k16_24 : decode (q_mB 16) 24 = .ok (.bipush 47, 2) := by decide +kernel
theorem k16_26 : decode (q_mB 16) 26 = .ok (.if_icmp .ne 10, 3) := by decide +kernel
theorem k16_29 : decode (q_mB 16) 29 = .ok (.aload_n 0, 1) := by decide +kernel
theorem k16_30 : decode (q_mB 16) 30 = .ok (.invokevirtual 61, 3) := by decide +kernel
theorem k16_33 : decode (q_mB 16) 33 = .ok (.goto 11, 3) := by decide +kernel
theorem k16_36 : decode (q_mB 16) 36 = .ok (.aload_n 0, 1) := by decide +kernel
theorem k16_37 : decode (q_mB 16) 37 = .ok (.aload_n 1, 1) := by decide +kernel
theorem k16_38 : decode (q_mB 16) 38 = .ok (.iload 4, 2) := by decide +kernel
theorem k16_40 : decode (q_mB 16) 40 = .ok (.iaload, 1) := by decide +kernel
theorem k16_41 : decode (q_mB 16) 41 = .ok (.invokevirtual 65, 3) := by decide +kernel
theorem k16_44 : decode (q_mB 16) 44 = .ok (.istore 5, 2) := by decide +kernel
theorem k16_46 : decode (q_mB 16) 46 = .ok (.iload 5, 2) := by decide +kernel
theorem k16_48 : decode (q_mB 16) 48 = .ok (.ifCond .ne 10, 3) := by decide +kernel
theorem k16_51 : decode (q_mB 16) 51 = .ok (.sipush (-1000), 3) := by decide +kernel
theorem k16_54 : decode (q_mB 16) 54 = .ok (.iload 4, 2) := by decide +kernel
theorem k16_56 : decode (q_mB 16) 56 = .ok (.isub, 1) := by decide +kernel
theorem k16_57 : decode (q_mB 16) 57 = .ok (.ireturn, 1) := by decide +kernel
theorem k16_58 : decode (q_mB 16) 58 = .ok (.iinc 4 1, 3) := by decide +kernel
theorem k16_61 : decode (q_mB 16) 61 = .ok (.goto (-47), 3) := by decide +kernel
theorem k16_64 : decode (q_mB 16) 64 = .ok (.aload_n 0, 1) := by decide +kernel
theorem k16_65 : decode (q_mB 16) 65 = .ok (.getfield 30, 3) := by decide +kernel
theorem k16_68 : decode (q_mB 16) 68 = .ok (.iconst 1, 1) := by decide +kernel
theorem k16_69 : decode (q_mB 16) 69 = .ok (.if_icmp .lt 14, 3) := by decide +kernel
theorem k16_72 : decode (q_mB 16) 72 = .ok (.aload_n 0, 1) := by decide +kernel
theorem k16_73 : decode (q_mB 16) 73 = .ok (.getfield 69, 3) := by decide +kernel
theorem k16_76 : decode (q_mB 16) 76 = .ok (.aload_n 0, 1) := by decide +kernel
theorem k16_77 : decode (q_mB 16) 77 = .ok (.getfield 34, 3) := by decide +kernel
theorem k16_80 : decode (q_mB 16) 80 = .ok (.if_icmp .eq 9, 3) := by decide +kernel
theorem k16_83 : decode (q_mB 16) 83 = .ok (.sipush (-1000), 3) := by decide +kernel
theorem k16_86 : decode (q_mB 16) 86 = .ok (.iload_n 3, 1) := by decide +kernel
theorem k16_87 : decode (q_mB 16) 87 = .ok (.isub, 1) := by decide +kernel
theorem k16_88 : decode (q_mB 16) 88 = .ok (.ireturn, 1) := by decide +kernel
theorem k16_89 : decode (q_mB 16) 89 = .ok (.aload_n 0, 1) := by decide +kernel
theorem k16_90 : decode (q_mB 16) 90 = .ok (.dup, 1) := by decide +kernel
theorem k16_91 : decode (q_mB 16) 91 = .ok (.getfield 30, 3) := by decide +kernel
theorem k16_94 : decode (q_mB 16) 94 = .ok (.iconst 1, 1) := by decide +kernel
theorem k16_95 : decode (q_mB 16) 95 = .ok (.iadd, 1) := by decide +kernel
theorem k16_96 : decode (q_mB 16) 96 = .ok (.putfield 30, 3) := by decide +kernel
theorem k16_99 : decode (q_mB 16) 99 = .ok (.aload_n 0, 1) := by decide +kernel
theorem k16_100 : decode (q_mB 16) 100 = .ok (.invokevirtual 72, 3) := by decide +kernel
theorem k16_103 : decode (q_mB 16) 103 = .ok (.ifCond .eq 7, 3) := by decide +kernel
theorem k16_106 : decode (q_mB 16) 106 = .ok (.iconst 0, 1) := by decide +kernel
theorem k16_107 : decode (q_mB 16) 107 = .ok (.goto 6, 3) := by decide +kernel
theorem k16_110 : decode (q_mB 16) 110 = .ok (.sipush (-2000), 3) := by decide +kernel
theorem k16_113 : decode (q_mB 16) 113 = .ok (.ireturn, 1) := by decide +kernel
theorem k17_0 : decode (q_mB 17) 0 = .ok (.aload_n 0, 1) := by decide +kernel
theorem k17_1 : decode (q_mB 17) 1 = .ok (.iconst 0, 1) := by decide +kernel
theorem k17_2 : decode (q_mB 17) 2 = .ok (.putfield 30, 3) := by decide +kernel
theorem k17_5 : decode (q_mB 17) 5 = .ok (.aload_n 0, 1) := by decide +kernel
theorem k17_6 : decode (q_mB 17) 6 = .ok (.iconst 0, 1) := by decide +kernel
theorem k17_7 : decode (q_mB 17) 7 = .ok (.putfield 34, 3) := by decide +kernel
theorem k17_10 : decode (q_mB 17) 10 = .ok (.aload_n 0, 1) := by decide +kernel
theorem k17_11 : decode (q_mB 17) 11 = .ok (.iconst 0, 1) := by decide +kernel
theorem k17_12 : decode (q_mB 17) 12 = .ok (.putfield 37, 3) := by decide +kernel
theorem k17_15 : decode (q_mB 17) 15 = .ok (.aload_n 0, 1) := by decide +kernel
theorem k17_16 : decode (q_mB 17) 16 = .ok (.iconst 0, 1) := by decide +kernel
theorem k17_17 : decode (q_mB 17) 17 = .ok (.putfield 40, 3) := by decide +kernel
theorem k17_20 : decode (q_mB 17) 20 = .ok (.aload_n 0, 1) := by decide +kernel
theorem k17_21 : decode (q_mB 17) 21 = .ok (.iconst 0, 1) := by decide +kernel
theorem k17_22 : decode (q_mB 17) 22 = .ok (.putfield 43, 3) := by decide +kernel
theorem k17_25 : decode (q_mB 17) 25 = .ok (.aload_n 0, 1) := by decide +kernel
theorem k17_26 : decode (q_mB 17) 26 = .ok (.iconst 0, 1) := by decide +kernel
theorem k17_27 : decode (q_mB 17) 27 = .ok (.putfield 69, 3) := by decide +kernel
theorem k17_30 : decode (q_mB 17) 30 = .ok (.aload_n 0, 1) := by decide +kernel
theorem k17_31 : decode (q_mB 17) 31 = .ok (.getfield 21, 3) := by decide +kernel
theorem k17_34 : decode (q_mB 17) 34 = .ok (.iconst (-1), 1) := by decide +kernel
theorem k17_35 : decode (q_mB 17) 35 = .ok (.invokestatic 75, 3) := by decide +kernel
theorem k17_38 : decode (q_mB 17) 38 = .ok (.aload_n 0, 1) := by decide +kernel
theorem k17_39 : decode (q_mB 17) 39 = .ok (.getfield 24, 3) := by decide +kernel
theorem k17_42 : decode (q_mB 17) 42 = .ok (.iconst (-1), 1) := by decide +kernel
theorem k17_43 : decode (q_mB 17) 43 = .ok (.invokestatic 75, 3) := by decide +kernel
theorem k17_46 : decode (q_mB 17) 46 = .ok (.return_, 1) := by decide +kernel
theorem k18_0 : decode (q_mB 18) 0 = .ok (.aload_n 0, 1) := by decide +kernel
theorem k18_1 : decode (q_mB 18) 1 = .ok (.getfield 34, 3) := by decide +kernel
theorem k18_4 : decode (q_mB 18) 4 = .ok (.ifCond .ne 19, 3) := by decide +kernel
theorem k18_7 : decode (q_mB 18) 7 = .ok (.aload_n 0, 1) := by decide +kernel
theorem k18_8 : decode (q_mB 18) 8 = .ok (.getfield 69, 3) := by decide +kernel
theorem k18_11 : decode (q_mB 18) 11 = .ok (.iconst 2, 1) := by decide +kernel
theorem k18_12 : decode (q_mB 18) 12 = .ok (.if_icmp .lt 7, 3) := by decide +kernel
theorem k18_15 : decode (q_mB 18) 15 = .ok (.iconst 1, 1) := by decide +kernel
theorem k18_16 : decode (q_mB 18) 16 = .ok (.goto 23, 3) := by decide +kernel
theorem k18_19 : decode (q_mB 18) 19 = .ok (.iconst 0, 1) := by decide +kernel
theorem k18_20 : decode (q_mB 18) 20 = .ok (.goto 19, 3) := by decide +kernel
theorem k18_23 : decode (q_mB 18) 23 = .ok (.aload_n 0, 1) := by decide +kernel
theorem k18_24 : decode (q_mB 18) 24 = .ok (.getfield 69, 3) := by decide +kernel
theorem k18_27 : decode (q_mB 18) 27 = .ok (.aload_n 0, 1) := by decide +kernel
theorem k18_28 : decode (q_mB 18) 28 = .ok (.getfield 34, 3) := by decide +kernel
theorem k18_31 : decode (q_mB 18) 31 = .ok (.if_icmp .ne 7, 3) := by decide +kernel
theorem k18_34 : decode (q_mB 18) 34 = .ok (.iconst 1, 1) := by decide +kernel
theorem k18_35 : decode (q_mB 18) 35 = .ok (.goto 4, 3) := by decide +kernel
theorem k18_38 : decode (q_mB 18) 38 = .ok (.iconst 0, 1) := by decide +kernel
theorem k18_39 : decode (q_mB 18) 39 = .ok (.istore_n 1, 1) := by decide +kernel
theorem k18_40 : decode (q_mB 18) 40 = .ok (.iload_n 1, 1) := by decide +kernel
theorem k18_41 : decode (q_mB 18) 41 = .ok (.ifCond .eq 14, 3) := by decide +kernel
theorem k18_44 : decode (q_mB 18) 44 = .ok (.aload_n 0, 1) := by decide +kernel
theorem k18_45 : decode (q_mB 18) 45 = .ok (.getfield 30, 3) := by decide +kernel
theorem k18_48 : decode (q_mB 18) 48 = .ok (.iconst 1, 1) := by decide +kernel
theorem k18_49 : decode (q_mB 18) 49 = .ok (.iadd, 1) := by decide +kernel
theorem k18_50 : decode (q_mB 18) 50 = .ok (.bipush 6, 2) := by decide +kernel
theorem k18_52 : decode (q_mB 18) 52 = .ok (.if_icmp .lt 5, 3) := by decide +kernel
theorem k18_55 : decode (q_mB 18) 55 = .ok (.iconst 0, 1) := by decide +kernel
theorem k18_56 : decode (q_mB 18) 56 = .ok (.ireturn, 1) := by decide +kernel
theorem k18_57 : decode (q_mB 18) 57 = .ok (.aload_n 0, 1) := by decide +kernel
theorem k18_58 : decode (q_mB 18) 58 = .ok (.aload_n 0, 1) := by decide +kernel
theorem k18_59 : decode (q_mB 18) 59 = .ok (.getfield 69, 3) := by decide +kernel
theorem k18_62 : decode (q_mB 18) 62 = .ok (.putfield 34, 3) := by decide +kernel
theorem k18_65 : decode (q_mB 18) 65 = .ok (.aload_n 0, 1) := by decide +kernel
theorem k18_66 : decode (q_mB 18) 66 = .ok (.dup, 1) := by decide +kernel
theorem k18_67 : decode (q_mB 18) 67 = .ok (.getfield 30, 3) := by decide +kernel
theorem k18_70 : decode (q_mB 18) 70 = .ok (.iconst 1, 1) := by decide +kernel
theorem k18_71 : decode (q_mB 18) 71 = .ok (.iadd, 1) := by decide +kernel
theorem k18_72 : decode (q_mB 18) 72 = .ok (.putfield 30, 3) := by decide +kernel
theorem k18_75 : decode (q_mB 18) 75 = .ok (.aload_n 0, 1) := by decide +kernel
theorem k18_76 : decode (q_mB 18) 76 = .ok (.iconst 0, 1) := by decide +kernel
theorem k18_77 : decode (q_mB 18) 77 = .ok (.putfield 69, 3) := by decide +kernel
theorem k18_80 : decode (q_mB 18) 80 = .ok (.iconst 1, 1) := by decide +kernel
theorem k18_81 : decode (q_mB 18) 81 = .ok (.ireturn, 1) := by decide +kernel
theorem k19_0 : decode (q_mB 19) 0 = .ok (.aload_n 0, 1) := by decide +kernel
theorem k19_1 : decode (q_mB 19) 1 = .ok (.getfield 34, 3) := by decide +kernel
theorem k19_4 : decode (q_mB 19) 4 = .ok (.ifCond .ne 7, 3) := by decide +kernel
theorem k19_7 : decode (q_mB 19) 7 = .ok (.iconst 5, 1) := by decide +kernel
theorem k19_8 : decode (q_mB 19) 8 = .ok (.goto 7, 3) := by decide +kernel
theorem k19_11 : decode (q_mB 19) 11 = .ok (.aload_n 0, 1) := by decide +kernel
theorem k19_12 : decode (q_mB 19) 12 = .ok (.getfield 34, 3) := by decide +kernel
theorem k19_15 : decode (q_mB 19) 15 = .ok (.istore_n 2, 1) := by decide +kernel
theorem k19_16 : decode (q_mB 19) 16 = .ok (.aload_n 0, 1) := by decide +kernel
theorem k19_17 : decode (q_mB 19) 17 = .ok (.getfield 69, 3) := by decide +kernel
theorem k19_20 : decode (q_mB 19) 20 = .ok (.iload_n 2, 1) := by decide +kernel
theorem k19_21 : decode (q_mB 19) 21 = .ok (.if_icmp .ge 12, 3) := by decide +kernel
theorem k19_24 : decode (q_mB 19) 24 = .ok (.aload_n 0, 1) := by decide +kernel
theorem k19_25 : decode (q_mB 19) 25 = .ok (.getfield 37, 3) := by decide +kernel
theorem k19_28 : decode (q_mB 19) 28 = .ok (.bipush 30, 2) := by decide +kernel
theorem k19_30 : decode (q_mB 19) 30 = .ok (.if_icmp .lt 5, 3) := by decide +kernel
theorem k19_33 : decode (q_mB 19) 33 = .ok (.iconst 0, 1) := by decide +kernel
theorem k19_34 : decode (q_mB 19) 34 = .ok (.ireturn, 1) := by decide +kernel
theorem k19_35 : decode (q_mB 19) 35 = .ok (.iload_n 1, 1) := by decide +kernel
theorem k19_36 : decode (q_mB 19) 36 = .ok (.bipush 46, 2) := by decide +kernel
theorem k19_38 : decode (q_mB 19) 38 = .ok (.if_icmp .ne 12, 3) := by decide +kernel
theorem k19_41 : decode (q_mB 19) 41 = .ok (.aload_n 0, 1) := by decide +kernel
theorem k19_42 : decode (q_mB 19) 42 = .ok (.iconst 0, 1) := by decide +kernel
theorem k19_43 : decode (q_mB 19) 43 = .ok (.iconst 0, 1) := by decide +kernel
theorem k19_44 : decode (q_mB 19) 44 = .ok (.bipush (-9), 2) := by decide +kernel
theorem k19_46 : decode (q_mB 19) 46 = .ok (.invokevirtual 81, 3) := by decide +kernel
theorem k19_49 : decode (q_mB 19) 49 = .ok (.ireturn, 1) := by decide +kernel
theorem k19_50 : decode (q_mB 19) 50 = .ok (.iload_n 1, 1) := by decide +kernel
theorem k19_51 : decode (q_mB 19) 51 = .ok (.bipush 49, 2) := by decide +kernel
theorem k19_53 : decode (q_mB 19) 53 = .ok (.if_icmp .lt 21, 3) := by decide +kernel
theorem k19_56 : decode (q_mB 19) 56 = .ok (.iload_n 1, 1) := by decide +kernel
theorem k19_57 : decode (q_mB 19) 57 = .ok (.bipush 57, 2) := by decide +kernel
theorem k19_59 : decode (q_mB 19) 59 = .ok (.if_icmp .gt 15, 3) := by decide +kernel
theorem k19_62 : decode (q_mB 19) 62 = .ok (.aload_n 0, 1) := by decide +kernel
theorem k19_63 : decode (q_mB 19) 63 = .ok (.iconst 0, 1) := by decide +kernel
theorem k19_64 : decode (q_mB 19) 64 = .ok (.iload_n 1, 1) := by decide +kernel
theorem k19_65 : decode (q_mB 19) 65 = .ok (.bipush 48, 2) := by decide +kernel
theorem k19_67 : decode (q_mB 19) 67 = .ok (.isub, 1) := by decide +kernel
theorem k19_68 : decode (q_mB 19) 68 = .ok (.bipush (-9), 2) := by decide +kernel
theorem k19_70 : decode (q_mB 19) 70 = .ok (.invokevirtual 81, 3) := by decide +kernel
theorem k19_73 : decode (q_mB 19) 73 = .ok (.ireturn, 1) := by decide +kernel
theorem k19_74 : decode (q_mB 19) 74 = .ok (.iload_n 1, 1) := by decide +kernel
theorem k19_75 : decode (q_mB 19) 75 = .ok (.bipush 35, 2) := by decide +kernel
theorem k19_77 : decode (q_mB 19) 77 = .ok (.if_icmp .ne 22, 3) := by decide +kernel
theorem k19_80 : decode (q_mB 19) 80 = .ok (.aload_n 0, 1) := by decide +kernel
theorem k19_81 : decode (q_mB 19) 81 = .ok (.dup, 1) := by decide +kernel
theorem k19_82 : decode (q_mB 19) 82 = .ok (.getfield 40, 3) := by decide +kernel
theorem k19_85 : decode (q_mB 19) 85 = .ok (.iconst 1, 1) := by decide +kernel
theorem k19_86 : decode (q_mB 19) 86 = .ok (.iadd, 1) := by decide +kernel
theorem k19_87 : decode (q_mB 19) 87 = .ok (.putfield 40, 3) := by decide +kernel
theorem k19_90 : decode (q_mB 19) 90 = .ok (.aload_n 0, 1) := by decide +kernel
theorem k19_91 : decode (q_mB 19) 91 = .ok (.iconst 1, 1) := by decide +kernel
theorem k19_92 : decode (q_mB 19) 92 = .ok (.iconst 0, 1) := by decide +kernel
theorem k19_93 : decode (q_mB 19) 93 = .ok (.bipush (-9), 2) := by decide +kernel
theorem k19_95 : decode (q_mB 19) 95 = .ok (.invokevirtual 81, 3) := by decide +kernel
theorem k19_98 : decode (q_mB 19) 98 = .ok (.ireturn, 1) := by decide +kernel
theorem k19_99 : decode (q_mB 19) 99 = .ok (.iload_n 1, 1) := by decide +kernel
theorem k19_100 : decode (q_mB 19) 100 = .ok (.bipush 97, 2) := by decide +kernel
theorem k19_102 : decode (q_mB 19) 102 = .ok (.if_icmp .lt 23, 3) := by decide +kernel
theorem k19_105 : decode (q_mB 19) 105 = .ok (.iload_n 1, 1) := by decide +kernel
theorem k19_106 : decode (q_mB 19) 106 = .ok (.bipush 99, 2) := by decide +kernel
theorem k19_108 : decode (q_mB 19) 108 = .ok (.if_icmp .gt 17, 3) := by decide +kernel
theorem k19_111 : decode (q_mB 19) 111 = .ok (.aload_n 0, 1) := by decide +kernel
theorem k19_112 : decode (q_mB 19) 112 = .ok (.iconst 2, 1) := by decide +kernel
theorem k19_113 : decode (q_mB 19) 113 = .ok (.iload_n 1, 1) := by decide +kernel
theorem k19_114 : decode (q_mB 19) 114 = .ok (.bipush 97, 2) := by decide +kernel
theorem k19_116 : decode (q_mB 19) 116 = .ok (.isub, 1) := by decide +kernel
theorem k19_117 : decode (q_mB 19) 117 = .ok (.aload_n 0, 1) := by decide +kernel
theorem k19_118 : decode (q_mB 19) 118 = .ok (.getfield 21, 3) := by decide +kernel
theorem k19_121 : decode (q_mB 19) 121 = .ok (.invokevirtual 85, 3) := by decide +kernel
theorem k19_124 : decode (q_mB 19) 124 = .ok (.ireturn, 1) := by decide +kernel
theorem k19_125 : decode (q_mB 19) 125 = .ok (.iload_n 1, 1) := by decide +kernel
theorem k19_126 : decode (q_mB 19) 126 = .ok (.bipush 120, 2) := by decide +kernel
theorem k19_128 : decode (q_mB 19) 128 = .ok (.if_icmp .lt 23, 3) := by decide +kernel
theorem k19_131 : decode (q_mB 19) 131 = .ok (.iload_n 1, 1) := by decide +kernel
theorem k19_132 : decode (q_mB 19) 132 = .ok (.bipush 122, 2) := by decide +kernel
theorem k19_134 : decode (q_mB 19) 134 = .ok (.if_icmp .gt 17, 3) := by decide +kernel
theorem k19_137 : decode (q_mB 19) 137 = .ok (.aload_n 0, 1) := by decide +kernel
theorem k19_138 : decode (q_mB 19) 138 = .ok (.iconst 3, 1) := by decide +kernel
theorem k19_139 : decode (q_mB 19) 139 = .ok (.iload_n 1, 1) := by decide +kernel
theorem k19_140 : decode (q_mB 19) 140 = .ok (.bipush 120, 2) := by decide +kernel
theorem k19_142 : decode (q_mB 19) 142 = .ok (.isub, 1) := by decide +kernel
theorem k19_143 : decode (q_mB 19) 143 = .ok (.aload_n 0, 1) := by decide +kernel
theorem k19_144 : decode (q_mB 19) 144 = .ok (.getfield 24, 3) := by decide +kernel
theorem k19_147 : decode (q_mB 19) 147 = .ok (.invokevirtual 85, 3) := by decide +kernel
theorem k19_150 : decode (q_mB 19) 150 = .ok (.ireturn, 1) := by decide +kernel
theorem k19_151 : decode (q_mB 19) 151 = .ok (.iconst 0, 1) := by decide +kernel
theorem k19_152 : decode (q_mB 19) 152 = .ok (.ireturn, 1) := by decide +kernel
theorem k20_0 : decode (q_mB 20) 0 = .ok (.iload_n 2, 1) := by decide +kernel
theorem k20_1 : decode (q_mB 20) 1 = .ok (.ifCond .lt 15, 3) := by decide +kernel
theorem k20_4 : decode (q_mB 20) 4 = .ok (.iload_n 2, 1) := by decide +kernel
theorem k20_5 : decode (q_mB 20) 5 = .ok (.aload_n 3, 1) := by decide +kernel
theorem k20_6 : decode (q_mB 20) 6 = .ok (.arraylength, 1) := by decide +kernel
theorem k20_7 : decode (q_mB 20) 7 = .ok (.if_icmp .ge 9, 3) := by decide +kernel
theorem k20_10 : decode (q_mB 20) 10 = .ok (.aload_n 3, 1) := by decide +kernel
theorem k20_11 : decode (q_mB 20) 11 = .ok (.iload_n 2, 1) := by decide +kernel
theorem k20_12 : decode (q_mB 20) 12 = .ok (.iaload, 1) := by decide +kernel
theorem k20_13 : decode (q_mB 20) 13 = .ok (.ifCond .lt 5, 3) := by decide +kernel
theorem k20_16 : decode (q_mB 20) 16 = .ok (.iconst 0, 1) := by decide +kernel
theorem k20_17 : decode (q_mB 20) 17 = .ok (.ireturn, 1) := by decide +kernel
theorem k20_18 : decode (q_mB 20) 18 = .ok (.aload_n 3, 1) := by decide +kernel
theorem k20_19 : decode (q_mB 20) 19 = .ok (.iload_n 2, 1) := by decide +kernel
theorem k20_20 : decode (q_mB 20) 20 = .ok (.aload_n 0, 1) := by decide +kernel
theorem k20_21 : decode (q_mB 20) 21 = .ok (.getfield 37, 3) := by decide +kernel
theorem k20_24 : decode (q_mB 20) 24 = .ok (.iastore, 1) := by decide +kernel
theorem k20_25 : decode (q_mB 20) 25 = .ok (.aload_n 0, 1) := by decide +kernel
theorem k20_26 : decode (q_mB 20) 26 = .ok (.iload_n 1, 1) := by decide +kernel
theorem k20_27 : decode (q_mB 20) 27 = .ok (.iconst 0, 1) := by decide +kernel
theorem k20_28 : decode (q_mB 20) 28 = .ok (.iload_n 2, 1) := by decide +kernel
theorem k20_29 : decode (q_mB 20) 29 = .ok (.invokevirtual 81, 3) := by decide +kernel
theorem k20_32 : decode (q_mB 20) 32 = .ok (.ireturn, 1) := by decide +kernel
theorem k21_0 : decode (q_mB 21) 0 = .ok (.aload_n 0, 1) := by decide +kernel
theorem k21_1 : decode (q_mB 21) 1 = .ok (.getfield 9, 3) := by decide +kernel
theorem k21_4 : decode (q_mB 21) 4 = .ok (.aload_n 0, 1) := by decide +kernel
theorem k21_5 : decode (q_mB 21) 5 = .ok (.getfield 37, 3) := by decide +kernel
theorem k21_8 : decode (q_mB 21) 8 = .ok (.iload_n 1, 1) := by decide +kernel
theorem k21_9 : decode (q_mB 21) 9 = .ok (.iastore, 1) := by decide +kernel
theorem k21_10 : decode (q_mB 21) 10 = .ok (.aload_n 0, 1) := by decide +kernel
theorem k21_11 : decode (q_mB 21) 11 = .ok (.getfield 15, 3) := by decide +kernel
theorem k21_14 : decode (q_mB 21) 14 = .ok (.aload_n 0, 1) := by decide +kernel
theorem k21_15 : decode (q_mB 21) 15 = .ok (.getfield 37, 3) := by decide +kernel
theorem k21_18 : decode (q_mB 21) 18 = .ok (.iload_n 2, 1) := by decide +kernel
theorem k21_19 : decode (q_mB 21) 19 = .ok (.iastore, 1) := by decide +kernel
theorem k21_20 : decode (q_mB 21) 20 = .ok (.aload_n 0, 1) := by decide +kernel
theorem k21_21 : decode (q_mB 21) 21 = .ok (.getfield 18, 3) := by decide +kernel
theorem k21_24 : decode (q_mB 21) 24 = .ok (.aload_n 0, 1) := by decide +kernel
theorem k21_25 : decode (q_mB 21) 25 = .ok (.getfield 37, 3) := by decide +kernel
theorem k21_28 : decode (q_mB 21) 28 = .ok (.iload_n 3, 1) := by decide +kernel
theorem k21_29 : decode (q_mB 21) 29 = .ok (.iastore, 1) := by decide +kernel
theorem k21_30 : decode (q_mB 21) 30 = .ok (.aload_n 0, 1) := by decide +kernel
theorem k21_31 : decode (q_mB 21) 31 = .ok (.dup, 1) := by decide +kernel
theorem k21_32 : decode (q_mB 21) 32 = .ok (.getfield 37, 3) := by decide +kernel
theorem k21_35 : decode (q_mB 21) 35 = .ok (.iconst 1, 1) := by decide +kernel
theorem k21_36 : decode (q_mB 21) 36 = .ok (.iadd, 1) := by decide +kernel
theorem k21_37 : decode (q_mB 21) 37 = .ok (.putfield 37, 3) := by decide +kernel
theorem k21_40 : decode (q_mB 21) 40 = .ok (.aload_n 0, 1) := by decide +kernel
theorem k21_41 : decode (q_mB 21) 41 = .ok (.dup, 1) := by decide +kernel
theorem k21_42 : decode (q_mB 21) 42 = .ok (.getfield 69, 3) := by decide +kernel
theorem k21_45 : decode (q_mB 21) 45 = .ok (.iconst 1, 1) := by decide +kernel
theorem k21_46 : decode (q_mB 21) 46 = .ok (.iadd, 1) := by decide +kernel
theorem k21_47 : decode (q_mB 21) 47 = .ok (.putfield 69, 3) := by decide +kernel
theorem k21_50 : decode (q_mB 21) 50 = .ok (.iconst 1, 1) := by decide +kernel
theorem k21_51 : decode (q_mB 21) 51 = .ok (.ireturn, 1) := by decide +kernel
theorem k22_0 : decode (q_mB 22) 0 = .ok (.iconst 0, 1) := by decide +kernel
theorem k22_1 : decode (q_mB 22) 1 = .ok (.istore_n 1, 1) := by decide +kernel
theorem k22_2 : decode (q_mB 22) 2 = .ok (.iload_n 1, 1) := by decide +kernel
theorem k22_3 : decode (q_mB 22) 3 = .ok (.iconst 3, 1) := by decide +kernel
theorem k22_4 : decode (q_mB 22) 4 = .ok (.if_icmp .ge 72, 3) := by decide +kernel
theorem k22_7 : decode (q_mB 22) 7 = .ok (.aload_n 0, 1) := by decide +kernel
theorem k22_8 : decode (q_mB 22) 8 = .ok (.getfield 21, 3) := by decide +kernel
theorem k22_11 : decode (q_mB 22) 11 = .ok (.iload_n 1, 1) := by decide +kernel
theorem k22_12 : decode (q_mB 22) 12 = .ok (.iaload, 1) := by decide +kernel
theorem k22_13 : decode (q_mB 22) 13 = .ok (.ifCond .lt 7, 3) := by decide +kernel
theorem k22_16 : decode (q_mB 22) 16 = .ok (.iconst 1, 1) := by decide +kernel
theorem k22_17 : decode (q_mB 22) 17 = .ok (.goto 4, 3) := by decide +kernel
theorem k22_20 : decode (q_mB 22) 20 = .ok (.iconst 0, 1) := by decide +kernel
theorem k22_21 : decode (q_mB 22) 21 = .ok (.istore_n 2, 1) := by decide +kernel
theorem k22_22 : decode (q_mB 22) 22 = .ok (.aload_n 0, 1) := by decide +kernel
theorem k22_23 : decode (q_mB 22) 23 = .ok (.getfield 24, 3) := by decide +kernel
theorem k22_26 : decode (q_mB 22) 26 = .ok (.iload_n 1, 1) := by decide +kernel
theorem k22_27 : decode (q_mB 22) 27 = .ok (.iaload, 1) := by decide +kernel
theorem k22_28 : decode (q_mB 22) 28 = .ok (.ifCond .lt 7, 3) := by decide +kernel
theorem k22_31 : decode (q_mB 22) 31 = .ok (.iconst 1, 1) := by decide +kernel
theorem k22_32 : decode (q_mB 22) 32 = .ok (.goto 4, 3) := by decide +kernel
theorem k22_35 : decode (q_mB 22) 35 = .ok (.iconst 0, 1) := by decide +kernel
theorem k22_36 : decode (q_mB 22) 36 = .ok (.istore_n 3, 1) := by decide +kernel
theorem k22_37 : decode (q_mB 22) 37 = .ok (.iload_n 2, 1) := by decide +kernel
theorem k22_38 : decode (q_mB 22) 38 = .ok (.iload_n 3, 1) := by decide +kernel
theorem k22_39 : decode (q_mB 22) 39 = .ok (.if_icmp .ne 15, 3) := by decide +kernel
theorem k22_42 : decode (q_mB 22) 42 = .ok (.iload_n 2, 1) := by decide +kernel
theorem k22_43 : decode (q_mB 22) 43 = .ok (.ifCond .eq 13, 3) := by decide +kernel
theorem k22_46 : decode (q_mB 22) 46 = .ok (.iload_n 1, 1) := by decide +kernel
theorem k22_47 : decode (q_mB 22) 47 = .ok (.aload_n 0, 1) := by decide +kernel
theorem k22_48 : decode (q_mB 22) 48 = .ok (.getfield 43, 3) := by decide +kernel
theorem k22_51 : decode (q_mB 22) 51 = .ok (.if_icmp .eq 5, 3) := by decide +kernel
theorem k22_54 : decode (q_mB 22) 54 = .ok (.iconst 0, 1) := by decide +kernel
theorem k22_55 : decode (q_mB 22) 55 = .ok (.ireturn, 1) := by decide +kernel
theorem k22_56 : decode (q_mB 22) 56 = .ok (.iload_n 2, 1) := by decide +kernel
theorem k22_57 : decode (q_mB 22) 57 = .ok (.ifCond .eq 13, 3) := by decide +kernel
theorem k22_60 : decode (q_mB 22) 60 = .ok (.aload_n 0, 1) := by decide +kernel
theorem k22_61 : decode (q_mB 22) 61 = .ok (.dup, 1) := by decide +kernel
theorem k22_62 : decode (q_mB 22) 62 = .ok (.getfield 43, 3) := by decide +kernel
theorem k22_65 : decode (q_mB 22) 65 = .ok (.iconst 1, 1) := by decide +kernel
theorem k22_66 : decode (q_mB 22) 66 = .ok (.iadd, 1) := by decide +kernel
theorem k22_67 : decode (q_mB 22) 67 = .ok (.putfield 43, 3) := by decide +kernel
theorem k22_70 : decode (q_mB 22) 70 = .ok (.iinc 1 1, 3) := by decide +kernel
theorem k22_73 : decode (q_mB 22) 73 = .ok (.goto (-71), 3) := by decide +kernel
theorem k22_76 : decode (q_mB 22) 76 = .ok (.aload_n 0, 1) := by decide +kernel
theorem k22_77 : decode (q_mB 22) 77 = .ok (.getfield 43, 3) := by decide +kernel
theorem k22_80 : decode (q_mB 22) 80 = .ok (.ifCond .le 7, 3) := by decide +kernel
theorem k22_83 : decode (q_mB 22) 83 = .ok (.iconst 1, 1) := by decide +kernel
theorem k22_84 : decode (q_mB 22) 84 = .ok (.goto 4, 3) := by decide +kernel
theorem k22_87 : decode (q_mB 22) 87 = .ok (.iconst 0, 1) := by decide +kernel
theorem k22_88 : decode (q_mB 22) 88 = .ok (.ireturn, 1) := by decide +kernel
theorem k23_0 : decode (q_mB 23) 0 = .ok (.iload_n 1, 1) := by decide +kernel
theorem k23_1 : decode (q_mB 23) 1 = .ok (.ifCond .lt 15, 3) := by decide +kernel
theorem k23_4 : decode (q_mB 23) 4 = .ok (.iload_n 1, 1) := by decide +kernel
theorem k23_5 : decode (q_mB 23) 5 = .ok (.aload_n 0, 1) := by decide +kernel
theorem k23_6 : decode (q_mB 23) 6 = .ok (.getfield 37, 3) := by decide +kernel
theorem k23_9 : decode (q_mB 23) 9 = .ok (.if_icmp .ge 7, 3) := by decide +kernel
theorem k23_12 : decode (q_mB 23) 12 = .ok (.iconst 1, 1) := by decide +kernel
theorem k23_13 : decode (q_mB 23) 13 = .ok (.goto 4, 3) := by decide +kernel
theorem k23_16 : decode (q_mB 23) 16 = .ok (.iconst 0, 1) := by decide +kernel
theorem k23_17 : decode (q_mB 23) 17 = .ok (.ireturn, 1) := by decide +kernel
theorem k24_0 : decode (q_mB 24) 0 = .ok (.iload_n 1, 1) := by decide +kernel
theorem k24_1 : decode (q_mB 24) 1 = .ok (.ifCond .lt 15, 3) := by decide +kernel
theorem k24_4 : decode (q_mB 24) 4 = .ok (.iload_n 1, 1) := by decide +kernel
theorem k24_5 : decode (q_mB 24) 5 = .ok (.aload_n 0, 1) := by decide +kernel
theorem k24_6 : decode (q_mB 24) 6 = .ok (.getfield 43, 3) := by decide +kernel
theorem k24_9 : decode (q_mB 24) 9 = .ok (.if_icmp .ge 7, 3) := by decide +kernel
theorem k24_12 : decode (q_mB 24) 12 = .ok (.iconst 1, 1) := by decide +kernel
theorem k24_13 : decode (q_mB 24) 13 = .ok (.goto 4, 3) := by decide +kernel
theorem k24_16 : decode (q_mB 24) 16 = .ok (.iconst 0, 1) := by decide +kernel
theorem k24_17 : decode (q_mB 24) 17 = .ok (.ireturn, 1) := by decide +kernel
theorem k25_0 : decode (q_mB 25) 0 = .ok (.aload_n 0, 1) := by decide +kernel
theorem k25_1 : decode (q_mB 25) 1 = .ok (.iload_n 1, 1) := by decide +kernel
theorem k25_2 : decode (q_mB 25) 2 = .ok (.invokevirtual 89, 3) := by decide +kernel
theorem k25_5 : decode (q_mB 25) 5 = .ok (.ifCond .eq 12, 3) := by decide +kernel
theorem k25_8 : decode (q_mB 25) 8 = .ok (.aload_n 0, 1) := by decide +kernel
theorem k25_9 : decode (q_mB 25) 9 = .ok (.getfield 21, 3) := by decide +kernel
theorem k25_12 : decode (q_mB 25) 12 = .ok (.iload_n 1, 1) := by decide +kernel
theorem k25_13 : decode (q_mB 25) 13 = .ok (.iaload, 1) := by decide +kernel
theorem k25_14 : decode (q_mB 25) 14 = .ok (.goto 4, 3) := by decide +kernel
theorem k25_17 : decode (q_mB 25) 17 = .ok (.iconst (-1), 1) := by decide +kernel
theorem k25_18 : decode (q_mB 25) 18 = .ok (.ireturn, 1) := by decide +kernel
theorem k26_0 : decode (q_mB 26) 0 = .ok (.aload_n 0, 1) := by decide +kernel
theorem k26_1 : decode (q_mB 26) 1 = .ok (.iload_n 1, 1) := by decide +kernel
theorem k26_2 : decode (q_mB 26) 2 = .ok (.invokevirtual 89, 3) := by decide +kernel
theorem k26_5 : decode (q_mB 26) 5 = .ok (.ifCond .eq 12, 3) := by decide +kernel
theorem k26_8 : decode (q_mB 26) 8 = .ok (.aload_n 0, 1) := by decide +kernel
theorem k26_9 : decode (q_mB 26) 9 = .ok (.getfield 24, 3) := by decide +kernel
theorem k26_12 : decode (q_mB 26) 12 = .ok (.iload_n 1, 1) := by decide +kernel
theorem k26_13 : decode (q_mB 26) 13 = .ok (.iaload, 1) := by decide +kernel
theorem k26_14 : decode (q_mB 26) 14 = .ok (.goto 4, 3) := by decide +kernel
theorem k26_17 : decode (q_mB 26) 17 = .ok (.iconst (-1), 1) := by decide +kernel
theorem k26_18 : decode (q_mB 26) 18 = .ok (.ireturn, 1) := by decide +kernel
theorem k27_0 : decode (q_mB 27) 0 = .ok (.aload_n 0, 1) := by decide +kernel
theorem k27_1 : decode (q_mB 27) 1 = .ok (.iload_n 1, 1) := by decide +kernel
theorem k27_2 : decode (q_mB 27) 2 = .ok (.invokevirtual 92, 3) := by decide +kernel
theorem k27_5 : decode (q_mB 27) 5 = .ok (.ifCond .eq 11, 3) := by decide +kernel
theorem k27_8 : decode (q_mB 27) 8 = .ok (.aload_n 0, 1) := by decide +kernel
theorem k27_9 : decode (q_mB 27) 9 = .ok (.getfield 34, 3) := by decide +kernel
theorem k27_12 : decode (q_mB 27) 12 = .ok (.iconst 1, 1) := by decide +kernel
theorem k27_13 : decode (q_mB 27) 13 = .ok (.if_icmp .ge 5, 3) := by decide +kernel
theorem k27_16 : decode (q_mB 27) 16 = .ok (.iconst (-1), 1) := by decide +kernel
theorem k27_17 : decode (q_mB 27) 17 = .ok (.ireturn, 1) := by decide +kernel
theorem k27_18 : decode (q_mB 27) 18 = .ok (.iload_n 2, 1) := by decide +kernel
theorem k27_19 : decode (q_mB 27) 19 = .ok (.iconst 1, 1) := by decide +kernel
theorem k27_20 : decode (q_mB 27) 20 = .ok (.if_icmp .ne 20, 3) := by decide +kernel
theorem k27_23 : decode (q_mB 27) 23 = .ok (.iload_n 1, 1) := by decide +kernel
theorem k27_24 : decode (q_mB 27) 24 = .ok (.aload_n 0, 1) := by decide +kernel
theorem k27_25 : decode (q_mB 27) 25 = .ok (.getfield 34, 3) := by decide +kernel
theorem k27_28 : decode (q_mB 27) 28 = .ok (.irem, 1) := by decide +kernel
theorem k27_29 : decode (q_mB 27) 29 = .ok (.aload_n 0, 1) := by decide +kernel
theorem k27_30 : decode (q_mB 27) 30 = .ok (.getfield 34, 3) := by decide +kernel
theorem k27_33 : decode (q_mB 27) 33 = .ok (.iconst 1, 1) := by decide +kernel
theorem k27_34 : decode (q_mB 27) 34 = .ok (.isub, 1) := by decide +kernel
theorem k27_35 : decode (q_mB 27) 35 = .ok (.if_icmp .ne 5, 3) := by decide +kernel
theorem k27_38 : decode (q_mB 27) 38 = .ok (.iconst (-1), 1) := by decide +kernel
theorem k27_39 : decode (q_mB 27) 39 = .ok (.ireturn, 1) := by decide +kernel
theorem k27_40 : decode (q_mB 27) 40 = .ok (.iload_n 2, 1) := by decide +kernel
theorem k27_41 : decode (q_mB 27) 41 = .ok (.iconst 1, 1) := by decide +kernel
theorem k27_42 : decode (q_mB 27) 42 = .ok (.if_icmp .ne 9, 3) := by decide +kernel
theorem k27_45 : decode (q_mB 27) 45 = .ok (.iload_n 1, 1) := by decide +kernel
theorem k27_46 : decode (q_mB 27) 46 = .ok (.iconst 1, 1) := by decide +kernel
theorem k27_47 : decode (q_mB 27) 47 = .ok (.iadd, 1) := by decide +kernel
theorem k27_48 : decode (q_mB 27) 48 = .ok (.goto 9, 3) := by decide +kernel
theorem k27_51 : decode (q_mB 27) 51 = .ok (.iload_n 1, 1) := by decide +kernel
theorem k27_52 : decode (q_mB 27) 52 = .ok (.aload_n 0, 1) := by decide +kernel
theorem k27_53 : decode (q_mB 27) 53 = .ok (.getfield 34, 3) := by decide +kernel
theorem k27_56 : decode (q_mB 27) 56 = .ok (.iadd, 1) := by decide +kernel
theorem k27_57 : decode (q_mB 27) 57 = .ok (.istore_n 3, 1) := by decide +kernel
theorem k27_58 : decode (q_mB 27) 58 = .ok (.aload_n 0, 1) := by decide +kernel
theorem k27_59 : decode (q_mB 27) 59 = .ok (.iload_n 3, 1) := by decide +kernel
theorem k27_60 : decode (q_mB 27) 60 = .ok (.invokevirtual 92, 3) := by decide +kernel
theorem k27_63 : decode (q_mB 27) 63 = .ok (.ifCond .eq 17, 3) := by decide +kernel
theorem k27_66 : decode (q_mB 27) 66 = .ok (.aload_n 0, 1) := by decide +kernel
theorem k27_67 : decode (q_mB 27) 67 = .ok (.getfield 9, 3) := by decide +kernel
theorem k27_70 : decode (q_mB 27) 70 = .ok (.iload_n 3, 1) := by decide +kernel
theorem k27_71 : decode (q_mB 27) 71 = .ok (.iaload, 1) := by decide +kernel
theorem k27_72 : decode (q_mB 27) 72 = .ok (.iconst 1, 1) := by decide +kernel
theorem k27_73 : decode (q_mB 27) 73 = .ok (.if_icmp .eq 7, 3) := by decide +kernel
theorem k27_76 : decode (q_mB 27) 76 = .ok (.iload_n 3, 1) := by decide +kernel
theorem k27_77 : decode (q_mB 27) 77 = .ok (.goto 4, 3) := by decide +kernel
theorem k27_80 : decode (q_mB 27) 80 = .ok (.iconst (-1), 1) := by decide +kernel
theorem k27_81 : decode (q_mB 27) 81 = .ok (.ireturn, 1) := by decide +kernel
end
